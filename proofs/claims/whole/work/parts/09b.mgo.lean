/-! the reference's road and its rounds -/
theorem nI_sub {a b : Nat} (h : b ≤ a) : nI a - nI b = nI (a - b) := by
  have e : nI a = nI (a - b) + nI b := by rw [nI_add]; congr 1; omega
  rw [e, Int32.add_sub_cancel]
def agW (j : Nat) (nm wd : Nat → Int32) : Prop := wd 0 = nm 0 ∧ wd 1 = nm 1 ∧ wd 2 = nm 2 ∧ (j = 0 → wd 3 = nm 3) ∧ (j = 1 → wd 4 = nm 3 ∧ wd 5 = nm 4)
def lawM (f : Nat → Int32) (j : Nat) (o : Option DN) : Prop := match o with
  | none => f (4 + j) = 0
  | some g => f (4 + j) = 1 ∧ ∃ (b : Nat) (cs : List Nat), f (6 + j) = nI b ∧ f (8 + j) = nI cs.length ∧ b + cs.length ≤ 900 ∧ (∀ q, q < cs.length → f (284 + b + q) = nI (cs.getD q 0)) ∧ ∀ nm wd, Bd nm → agW j nm wd → mgo wd cs [] [g nm]
def MRo (f : Nat → Int32) (R : RD) : Prop :=
  f 2 = nI (rC R) ∧ f 3 = nI (rW R) ∧ f 1 = rP R ∧ f 0 = rN R ∧ (∀ c, c < rC R → f (10 + c) = rh R c ∧ f (16 + c) = rp R c) ∧
  (∀ w, w < rW R → f (22 + 4 * w) = nI (rf R w) ∧ f (22 + 4 * w + 1) = nI (rt R w) ∧ f (22 + 4 * w + 2) = rk R w ∧ f (22 + 4 * w + 3) = nI (rl R w)) ∧ lawM f 0 (rT R) ∧ lawM f 1 (rU R)
def kpd (x a b : Int32) : Int32 := if a ≤ x then (if x ≤ b then x else b) else a
theorem kpd_mm {x a b : Int32} (h : a ≤ b) : kpd x a b = mx a (mn b x) := by
  unfold kpd mx mn
  have hab := Int32.le_iff_toInt_le.mp h
  by_cases h1 : a ≤ x
  · have k1 := Int32.le_iff_toInt_le.mp h1
    rw [if_pos h1]
    by_cases h2 : x ≤ b
    · have k2 := Int32.le_iff_toInt_le.mp h2
      rw [if_pos h2]
      by_cases h3 : x < b
      · rw [if_pos h3]
        by_cases h4 : a < x
        · rw [if_pos h4]
        · rw [if_neg h4]
          have := Int32.le_iff_toInt_le.mp (Int32.not_lt.mp h4)
          exact Int32.toInt_inj.mp (by omega)
      · rw [if_neg h3]
        have k3 := Int32.le_iff_toInt_le.mp (Int32.not_lt.mp h3)
        have e : x = b := Int32.toInt_inj.mp (by omega)
        by_cases h4 : a < b
        · rw [if_pos h4]; exact e
        · rw [if_neg h4]
          have := Int32.le_iff_toInt_le.mp (Int32.not_lt.mp h4)
          exact Int32.toInt_inj.mp (by omega)
    · rw [if_neg h2]
      have k2 := Int32.lt_iff_toInt_lt.mp (Int32.not_le.mp h2)
      rw [if_neg (show ¬ x < b from fun q => by have := Int32.lt_iff_toInt_lt.mp q; omega)]
      by_cases h4 : a < b
      · rw [if_pos h4]
      · rw [if_neg h4]
        have := Int32.le_iff_toInt_le.mp (Int32.not_lt.mp h4)
        exact Int32.toInt_inj.mp (by omega)
  · rw [if_neg h1]
    have k1 := Int32.lt_iff_toInt_lt.mp (Int32.not_le.mp h1)
    rw [if_pos (show x < b from Int32.lt_iff_toInt_lt.mpr (by omega)), if_neg (show ¬ a < x from fun q => by have := Int32.lt_iff_toInt_lt.mp q; omega)]
theorem kpd_id {x a b : Int32} (h1 : a ≤ x) (h2 : x ≤ b) : kpd x a b = x := by unfold kpd; rw [if_pos h1, if_pos h2]
theorem le_lit {x : Int32} {n : Nat} (h : (x.toInt : Int) ≤ n) (hn : n < 2 ^ 31) : x ≤ nI n := Int32.le_iff_toInt_le.mpr (by rw [nI_toInt hn]; exact h)
theorem lit_le {x : Int32} {n : Nat} (h : (n : Int) ≤ x.toInt) (hn : n < 2 ^ 31) : nI n ≤ x := Int32.le_iff_toInt_le.mpr (by rw [nI_toInt hn]; exact h)
/-- the cells of words and stack -/
def mtS : Nat → Nat → Prop := fun r a => (r = 721 ∨ r = 722) ∧ a = 0
theorem mt_mon {I I' : MI} (h : Same mlS I I') : Same mtS I I' := h.mono (fun _ _ q => ⟨Or.inl q.1, q.2⟩)
theorem mt_no {I I' : MI} (h : Same mtS I I') {r : Nat} (h1 : r ≠ 721) (h2 : r ≠ 722) : I' r 0 = I r 0 := h r 0 (fun q => q.1.elim h1 h2)
section MGo
variable {d : Nat} {I : MI} {L : ML} {R : RD}
theorem wIx (w k : Nat) : ((22 : Int32) + ((4 : Int32) * nI w)) + nI k = nI (22 + 4 * w + k) := by
  have e1 : (4 : Int32) * nI w = nI (4 * w) := pk_mul 4 w
  have e2 : (22 : Int32) + nI (4 * w) = nI (22 + 4 * w) := nI_add 22 (4 * w)
  rw [e1, e2, nI_add]
theorem c_M_fromOf {w : Nat} {K : Int32 → MI → ML → Prop} (hd : 1 ≤ d) (hR : WF R) (hM : MRo (I 706 0) R) (hw : w < rW R) (h : K (nI (rf R w)) I L) : CI d m_M_fromOf [vR 704 0, vI (nI w)] I L K := by
  refine toCI (n := 0) hd (r_M_fromOf_0 ?_)
  have hW := hR.2.1
  have e := wIx w 0
  have e0 : nI 0 = (0 : Int32) := rfl
  rw [e0, Int32.add_zero] at e
  rw [e, cl_n (by omega)]
  refine ⟨vin (by omega) (by omega), _, rfl, ?_⟩
  rw [show 22 + 4 * w + 0 = 22 + 4 * w from rfl, (hM.2.2.2.2.2.1 w hw).1]
  exact h
theorem c_M_toOf {w : Nat} {K : Int32 → MI → ML → Prop} (hd : 1 ≤ d) (hR : WF R) (hM : MRo (I 706 0) R) (hw : w < rW R) (h : K (nI (rt R w)) I L) : CI d m_M_toOf [vR 704 0, vI (nI w)] I L K := by
  refine toCI (n := 0) hd (r_M_toOf_0 ?_)
  have hW := hR.2.1
  have e : ((22 : Int32) + ((4 : Int32) * nI w)) + 1 = nI (22 + 4 * w + 1) := wIx w 1
  rw [e, cl_n (by omega)]
  refine ⟨vin (by omega) (by omega), _, rfl, ?_⟩
  rw [(hM.2.2.2.2.2.1 w hw).2.1]
  exact h
theorem c_M_lagOf {w : Nat} {K : Int32 → MI → ML → Prop} (hd : 1 ≤ d) (hR : WF R) (hM : MRo (I 706 0) R) (hw : w < rW R) (h : K (nI (rl R w)) I L) : CI d m_M_lagOf [vR 704 0, vI (nI w)] I L K := by
  refine toCI (n := 0) hd (r_M_lagOf_0 ?_)
  have hW := hR.2.1
  have e : ((22 : Int32) + ((4 : Int32) * nI w)) + 3 = nI (22 + 4 * w + 3) := wIx w 3
  rw [e, cl_n (by omega)]
  refine ⟨vin (by omega) (by omega), _, rfl, ?_⟩
  rw [(hM.2.2.2.2.2.1 w hw).2.2.2]
  exact h
theorem c_M_kept {x a b : Int32} {K : Int32 → MI → ML → Prop} (hd : 1 ≤ d) (h : K (kpd x a b) I L) : CI d m_M_kept [vI x, vI a, vI b] I L K := by
  refine toCI (n := 0) hd (r_M_kept_0 ?_)
  unfold kpd at h
  refine ⟨fun q => ⟨fun q2 => ⟨_, rfl, ?_⟩, fun q2 => ⟨_, rfl, ?_⟩⟩, fun q => ⟨_, rfl, ?_⟩⟩
  · rw [if_pos q, if_pos q2] at h; exact h
  · rw [if_pos q, if_neg q2] at h; exact h
  · rw [if_neg q] at h; exact h
theorem c_M_law {j : Nat} {g : DN} {o : Option DN} {nm : Nat → Int32} {K : Int32 → MI → ML → Prop} (hd : 2 ≤ d) (hj : j < 2) (hM : lawM (I 706 0) j o) (ho : o = some g) (hb : Bd nm) (ha : agW j nm (I 722 0)) (h : ∀ I', Same mtS I I' → K (g nm) I' L) : CI d m_M_reckons [vR 704 0, vI (nI j)] I L K := by
  subst ho
  obtain ⟨_, b, cs, h6, h8, hl, hc, hg⟩ := hM
  exact c_M_reckons hd hj h6 h8 hl hc (hg nm _ hb ha) (fun I' hs => h I' (mt_mon hs))
theorem c_M_timeOf {w m : Nat} {K : Int32 → MI → ML → Prop} (hd : 3 ≤ d) (hR : WF R) (hM : MRo (I 706 0) R) (hw : w < rW R) (hm : m ≤ 9) (h : ∀ I', Same mtS I I' → K (tmO R (nI m) w) I' L) : CI d m_M_timeOf [vR 704 0, vI (nI w), vI (nI m)] I L K := by
  refine toCI (n := 2) hd (r_M_timeOf_0 ?_)
  have hW := hR.2.1
  have e2 : ((22 : Int32) + ((4 : Int32) * nI w)) + 2 = nI (22 + 4 * w + 2) := wIx w 2
  rw [e2, cl_n (by omega), (hM.2.2.2.2.2.1 w hw).2.2.1]
  refine ⟨vin (by omega) (by omega), ?_⟩
  have n6 : ∀ (J : MI) k x, ui J 722 0 k x 706 0 = J 706 0 := fun J k x => ui_off (by decide)
  refine c_M_fromOf (by omega) hR hM hw (c_M_toOf (by omega) hR (by rw [n6]; exact hM) hw ?_)
  have hs : Same mtS I (ui (ui (ui (ui I 722 0 0 (nI (rf R w))) 722 0 1 (nI (rt R w))) 722 0 2 (nI m)) 722 0 3 (rk R w)) := (((Same.rf.ui ⟨Or.inr rfl, rfl⟩).ui ⟨Or.inr rfl, rfl⟩).ui ⟨Or.inr rfl, rfl⟩).ui ⟨Or.inr rfl, rfl⟩
  have hag : agW 0 (nmO R w (nI m) (rk R w)) ((ui (ui (ui (ui I 722 0 0 (nI (rf R w))) 722 0 1 (nI (rt R w))) 722 0 2 (nI m)) 722 0 3 (rk R w)) 722 0) := by
    refine ⟨?_, ?_, ?_, fun _ => ?_, fun q => absurd q (by decide)⟩
    · simp [ui, nmO]
    · simp [ui, nmO]
    · simp [ui, nmO]
    · simp [ui, nmO]
  revert hs hag
  generalize (ui (ui (ui (ui I 722 0 0 (nI (rf R w))) 722 0 1 (nI (rt R w))) 722 0 2 (nI m)) 722 0 3 (rk R w)) = J
  intro hs hag
  have nJ : J 706 0 = I 706 0 := mt_no hs (by decide) (by decide)
  rw [nJ]
  have hk := hR.2.2.2.2.2.1 w hw
  have hl := hM.2.2.2.2.2.2.1
  unfold tmO at h
  cases hT : rT R with
  | none =>
    rw [hT] at hl h
    have hl : I 706 0 4 = 0 := hl
    rw [hl]
    refine ⟨fun _ => c_M_kept (by omega) ?_, fun q => absurd (by decide) q⟩
    have hr := rg_add hk (rg_n (n := m) (a := 0) (b := 9) (by omega) (by omega) (by omega)) (by omega) (by omega)
    have ek : kpd (rk R w + nI m) 0 999 = rk R w + nI m := kpd_id (lit_le (n := 0) (by have := hr.1; omega) (by omega)) (le_lit (n := 999) (by have := hr.2; omega) (by omega))
    rw [ek]
    exact ⟨_, rfl, h J hs⟩
  | some g =>
    have hl4 : I 706 0 4 = 1 := by rw [hT] at hl; exact hl.1
    rw [hl4]
    refine ⟨fun q => absurd rfl q, fun _ => ?_⟩
    rw [hT] at h
    refine c_M_law (j := 0) (g := g) (o := rT R) (nm := nmO R w (nI m) (rk R w)) (by omega) (by omega) (by rw [nJ]; exact hl) hT (Bd_nm hR hw hm (hk.mono (by omega) (by omega))) hag (fun I' hs' => ?_)
    refine c_M_kept (by omega) ⟨_, rfl, ?_⟩
    rw [kpd_mm (show (0 : Int32) ≤ 999 by decide)]
    exact h I' (hs.tr hs')
theorem c_M_isKept {w m : Nat} {x : Int32} {K : Int32 → MI → ML → Prop} (hd : 3 ≤ d) (hR : WF R) (hM : MRo (I 706 0) R) (hw : w < rW R) (hm : m ≤ 9) (hmud : I 704 0 21 = nI m) (hx : rg x (-200000) 200000) (h : ∀ I', Same mtS I I' → K (kvO R (nI m) w x) I' L) : CI d m_M_isKept [vR 704 0, vI (nI w), vI x] I L K := by
  refine toCI (n := 2) hd (r_M_isKept_0 ?_)
  have hW := hR.2.1
  have hC := hR.1
  obtain ⟨b1, b2, b3, b4⟩ := hR.2.2.1 w hw
  have hl := hM.2.2.2.2.2.2.2
  unfold kvO at h
  cases hU : rU R with
  | none =>
    rw [hU] at hl h
    have hl : I 706 0 5 = 0 := hl
    rw [hl]
    exact ⟨fun q => absurd rfl q, fun _ => ⟨_, rfl, h I Same.rf⟩⟩
  | some g =>
    have hl5 : I 706 0 5 = 1 := by rw [hU] at hl; exact hl.1
    rw [hl5]
    refine ⟨fun _ => ?_, fun q => absurd (by decide) q⟩
    rw [hU] at h
    have n6 : ∀ (J : MI) k x, ui J 722 0 k x 706 0 = J 706 0 := fun J k x => ui_off (by decide)
    refine c_M_fromOf (by omega) hR hM hw (c_M_toOf (by omega) hR (by rw [n6]; exact hM) hw ?_)
    have e21 : (ui (ui I 722 0 0 (nI (rf R w))) 722 0 1 (nI (rt R w))) 704 0 21 = nI m := by rw [ui_r (by decide), ui_r (by decide)]; exact hmud
    rw [e21]
    refine c_M_toOf (by omega) hR (by rw [n6, n6, n6, n6]; exact hM) hw ?_
    have e16 : (16 : Int32) + nI (rt R w) = nI (16 + rt R w) := nI_add 16 _
    rw [e16, cl_n (by omega), n6, n6, n6, n6, (hM.2.2.2.2.1 _ b2).2]
    refine ⟨vin (by omega) (by omega), ?_⟩
    have hs : Same mtS I (ui (ui (ui (ui (ui I 722 0 0 (nI (rf R w))) 722 0 1 (nI (rt R w))) 722 0 2 (nI m)) 722 0 4 x) 722 0 5 (rp R (rt R w))) := ((((Same.rf.ui ⟨Or.inr rfl, rfl⟩).ui ⟨Or.inr rfl, rfl⟩).ui ⟨Or.inr rfl, rfl⟩).ui ⟨Or.inr rfl, rfl⟩).ui ⟨Or.inr rfl, rfl⟩
    have hag : agW 1 (nmO R w (nI m) x) ((ui (ui (ui (ui (ui I 722 0 0 (nI (rf R w))) 722 0 1 (nI (rt R w))) 722 0 2 (nI m)) 722 0 4 x) 722 0 5 (rp R (rt R w))) 722 0) := by
      refine ⟨?_, ?_, ?_, fun q => absurd q (by decide), fun _ => ⟨?_, ?_⟩⟩
      · simp [ui, nmO]
      · simp [ui, nmO]
      · simp [ui, nmO]
      · simp [ui, nmO]
      · simp [ui, nmO]
    revert hs hag
    generalize (ui (ui (ui (ui (ui I 722 0 0 (nI (rf R w))) 722 0 1 (nI (rt R w))) 722 0 2 (nI m)) 722 0 4 x) 722 0 5 (rp R (rt R w))) = J
    intro hs hag
    have nJ : J 706 0 = I 706 0 := mt_no hs (by decide) (by decide)
    have hbd := Bd_nm hR hw hm hx
    refine c_M_law (j := 1) (g := g) (o := rU R) (nm := nmO R w (nI m) x) (by omega) (by omega) (by rw [nJ]; exact hl) hU hbd hag (fun I' hs' => ?_)
    have hr : K (g (nmO R w (nI m) x)) I' L := h I' (hs.tr hs')
    rcases hR.2.2.2.2.2.2.1 g hU _ hbd with z | z
    · rw [z] at hr ⊢
      exact ⟨fun _ => ⟨_, rfl, hr⟩, fun q => absurd (by decide) q⟩
    · rw [z] at hr ⊢
      exact ⟨fun q => absurd rfl q, fun _ => ⟨_, rfl, hr⟩⟩
end MGo
