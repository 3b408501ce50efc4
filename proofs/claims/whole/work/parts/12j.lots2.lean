/-! draws of lots: what they are, and the program's -/
def sumT (f : Nat → Nat) : Nat → Nat
  | 0 => 0
  | n + 1 => sumT f n + f n
/-- held back by n more -/
def slp (s : SA) (v : Nat) (n : Int32) : SA := hldS s v (s.2.2.1 v + n)
def ltN (R : RD) (n : Int32) (v : SA → Nat) : Nat → SA → Nat
  | 0, s => v s
  | l + 1, s => (10 - rC R) * ltN R n v l (trn R s (-1)) + sumT (fun k => ltN R n v l (trn R (slp s k n) (-1))) (rC R)
def quV (s : SA) : Nat := if whoN s.1 6 = 0 then 1 else 0
def laV (c : Nat) (s : SA) : Nat := (s.1 c).toInt.toNat
def lfV (R : RD) (cc : Int32) (v : SA → Nat) : Prop := (cc = -1 ∧ v = quV) ∨ ∃ c, c < rC R ∧ cc = nI c ∧ v = laV c
theorem hld_self {s : SA} {c : Nat} : hldS s c (s.2.2.1 c) = s := by
  have : (fun k => if k = c then s.2.2.1 c else s.2.2.1 k) = s.2.2.1 := funext (fun k => by
    by_cases e : k = c
    · rw [if_pos e, e]
    · rw [if_neg e])
  show (s.1, s.2.1, (fun k => if k = c then s.2.2.1 c else s.2.2.1 k), s.2.2.2.1, s.2.2.2.2) = s
  rw [this]
theorem hld_hld {s : SA} {c : Nat} {x y : Int32} : hldS (hldS s c x) c y = hldS s c y := by
  have : (fun k => if k = c then y else if k = c then x else s.2.2.1 k) = (fun k => if k = c then y else s.2.2.1 k) := funext (fun k => by
    by_cases e : k = c
    · rw [if_pos e, if_pos e]
    · rw [if_neg e, if_neg e, if_neg e])
  show (s.1, s.2.1, (fun k => if k = c then y else if k = c then x else s.2.2.1 k), s.2.2.2.1, s.2.2.2.2) = (s.1, s.2.1, (fun k => if k = c then y else s.2.2.1 k), s.2.2.2.1, s.2.2.2.2)
  rw [this]
theorem sumT_c {A : Nat} : ∀ n, sumT (fun _ => A) n = n * A
  | 0 => by rw [Nat.zero_mul]; rfl
  | n + 1 => by rw [Nat.succ_mul, ← sumT_c n]; rfl
theorem sumT_le {f : Nat → Nat} {B : Nat} : ∀ n, (∀ k, k < n → f k ≤ B) → sumT f n ≤ n * B
  | 0, _ => by rw [Nat.zero_mul]; exact Nat.le_refl _
  | n + 1, h => by
    have h1 := sumT_le n (fun k hk => h k (by omega))
    have h2 := h n (by omega)
    rw [Nat.succ_mul]
    show sumT f n + f n ≤ _
    omega
theorem sumT_eq {f g : Nat → Nat} : ∀ n, (∀ k, k < n → f k = g k) → sumT f n = sumT g n
  | 0, _ => rfl
  | n + 1, h => by show sumT f n + f n = sumT g n + g n; rw [sumT_eq n (fun k hk => h k (by omega)), h n (by omega)]
theorem lt_z {R : RD} (hR : WF R) {v : SA → Nat} {l : Nat} {s : SA} : ltN R (nI 0) v (l + 1) s = 10 * ltN R (nI 0) v l (trn R s (-1)) := by
  have hC := hR.1
  have e : ∀ k, slp s k (nI 0) = s := fun k => by
    unfold slp
    rw [show nI 0 = (0 : Int32) from rfl, Int32.add_zero, hld_self]
  simp only [ltN, e]
  rw [sumT_c, ← Nat.add_mul, Nat.sub_add_cancel (by omega)]
theorem SR_slp {R : RD} {s : SA} {k n : Nat} (h : SR R s 9) (hn : n ≤ 99) : SR R (slp s k (nI n)) 108 := by
  refine ⟨fun c hc => ⟨(h.1 c hc).1, (h.1 c hc).2.1, ?_⟩, h.2⟩
  show rg (if c = k then s.2.2.1 k + nI n else s.2.2.1 c) 0 108
  by_cases e : c = k
  · rw [if_pos e, ← e]
    exact (rg_add (h.1 c hc).2.2 (rg_n (n := n) (a := 0) (b := 99) (by omega) (by omega) (by omega)) (by omega) (by omega)).mono (by omega) (by omega)
  · rw [if_neg e]
    exact (h.1 c hc).2.2.mono (by omega) (by omega)
theorem Zr_slp {R : RD} {s : SA} {k : Nat} {x : Int32} (h : Zr R s) (hk : k < rC R) : Zr R (slp s k x) := fun c h1 h2 => ⟨(h c h1 h2).1, (h c h1 h2).2.1, by
  show (if c = k then s.2.2.1 k + x else s.2.2.1 c) = 0
  rw [if_neg (by omega)]
  exact (h c h1 h2).2.2⟩
theorem slp_Ok {R : RD} (hR : WF R) {s : SA} {k n : Nat} (h : OkS R s) (hn : n ≤ 99) (hk : k < rC R) : OkS R (trn R (slp s k (nI n)) (-1)) := ⟨(trn_SR hR (show 108 ≤ 1000 by omega) (SR_slp h.1 hn)).mono (by omega), trn_Zr (Zr_slp h.2 hk)⟩
theorem lt_le {R : RD} (hR : WF R) {n : Nat} (hn : n ≤ 99) {v : SA → Nat} (hv : ∀ s, OkS R s → v s ≤ 100000) : ∀ l s, OkS R s → ltN R (nI n) v l s ≤ 10 ^ l * 100000 := by
  have hC := hR.1
  intro l
  induction l with
  | zero => intro s hs; have := hv s hs; simp only [ltN]; omega
  | succ l ih =>
    intro s hs
    have h1 := ih _ (trn_Ok (out := -1) hR hs)
    have h2 := sumT_le (f := fun k => ltN R (nI n) v l (trn R (slp s k (nI n)) (-1))) (rC R) (fun k hk => ih _ (slp_Ok hR hs hn hk))
    simp only [ltN]
    rw [Nat.pow_succ, Nat.mul_comm (10 ^ l) 10, Nat.mul_assoc]
    generalize 10 ^ l * 100000 = B at *
    have h3 := Nat.mul_le_mul_left (10 - rC R) h1
    have h4 : (10 - rC R) * B + rC R * B = 10 * B := by rw [← Nat.add_mul, Nat.sub_add_cancel (by omega)]
    omega
theorem lf_le {R : RD} {cc : Int32} {v : SA → Nat} (hv : lfV R cc v) : ∀ s, OkS R s → v s ≤ 100000 := by
  intro s hs
  rcases hv with ⟨_, e⟩ | ⟨c, hc, _, e⟩
  · rw [e]; unfold quV; split <;> omega
  · rw [e]; unfold laV; have := (hs.1.1 c hc).1.2; omega
theorem StA_hld {I : MI} {i c : Nat} {s : SA} {x : Int32} (h : StA I i s) : StA (ui I 259 i c x) i (hldS s c x) := by
  refine ⟨fun k hk => by rw [ui_r (by decide)]; exact h.1 k hk, fun k hk => by rw [ui_r (by decide)]; exact h.2.1 k hk, fun k hk => ?_, by rw [ui_r (by decide)]; exact h.2.2.2.1, by rw [ui_r (by decide)]; exact h.2.2.2.2⟩
  show _ = if k = c then x else s.2.2.1 k
  by_cases e : k = c
  · rw [if_pos e, e, ui_s]
  · rw [if_neg e, ui_k e]; exact h.2.2.1 k hk
theorem st_lv {i k : Nat} (h1 : i < k) (h2 : k ≤ 8) {I I' : MI} (h : Same (stS k) I I') : Same (lvS i) I I' := lv_tu h1 h2 (st_tu h)
theorem la_64 {R : RD} {s : SA} {c : Nat} (h : OkS R s) (hc : c < rC R) : (s.1 c).toInt64 = lN (laV c s) := by
  have h1 := (h.1.1 c hc).1
  have ex := ge_nI (a := s.1 c) h1.1
  have h2 := h1.2
  unfold laV
  generalize (s.1 c).toInt = z at *
  rw [ex]
  exact nI_l (by omega)
section LotsB
variable {d : Nat} {I : MI} {L : ML} {R : RD} {s : SA} {P : List SA}
theorem c_Br_lotsFrom {n : Nat} {cc : Int32} {v : SA → Nat} (hR : WF R) (hn : n ≤ 99) (hv : lfV R cc v) : ∀ (l : Nat) {d i : Nat} {I : MI} {s : SA} {K : Int64 → MI → ML → Prop}, 8 + l ≤ d → RoadA I 0 R → GoA I R → StA I (3 + i) s → OkS R s → i + l ≤ 5 → (∀ I', GoA I' R → StA I' (3 + i) s → Same (lvS (2 + i)) I I' → K (lN (ltN R (nI n) v l s)) I' L) → CJ d m_Br_lotsFrom [vR 512 0, vI (nI i), vI (nI l), vI (nI n), vI cc] I L K := by
  have hC := hR.1
  intro l
  induction l with
  | zero =>
    intro d i I s K hd hA hG hs hok hil h
    have fin := h I hG hs Same.rf
    simp only [ltN] at fin
    have e1 : (1 : Int32).toInt64 = lN 1 := by decide
    have e0 : (0 : Int32).toInt64 = lN 0 := by decide
    refine toCJ (n := 7) (by omega) (r_Br_lotsFrom_0 ⟨fun q => absurd q (nlt0 (by omega)), fun _ => ⟨fun _ => ⟨fun _ => ⟨vin (by omega) (by omega), ?_⟩, fun q => absurd (by decide) q⟩, fun q => absurd (nI_le (a := i) (b := 5) (by omega) (by omega)) q⟩⟩)
    rw [cl_n (by omega)]
    rcases hv with ⟨e, ev⟩ | ⟨c, hc, e, ev⟩
    · subst e ev
      unfold quV at fin
      refine c_St_isQuiet (by omega) (fun y => ⟨fun z => absurd z (by decide), fun _ => ⟨fun z => absurd rfl z, fun _ => ⟨_, rfl, ?_⟩⟩⟩) (fun y => ⟨fun _ => ⟨fun z => absurd rfl z, fun _ => ⟨_, rfl, ?_⟩⟩, fun z => absurd rfl z⟩)
      · have q0 : whoN s.1 6 = 0 := (who0 6 (by omega)).mpr (fun c hc => by rw [← hs.1 c hc]; exact y c hc)
        rw [if_pos q0] at fin
        rw [e1]
        exact fin
      · obtain ⟨c, hc, hp⟩ := y
        have q0 : ¬ whoN s.1 6 = 0 := fun z => (who0 6 (by omega)).mp z c hc (by rw [← hs.1 c hc]; exact hp)
        rw [if_neg q0] at fin
        rw [e0]
        exact fin
    · subst e ev
      have leaf : CI 7 m_St_lastOf [vR 256 (3 + i), vI (nI c)] I L (fun x6 I4 L5 => ∃ x, some (vL x6.toInt64) = some (vL x) ∧ K x I4 L5) := c_St_lastOf (by omega) (by omega) (by rw [hs.1 c (by omega), la_64 hok hc]; exact ⟨_, rfl, fin⟩)
      exact c_St_isQuiet (by omega) (fun y => ⟨fun z => absurd z (by decide), fun _ => ⟨fun _ => ⟨vin (by omega) (by omega), leaf⟩, fun z => absurd (nI_m1 (by omega)) z⟩⟩) (fun y => ⟨fun _ => ⟨fun _ => ⟨vin (by omega) (by omega), leaf⟩, fun z => absurd (nI_m1 (by omega)) z⟩, fun z => absurd rfl z⟩)
  | succ l ih =>
    intro d i I s K hd hA hG hs hok hil h
    have el : nI (l + 1) - (1 : Int32) = nI l := nI_sub (a := l + 1) (b := 1) (by omega)
    refine toCJ (n := 8 + l) (by omega) (r_Br_lotsFrom_0 ⟨fun q => absurd q (nlt0 (by omega)), fun _ => ⟨fun _ => ⟨fun q => absurd q (nI_ge (a := 0) (b := l + 1) (by omega) (by omega)), fun _ => ⟨fun _ => ⟨fun q => ?_, fun q => ?_⟩, fun q => absurd (nI_lt (a := i) (b := 5) (by omega) (by omega)) q⟩⟩, fun q => absurd (nI_le (a := i) (b := 5) (by omega) (by omega)) q⟩⟩)
    · refine c_Br_stepOn (by omega) hR hA hG hs (by omega) (show 9 ≤ 1000 by omega) hok.1 (fun I1 hs1 hG1 hS1 => ?_)
      have hA1 := hA.same hS1 (fun r h1 h2 => lv_road h1 h2)
      rw [nI_1, el, hA.1]
      refine ih (i := i + 1) (by omega) hA1 hG1 hs1 (trn_Ok hR hok) (by omega) (fun I2 hG2 _ hS2 => ?_)
      have e10 : (((10 : Int32) - nI (rC R)).toInt64) = lN (10 - rC R) := by rw [show (10 : Int32) = nI 10 from rfl, nI_sub (by omega), nI_l (by omega)]
      rw [e10, lN_mul]
      have key : ∀ (m k : Nat) (J : MI), k + m = rC R → GoA J R → StA J (3 + i) s → Same (lvS (2 + i)) I J → XX (8 + l + 1) m_Br_lotsFrom (fun r I' L' => ∃ x, r = some (vL x) ∧ K x I' L') 113 [vR 512 0, vI (nI i), vI (nI (l + 1)), vI (nI n), vI cc, vI (nI (rC R)), vL (lN ((10 - rC R) * ltN R (nI n) v l (trn R s (-1)) + sumT (fun k => ltN R (nI n) v l (trn R (slp s k (nI n)) (-1))) k)), vD, vI (nI k), vD] [] J L := by
        intro m
        induction m with
        | zero =>
          intro k J hk hGJ hsJ hSJ
          refine r_Br_lotsFrom_113 ⟨fun _ => ⟨_, rfl, ?_⟩, fun q => absurd (nI_le (show rC R ≤ k by omega) (by omega)) q⟩
          rw [show k = rC R by omega]
          exact h J hGJ hsJ hSJ
        | succ m ihm =>
          intro k J hk hGJ hsJ hSJ
          refine r_Br_lotsFrom_113 ⟨fun q => absurd q (nI_ge (show k < rC R by omega) (by omega)), fun _ => ⟨vin (by omega) (by omega), ?_⟩⟩
          rw [cl_n (by omega)]
          refine c_St_heldOf (by omega) (by omega) ⟨vin (by omega) (by omega), ?_⟩
          rw [hsJ.2.2.1 k (by omega)]
          refine c_St_holdBy (by omega) (by omega) ?_
          have hu : Same (stS (3 + i)) J (ui J 259 (3 + i) k (s.2.2.1 k + nI n)) := Same.rf.ui ⟨by simp, rfl⟩
          have hsU : StA (ui J 259 (3 + i) k (s.2.2.1 k + nI n)) (3 + i) (slp s k (nI n)) := StA_hld hsJ
          have hSU : Same (lvS (2 + i)) I (ui J 259 (3 + i) k (s.2.2.1 k + nI n)) := hSJ.tr (st_lv (by omega) (by omega) hu)
          refine c_Br_stepOn (s := slp s k (nI n)) (by omega) hR (hA.same hSU (fun r h1 h2 => lv_road h1 h2)) (GoA_st hGJ hu) hsU (by omega) (show 108 ≤ 1000 by omega) (SR_slp hok.1 hn) (fun J1 hs1 hG1 hS1 => ⟨vin (by omega) (by omega), ?_⟩)
          refine c_St_holdBy (by omega) (by omega) ?_
          have hu2 : Same (stS (3 + i)) J1 (ui J1 259 (3 + i) k (s.2.2.1 k)) := Same.rf.ui ⟨by simp, rfl⟩
          have hsA : StA J1 (3 + i) (slp s k (nI n)) := hsU.lv hS1 (Nat.le_refl _)
          have hsB : StA (ui J1 259 (3 + i) k (s.2.2.1 k)) (3 + i) s := by
            have := StA_hld (c := k) (x := s.2.2.1 k) hsA
            unfold slp at this
            rw [hld_hld, hld_self] at this
            exact this
          have hS2' : Same (lvS (2 + i)) I (ui J1 259 (3 + i) k (s.2.2.1 k)) := (hSU.tr (lv_lv (by omega) hS1)).tr (st_lv (by omega) (by omega) hu2)
          have hs1' : StA (ui J1 259 (3 + i) k (s.2.2.1 k)) (3 + i + 1) (trn R (slp s k (nI n)) (-1)) := hs1.same hu2 (fun z => by have := z.2; omega) (fun z => by have := z.2; omega) (fun z => by have := z.2; omega) (fun z => by have := z.2; omega)
          rw [nI_1, el, nI_1]
          refine ih (i := i + 1) (by omega) (hA.same hS2' (fun r h1 h2 => lv_road h1 h2)) (GoA_st hG1 hu2) hs1' (slp_Ok hR hok hn (by omega)) (by omega) (fun J3 hG3 _ hS3 => ?_)
          have := ihm (k + 1) J3 (by omega) hG3 (hsB.lv hS3 (by omega)) (hS2'.tr (lv_lv (by omega) hS3))
          simp only [sumT] at this
          rw [← Nat.add_assoc] at this
          rw [lN_add]
          exact this
      have := key (rC R) 0 I2 (by omega) hG2 ((hs.lv hS1 (by omega)).lv hS2 (by omega)) ((lv_lv (by omega) hS1).tr (lv_lv (by omega) hS2))
      simp only [sumT] at this
      rw [Nat.add_zero] at this
      exact this
    · have hn0 : n = 0 := (nI_eq (b := 0) (by omega) (by omega)).mp (Classical.not_not.mp q)
      subst hn0
      rw [lt_z hR] at h
      refine c_Br_stepOn (by omega) hR hA hG hs (by omega) (show 9 ≤ 1000 by omega) hok.1 (fun I1 hs1 hG1 hS1 => ?_)
      have hA1 := hA.same hS1 (fun r h1 h2 => lv_road h1 h2)
      rw [nI_1, el]
      refine ih (i := i + 1) (by omega) hA1 hG1 hs1 (trn_Ok hR hok) (by omega) (fun I2 hG2 _ hS2 => ?_)
      have e10 : (((10 : Int32) - (0 : Int32)).toInt64) = lN 10 := by decide
      rw [e10, lN_mul]
      exact r_Br_lotsFrom_113 ⟨fun _ => ⟨_, rfl, h I2 hG2 ((hs.lv hS1 (by omega)).lv hS2 (by omega)) ((lv_lv (by omega) hS1).tr (lv_lv (by omega) hS2))⟩, fun q => absurd (by decide) q⟩
theorem c_Br_lotsDrawn {n k : Nat} {cc : Int32} {v : SA → Nat} {K : Int64 → MI → ML → Prop} (hd : 13 ≤ d) (hO : CoO R s P) (hc : CoC I R s P) (hn : n ≤ 99) (hk : k ≤ 4) (hv : lfV R cc v) (h : ∀ I', CoC I' R s P → Same cdS I I' → K (lN (ltN R (nI n) v k s)) I' L) : CJ d m_Br_lotsDrawn [vR 512 0, vR 256 0, vI (nI k), vI (nI n), vI cc] I L K := by
  refine toCJ (n := 12) hd (r_Br_lotsDrawn_0 (c_St_copy (by omega) (by omega) hc.2.1 (fun I1 hs1 hS1 => ?_)))
  have hG1 := GoA_st hc.2.2.1 hS1
  have hc1 := CoC_tu hc (i := 3) (by omega) (by omega) hG1 (st_tu hS1)
  exact c_Br_lotsFrom (i := 0) hO.1 hn hv k (by omega) hc1.1 hG1 hs1 hO.2.1 (by omega) (fun I2 hG2 _ hS2 => ⟨_, rfl, h I2 (CoC_lv hc1 hG2 (lv_lv (by omega) hS2)) ((st_cd (by omega) hS1).tr (lv_cd hS2))⟩)
def lwR (w : Int32) : Prop := 0 ≤ w.toInt ∧ w.toInt ≤ 1
def lnR (n k : Int32) : Prop := (0 ≤ n.toInt ∧ n.toInt ≤ 99) ∧ 1 ≤ k.toInt ∧ k.toInt ≤ 4
theorem pw_10 {k : Nat} (hk : k ≤ 4) : 0 < 10 ^ k ∧ 10 ^ k ≤ 10000 := ⟨Nat.pow_pos (by omega), Nat.pow_le_pow_right (n := 10) (j := 4) (by omega) hk⟩
theorem w_chance {n k w : Int32} {K : Int32 → MI → ML → Prop} (hd : 14 ≤ d) (hO : CoO R s P) (hc : CoC I R s P) (h2 : ¬ lwR w → K (-2) I L) (h3 : lwR w → ¬ lnR n k → K (-3) I L) (h1 : lwR w → lnR n k → ∀ I', CoC I' R s P → Same cdS I I' → K (lwO w (ltN R n quV k.toInt.toNat s) (10 ^ k.toInt.toNat)).toInt32 I' L) : CI d m_W_chance [vR 0 0, vI n, vI k, vI w] I L K := by
  have z0 : (0 : Int32).toInt = 0 := rfl
  have z1 : (1 : Int32).toInt = 1 := rfl
  have z4 : (4 : Int32).toInt = 4 := rfl
  have z9 : (99 : Int32).toInt = 99 := rfl
  refine toCI (n := 13) hd (r_W_chance_0 ⟨fun q => ⟨_, rfl, h2 (fun z => ?_)⟩, fun q => ⟨fun q2 => ?_, fun q2 => ⟨_, rfl, h2 (fun z => ?_)⟩⟩⟩)
  · have := Int32.lt_iff_toInt_lt.mp q; have := z.1; omega
  · have a1 := Int32.le_iff_toInt_le.mp (Int32.not_lt.mp q)
    have a2 := Int32.le_iff_toInt_le.mp q2
    have hw : lwR w := ⟨by omega, by omega⟩
    refine ⟨fun q => ⟨_, rfl, h3 hw (fun z => ?_)⟩, fun q3 => ⟨fun q => ⟨_, rfl, h3 hw (fun z => ?_)⟩, fun q4 => ⟨fun q => ⟨_, rfl, h3 hw (fun z => ?_)⟩, fun q5 => ⟨fun q6 => ?_, fun q => ⟨_, rfl, h3 hw (fun z => ?_)⟩⟩⟩⟩⟩
    · have := Int32.lt_iff_toInt_lt.mp q; have := z.1.1; omega
    · have := Int32.lt_iff_toInt_lt.mp q; have := z.1.2; omega
    · have := Int32.lt_iff_toInt_lt.mp q; have := z.2.1; omega
    · have b1 := Int32.le_iff_toInt_le.mp (Int32.not_lt.mp q3)
      have b2 := Int32.le_iff_toInt_le.mp (Int32.not_lt.mp q4)
      have b3 := Int32.le_iff_toInt_le.mp (Int32.not_lt.mp q5)
      have b4 := Int32.le_iff_toInt_le.mp q6
      have fin := h1 hw ⟨⟨by omega, by omega⟩, by omega, by omega⟩
      have e1 := ge_nI (a := n) (by omega)
      have e2 := ge_nI (a := k) (by omega)
      have c1 : n.toInt.toNat ≤ 99 := by omega
      have c2 : k.toInt.toNat ≤ 4 := by omega
      clear b1 b2 b3 b4 q3 q4 q5 q6 h1 h2 h3
      generalize n.toInt.toNat = n' at *
      generalize k.toInt.toNat = k' at *
      subst e1 e2
      have hb := lt_le hO.1 c1 (lf_le (cc := -1) (Or.inl ⟨rfl, rfl⟩)) k' s hO.2.1
      have hp := pw_10 c2
      have : 10 ^ k' * 100000 ≤ 10000 * 100000 := Nat.mul_le_mul_right _ hp.2
      exact c_Br_lotsDrawn (by omega) hO hc c1 c2 (Or.inl ⟨rfl, rfl⟩) (fun I' hc' hS' => c_W_lotsOf (by omega) c2 (c_W_lowest (by omega) hp.1 (by omega) (by omega) ⟨_, rfl, fin I' hc' hS'⟩))
    · have := Int32.lt_iff_toInt_lt.mp (Int32.not_le.mp q); have := z.2.2; omega
  · have := Int32.lt_iff_toInt_lt.mp (Int32.not_le.mp q2); have := z.2; omega
theorem w_mean {c n k w : Int32} {K : Int64 → MI → ML → Prop} (hd : 14 ≤ d) (hO : CoO R s P) (hc : CoC I R s P) (h2 : ¬ (isC R c ∧ lwR w) → K (-2) I L) (h3 : isC R c → lwR w → ¬ lnR n k → K (-3) I L) (h1 : isC R c → lwR w → lnR n k → ∀ I', CoC I' R s P → Same cdS I I' → K (lwO w (ltN R n (laV c.toInt.toNat) k.toInt.toNat s) (10 ^ k.toInt.toNat)) I' L) : CJ d m_W_mean [vR 0 0, vI c, vI n, vI k, vI w] I L K := by
  have z0 : (0 : Int32).toInt = 0 := rfl
  have z1 : (1 : Int32).toInt = 1 := rfl
  have z4 : (4 : Int32).toInt = 4 := rfl
  have z9 : (99 : Int32).toInt = 99 := rfl
  refine toCJ (n := 13) hd (r_W_mean_0 (c_W_isCoach (by omega) hO.1 hc.1 (fun g1 g2 => ⟨fun q => absurd q (by decide), fun _ => ⟨fun q => ⟨_, rfl, h2 (fun z => ?_)⟩, fun q => ⟨fun q2 => ?_, fun q2 => ⟨_, rfl, h2 (fun z => ?_)⟩⟩⟩⟩) (fun g => ⟨fun _ => ⟨_, rfl, h2 (fun z => g z.1)⟩, fun q => absurd rfl q⟩)))
  · have := Int32.lt_iff_toInt_lt.mp q; have := z.2.1; omega
  · have a1 := Int32.le_iff_toInt_le.mp (Int32.not_lt.mp q)
    have a2 := Int32.le_iff_toInt_le.mp q2
    have hw : lwR w := ⟨by omega, by omega⟩
    have hC' : isC R c := ⟨g1, g2⟩
    refine ⟨fun q => ⟨_, rfl, h3 hC' hw (fun z => ?_)⟩, fun q3 => ⟨fun q => ⟨_, rfl, h3 hC' hw (fun z => ?_)⟩, fun q4 => ⟨fun q => ⟨_, rfl, h3 hC' hw (fun z => ?_)⟩, fun q5 => ⟨fun q6 => ?_, fun q => ⟨_, rfl, h3 hC' hw (fun z => ?_)⟩⟩⟩⟩⟩
    · have := Int32.lt_iff_toInt_lt.mp q; have := z.1.1; omega
    · have := Int32.lt_iff_toInt_lt.mp q; have := z.1.2; omega
    · have := Int32.lt_iff_toInt_lt.mp q; have := z.2.1; omega
    · have b1 := Int32.le_iff_toInt_le.mp (Int32.not_lt.mp q3)
      have b2 := Int32.le_iff_toInt_le.mp (Int32.not_lt.mp q4)
      have b3 := Int32.le_iff_toInt_le.mp (Int32.not_lt.mp q5)
      have b4 := Int32.le_iff_toInt_le.mp q6
      have fin := h1 hC' hw ⟨⟨by omega, by omega⟩, by omega, by omega⟩
      have e1 := ge_nI (a := n) (by omega)
      have e2 := ge_nI (a := k) (by omega)
      have e3 := ge_nI (a := c) (by omega)
      have c1 : n.toInt.toNat ≤ 99 := by omega
      have c2 : k.toInt.toNat ≤ 4 := by omega
      have c3 : c.toInt.toNat < rC R := by omega
      clear b1 b2 b3 b4 q3 q4 q5 q6 h1 h2 h3 hC' g1 g2
      generalize n.toInt.toNat = n' at *
      generalize k.toInt.toNat = k' at *
      generalize c.toInt.toNat = c' at *
      subst e1 e2 e3
      have hb := lt_le hO.1 c1 (lf_le (Or.inr ⟨c', c3, rfl, rfl⟩)) k' s hO.2.1
      have hp := pw_10 c2
      have : 10 ^ k' * 100000 ≤ 10000 * 100000 := Nat.mul_le_mul_right _ hp.2
      exact c_Br_lotsDrawn (by omega) hO hc c1 c2 (Or.inr ⟨c', c3, rfl, rfl⟩) (fun I' hc' hS' => c_W_lotsOf (by omega) c2 (c_W_lowest (by omega) hp.1 (by omega) (by omega) ⟨_, rfl, fin I' hc' hS'⟩))
    · have := Int32.lt_iff_toInt_lt.mp (Int32.not_le.mp q); have := z.2.2; omega
  · have := Int32.lt_iff_toInt_lt.mp (Int32.not_le.mp q2); have := z.2.2; omega
end LotsB
