/-! late, sets, calm -/
theorem stays_pr {R : RD} (hR : WF R) {s : SA} (h : stays s (frO R s (-1)) 6) (j : Nat) : calmS (itN R s j) ↔ calmS s := by
  have e := stay_it hR h j
  unfold calmS
  constructor
  · intro q c hc
    obtain ⟨a, b, x⟩ := e.1 c hc
    have := q c hc
    rw [a, b, x] at this
    exact this
  · intro q c hc
    obtain ⟨a, b, x⟩ := e.1 c hc
    rw [a, b, x]
    exact q c hc
def calmB (s : SA) : Bool := (List.range 6).all fun c => decide (¬ 0 < s.1 c ∧ ¬ 0 < s.2.1 c ∧ ¬ 0 < s.2.2.1 c)
theorem calmB_iff {s : SA} : calmB s = true ↔ calmS s := by
  unfold calmB calmS
  rw [List.all_eq_true]
  exact ⟨fun h c hc => of_decide_eq_true (h c (List.mem_range.mpr hc)), fun h c hc => decide_eq_true (h c (List.mem_range.mp hc))⟩
/-- the first calm one of f from n on -/
def clmN (R : RD) (s : SA) : Nat → Nat → Int32
  | 0, _ => -1
  | f + 1, n => if calmB (itN R s n) = true then nI n else clmN R s f (n + 1)
theorem clmN_y {R : RD} {s : SA} {f n : Nat} (h : calmS (itN R s n)) : clmN R s (f + 1) n = nI n := by
  unfold clmN; rw [if_pos (calmB_iff.mpr h)]
theorem clmN_n {R : RD} {s : SA} {f n : Nat} (h : ¬ calmS (itN R s n)) : clmN R s (f + 1) n = clmN R s f (n + 1) := by
  show (if calmB (itN R s n) = true then nI n else clmN R s f (n + 1)) = _
  rw [if_neg (fun z => h (calmB_iff.mp z))]
theorem clmN_st {R : RD} (hR : WF R) {s : SA} {n : Nat} (h : stays (itN R s n) (frO R (itN R s n) (-1)) 6) (hn : ¬ calmS (itN R s n)) : ∀ f k, n ≤ k → clmN R s f k = -1 := by
  intro f
  induction f with
  | zero => intro k _; rfl
  | succ f ih =>
    intro k hk
    have e : itN R s k = itN R (itN R s n) (k - n) := by rw [← itN_add]; congr 1; omega
    rw [clmN_n (by rw [e, stays_pr hR h]; exact hn)]
    exact ih (k + 1) (by omega)
theorem who0 {f : Nat → Int32} : ∀ n, n ≤ 6 → (whoN f n = 0 ↔ ∀ c, c < n → ¬ 0 < f c) := by
  intro n
  induction n with
  | zero => intro _; exact ⟨fun _ c hc => by omega, fun _ => rfl⟩
  | succ n ih =>
    intro hn
    have ih := ih (by omega)
    simp only [whoN]
    by_cases q : 0 < f n
    · rw [if_pos q]
      refine ⟨fun z => ?_, fun z => absurd q (z n (by omega))⟩
      have hb : ((1 : Int32) <<< (nI n &&& 31)) = 0 := by
        have := congrArg (fun y => y &&& ((1 : Int32) <<< (nI n &&& 31))) z
        rw [Int32.zero_and] at this
        have e2 : ∀ x y : Int32, (x ||| y) &&& y = y := fun x y => by
          apply Int32.toBitVec_inj.mp
          simp only [Int32.toBitVec_and, Int32.toBitVec_or]
          ext i hi
          simp only [BitVec.getElem_and, BitVec.getElem_or]
          cases x.toBitVec[i] <;> cases y.toBitVec[i] <;> rfl
        rw [e2] at this
        exact this
      have ck : ((List.range 6).all fun n => decide (¬ ((1 : Int32) <<< (nI n &&& 31)) = 0)) = true := by decide +kernel
      exact absurd hb (of_decide_eq_true (List.all_eq_true.mp ck n (List.mem_range.mpr (by omega))))
    · rw [if_neg q, ih]
      refine ⟨fun z c hc => ?_, fun z c hc => z c (by omega)⟩
      by_cases e : c = n
      · rw [e]; exact q
      · exact z c (by omega)
theorem sum0 {f : Nat → Int32} : ∀ n, n ≤ 6 → (∀ c, c < n → rg (f c) 0 1000) → rg (sumN f n) 0 (1000 * n) ∧ (sumN f n = 0 ↔ ∀ c, c < n → ¬ 0 < f c) := by
  have z0 : (0 : Int32).toInt = 0 := rfl
  intro n
  induction n with
  | zero => intro _ _; exact ⟨rg_lit (n := 0) (by omega) (by omega) (by omega), fun _ c hc => by omega, fun _ => rfl⟩
  | succ n ih =>
    intro hn h
    obtain ⟨r1, i1⟩ := ih (by omega) (fun c hc => h c (by omega))
    have r2 := h n (by omega)
    have ra := rg_add r1 r2 (by omega) (by omega)
    have ea := Jvm.Kit.i32_add (x := sumN f n) (y := f n) (by have := r1.1; have := r2.1; omega) (by have := r1.2; have := r2.2; omega)
    refine ⟨ra.mono (by omega) (by omega), fun z c hc => ?_, fun z => ?_⟩
    · have ez : (sumN f n + f n).toInt = 0 := by
        have : sumN f n + f n = 0 := z
        rw [this]; rfl
      rw [ea] at ez
      have h1 := r1.1
      have h2 := r2.1
      have e1 : sumN f n = 0 := Int32.toInt_inj.mp (by omega)
      have e2 : f n = 0 := Int32.toInt_inj.mp (by omega)
      by_cases e : c = n
      · rw [e, e2]; decide
      · exact i1.mp e1 c (by omega)
    · show sumN f n + f n = 0
      rw [i1.mpr (fun c hc => z c (by omega))]
      have := z n (by omega)
      have e : f n = 0 := Int32.toInt_inj.mp (by have := Int32.le_iff_toInt_le.mp (Int32.not_lt.mp this); have := r2.1; omega)
      rw [e]; rfl
section Calm
variable {d : Nat} {I : MI} {L : ML} {R : RD} {s : SA} {P : List SA}
theorem c_W_lateGoing {c n : Nat} {K : Int32 → MI → ML → Prop} (hd : 7 ≤ d) (hO : CoO R s P) (hc : CoC I R s P) (hcl : c < rC R) (hn : n ≤ 999) (h : ∀ I', CoC I' R s P → Same cdS I I' → K ((itN R s n).1 c) I' L) : CI d m_W_lateGoing [vR 0 0, vI (nI c), vI (nI n)] I L K := by
  have hR := hO.1
  have hC := hR.1
  refine toCI (n := 6) hd (r_W_lateGoing_0 (c_St_copy (by omega) (by omega) hc.2.1 (fun I1 hs1 hS1 => ?_)))
  have hG1 := GoA_st hc.2.2.1 hS1
  have hc1 := CoC_tu hc (i := 2) (by omega) (by omega) hG1 (st_tu hS1)
  refine c_Go_go (hb := 9) (by omega) hR hc1.1 hG1 hs1 (by omega) hO.2.1.1 (by omega) (fun I2 hs2 hG2 hS2 => c_St_lastOf (by omega) (by omega) ⟨_, rfl, ?_⟩)
  rw [hs2.1 _ (by omega)]
  exact h I2 (CoC_tu hc1 (by omega) (by omega) hG2 hS2) ((st_cd (by omega) hS1).tr (tu_cd (by omega) hS2))
def isN (n : Int32) (k : Nat) : Prop := 1 ≤ n.toInt ∧ n.toInt ≤ k
theorem w_late {c n : Int32} {K : Int32 → MI → ML → Prop} (hd : 8 ≤ d) (hO : CoO R s P) (hc : CoC I R s P) (h1 : isC R c → isN n 999 → ∀ I', CoC I' R s P → Same cdS I I' → K ((itN R s n.toInt.toNat).1 c.toInt.toNat) I' L) (h2 : ¬ isC R c → K (-2) I L) (h3 : isC R c → ¬ isN n 999 → K (-3) I L) : CI d m_W_late [vR 0 0, vI c, vI n] I L K := by
  have hR := hO.1
  have o1 : (1 : Int32).toInt = 1 := rfl
  have o9 : (999 : Int32).toInt = 999 := rfl
  refine toCI (n := 7) hd (r_W_late_0 (c_W_isCoach (by omega) hR hc.1 (fun g1 g2 => ⟨fun _ => ⟨fun q => ⟨_, rfl, h3 ⟨g1, g2⟩ (fun z => ?_)⟩, fun q => ⟨fun q2 => ?_, fun q2 => ⟨_, rfl, h3 ⟨g1, g2⟩ (fun z => ?_)⟩⟩⟩, fun q => absurd (by decide) q⟩) (fun g => ⟨fun q => absurd rfl q, fun _ => ⟨_, rfl, h2 g⟩⟩)))
  · have := Int32.lt_iff_toInt_lt.mp q; have := z.1; omega
  · have a1 := Int32.le_iff_toInt_le.mp (Int32.not_lt.mp q)
    have a2 := Int32.le_iff_toInt_le.mp q2
    have fin := h1 ⟨g1, g2⟩ ⟨by omega, by omega⟩
    have e1 := ge_nI g1
    have e2 := ge_nI (a := n) (by omega)
    have b1 : c.toInt.toNat < rC R := by omega
    have b2 : n.toInt.toNat ≤ 999 := by omega
    clear a1 a2 q q2 g1 g2 h1 h2 h3
    generalize c.toInt.toNat = c' at *
    generalize n.toInt.toNat = n' at *
    subst e1 e2
    exact c_W_lateGoing (by omega) hO hc b1 b2 (fun I' hc' hS => ⟨_, rfl, fin I' hc' hS⟩)
  · have := Int32.lt_iff_toInt_lt.mp (Int32.not_le.mp q2); have := z.2; omega
theorem w_sets {c n : Int32} {K : Int32 → MI → ML → Prop} (hd : 8 ≤ d) (hO : CoO R s P) (hc : CoC I R s P) (h1 : isC R c → isN n 999 → ∀ I', CoC I' R s P → Same cdS I I' → K (((rP R * (s.2.2.2.2 + n)) + rh R c.toInt.toNat) + (itN R s n.toInt.toNat).1 c.toInt.toNat) I' L) (h2 : ¬ isC R c → K (-2) I L) (h3 : isC R c → ¬ isN n 999 → K (-3) I L) : CI d m_W_sets [vR 0 0, vI c, vI n] I L K := by
  have hR := hO.1
  have hC := hR.1
  have o1 : (1 : Int32).toInt = 1 := rfl
  have o9 : (999 : Int32).toInt = 999 := rfl
  refine toCI (n := 7) hd (r_W_sets_0 (c_W_isCoach (by omega) hR hc.1 (fun g1 g2 => ⟨fun _ => ⟨fun q => ⟨_, rfl, h3 ⟨g1, g2⟩ (fun z => ?_)⟩, fun q => ⟨fun q2 => ?_, fun q2 => ⟨_, rfl, h3 ⟨g1, g2⟩ (fun z => ?_)⟩⟩⟩, fun q => absurd (by decide) q⟩) (fun g => ⟨fun q => absurd rfl q, fun _ => ⟨_, rfl, h2 g⟩⟩)))
  · have := Int32.lt_iff_toInt_lt.mp q; have := z.1; omega
  · have a1 := Int32.le_iff_toInt_le.mp (Int32.not_lt.mp q)
    have a2 := Int32.le_iff_toInt_le.mp q2
    have fin := h1 ⟨g1, g2⟩ ⟨by omega, by omega⟩
    have e1 := ge_nI g1
    have e2 := ge_nI (a := n) (by omega)
    have b1 : c.toInt.toNat < rC R := by omega
    have b2 : n.toInt.toNat ≤ 999 := by omega
    clear a1 a2 q q2 g1 g2 h1 h2 h3
    generalize c.toInt.toNat = c' at *
    generalize n.toInt.toNat = n' at *
    subst e1 e2
    refine c_Road_hourOf (by omega) (by omega) (c_W_lateGoing (by omega) hO hc b1 b2 (fun I' hc' hS => ⟨_, rfl, ?_⟩))
    rw [hc.1.2.2.1, hc.2.1.2.2.2.2, (hc.1.2.2.2.2.1 _ b1).1]
    exact fin I' hc' hS
  · have := Int32.lt_iff_toInt_lt.mp (Int32.not_le.mp q2); have := z.2; omega
theorem w_calm {K : Int32 → MI → ML → Prop} (hd : 6 ≤ d) (hO : CoO R s P) (hc : CoC I R s P) (h : ∀ I', CoC I' R s P → Same cdS I I' → K (clmN R s 1000 0) I' L) : CI d m_W_calm [vR 0 0] I L K := by
  have hR := hO.1
  refine toCI (n := 5) hd (r_W_calm_0 (c_St_copy (by omega) (by omega) hc.2.1 (fun I1 hs1 hS1 => ?_)))
  have hG1 := GoA_st hc.2.2.1 hS1
  have hc1 := CoC_tu hc (i := 2) (by omega) (by omega) hG1 (st_tu hS1)
  have key : ∀ (l k : Nat) (J : MI), k + l = 1000 → clmN R s l k = clmN R s 1000 0 → StA J 2 (itN R s k) → CoC J R s P → Same cdS I J → XX (5 + 1) m_W_calm (fun r I' L' => ∃ x, r = some (vI x) ∧ K x I' L') 13 [vR 0 0, vI (nI k)] [] J L := by
    intro l
    induction l with
    | zero =>
      intro k J hk he hs hcJ hS
      refine r_W_calm_13 ⟨fun _ => ⟨_, rfl, ?_⟩, fun q => absurd (nI_lt (a := 999) (show 999 < k by omega) (by omega)) q⟩
      have := h J hcJ hS
      rw [← he] at this
      exact this
    | succ l ih =>
      intro k J hk he hs hcJ hS
      refine r_W_calm_13 ⟨fun q => absurd q (nI_nlt (a := 999) (b := k) (show k ≤ 999 by omega) (by omega)), fun _ => ?_⟩
      have hcal : calmS (stOf J 2) ↔ calmS (itN R s k) := by
        unfold calmS
        constructor
        · intro q c hc6
          have := q c hc6
          have a1 : (stOf J 2).1 c = (itN R s k).1 c := hs.1 c hc6
          have a2 : (stOf J 2).2.1 c = (itN R s k).2.1 c := hs.2.1 c hc6
          have a3 : (stOf J 2).2.2.1 c = (itN R s k).2.2.1 c := hs.2.2.1 c hc6
          rw [a1, a2, a3] at this
          exact this
        · intro q c hc6
          have a1 : (stOf J 2).1 c = (itN R s k).1 c := hs.1 c hc6
          have a2 : (stOf J 2).2.1 c = (itN R s k).2.1 c := hs.2.1 c hc6
          have a3 : (stOf J 2).2.2.1 c = (itN R s k).2.2.1 c := hs.2.2.1 c hc6
          rw [a1, a2, a3]
          exact q c hc6
      refine c_St_isCalm (by omega) (fun q => ⟨fun z => absurd z (by decide), fun _ => ⟨_, rfl, ?_⟩⟩) (fun q => ⟨fun _ => ?_, fun z => absurd rfl z⟩)
      · have := h J hcJ hS
        rw [← he, clmN_y (hcal.mp q)] at this
        exact this
      · have hn : ¬ calmS (itN R s k) := fun z => q (hcal.mpr z)
        rw [clmN_n hn] at he
        refine c_Go_turn (by omega) hR hcJ.1 hcJ.2.2.1 hs (by omega) (itN_Ok hR hO.2.1 k).1 (fun x J1 hx hs1 hG1 _ hS1 => ⟨fun z => ?_, fun z => ⟨_, rfl, ?_⟩⟩)
        · rw [nI_1]
          exact ih (k + 1) J1 (by omega) he hs1 (CoC_tu hcJ (by omega) (by omega) hG1 hS1) (hS.tr (tu_cd (by omega) hS1))
        · have hst : stays (itN R s k) (frO R (itN R s k) (-1)) 6 := by
            rcases hx with ⟨_, y⟩ | ⟨y, _⟩
            · exact y
            · rw [y] at z; exact absurd (by decide) z
          have := h J1 (CoC_tu hcJ (by omega) (by omega) hG1 hS1) (hS.tr (tu_cd (by omega) hS1))
          rw [← he, clmN_st hR hst hn l (k + 1) (by omega)] at this
          exact this
  exact key 1000 0 I1 (by omega) rfl hs1 hc1 (st_cd (by omega) hS1)
/-- all rows up to round n -/
def rwN (I : MI) (R : RD) (s : SA) (n : Nat) : Prop := ∀ k, k ≤ n → rwA I R k (itN R s k)
theorem c_M_goesFor {n : Nat} {K : MI → ML → Prop} (hd : 6 ≤ d) (hO : CoO R s P) (hc : CoM I R s P) (hn : n ≤ 999) (h : ∀ I', rwN I' R s n → MGr I' R n (itN R s n) → I' 706 0 = I 706 0 → I' 704 0 0 = I 704 0 0 → mF0 I I' → K I' L) : CV d m_M_goesFor [vR 704 0, vI (nI n)] I L K := by
  have hR := hO.1
  have hC := hR.1
  refine toCV (n := 5) hd (r_M_goesFor_0 ?_)
  rw [hc.2.1.2.1]
  refine CoM_begins (by omega) hO hc (fun I1 hG1 n1 t1 hF1 => ?_)
  have key : ∀ (l k : Nat) (J : MI), k + l = n → rwN J R s k → MGr J R k (itN R s k) → J 706 0 = I 706 0 → J 704 0 0 = I 704 0 0 → mF0 I J → XX (5 + 1) m_M_goesFor (fun r I' L' => r = none ∧ K I' L') 13 [vR 704 0, vI (nI n), vI (nI k)] [] J L := by
    intro l
    induction l with
    | zero =>
      intro k J hk hr hg h6 ht hF
      have e : k = n := by omega
      subst e
      exact r_M_goesFor_13 ⟨fun _ => ⟨rfl, h J hr hg h6 ht hF⟩, fun q => absurd (nI_le (Nat.le_refl _) (by omega)) q⟩
    | succ l ih =>
      intro k J hk hr hg h6 ht hF
      refine r_M_goesFor_13 ⟨fun q => absurd q (nI_ge (show k < n by omega) (by omega)), fun _ => ?_⟩
      refine c_M_goes (r := k) (by omega) hR (by rw [h6]; exact hc.1) (by omega) hg ((itN_Ok hR hO.2.1 k).1.mono (by omega)) (fun J1 hg1 hlo ho hs => ?_)
      rw [nI_1]
      refine ih (k + 1) J1 (by omega) (fun j hj => ?_) hg1 ((gs_no hs (by decide)).trans h6) ((ho 0 (by decide) (by decide)).trans ht) (hF.tr (gs_F0 hs ho))
      by_cases e : j = k + 1
      · subst e; exact hg1.1
      · intro c hcl
        have := hr j (by omega) c hcl
        rw [hlo _ (by omega), hlo _ (by omega)]
        exact this
  refine key n 0 I1 (by omega) (fun j hj => ?_) hG1 n1 t1 hF1
  have e : j = 0 := by omega
  subst e
  exact hG1.1
theorem m_late {c n : Int32} {K : Int32 → MI → ML → Prop} (hd : 7 ≤ d) (hO : CoO R s P) (hc : CoM I R s P) (h1 : isC R c → isN n 999 → ∀ I', CoM I' R s P → mFr I I' → K ((itN R s n.toInt.toNat).1 c.toInt.toNat) I' L) (h2 : ¬ isC R c → K (-2) (ui I 704 0 0 0) L) (h3 : isC R c → ¬ isN n 999 → K (-3) (ui I 704 0 0 0) L) : CI d m_M_late [vR 704 0, vI c, vI n] I L K := by
  have hR := hO.1
  have hC := hR.1
  have ec := Int32.toInt_toInt64 c
  have en := Int32.toInt_toInt64 n
  have o1 : (1 : Int64).toInt = 1 := rfl
  have o9 : (999 : Int64).toInt = 999 := rfl
  have hc0 : CoM (ui I 704 0 0 0) R s P := CoM_cg hR hc t0_6
  refine toCI (n := 6) hd (r_M_late_0 (c_M_isCoach (by omega) hR hc0.1 (fun g1 g2 => ⟨fun _ => ?_, fun q => absurd (by decide) q⟩) (fun g => ⟨fun q => absurd rfl q, fun _ => ⟨_, rfl, h2 (by rw [ec] at g; exact g)⟩⟩)))
  rw [ec] at g1 g2
  refine c_M_within (by omega) (fun g3 g4 => ⟨fun _ => ?_, fun q => absurd (by decide) q⟩) (fun g => ⟨fun q => absurd rfl q, fun _ => ⟨_, rfl, h3 ⟨g1, g2⟩ (fun z => g (by rw [en, o1, o9]; exact z))⟩⟩)
  rw [en, o1] at g3
  rw [en, o9] at g4
  have fin := h1 ⟨g1, g2⟩ ⟨g3, g4⟩
  have e1 := ge_nI g1
  have e2 := ge_nI (a := n) (by omega)
  have b1 : c.toInt.toNat < rC R := by omega
  have b2 : n.toInt.toNat ≤ 999 := by omega
  clear g1 g2 g3 g4 h1 h2 h3 ec en
  generalize c.toInt.toNat = c' at *
  generalize n.toInt.toNat = n' at *
  subst e1 e2
  refine c_M_goesFor (by omega) hO hc0 b2 (fun I1 _ hg h6 ht hF => c_M_lateAt (by omega) b2 (by omega) ⟨_, rfl, ?_⟩)
  rw [(hg.1 _ b1).1]
  exact fin I1 (CoM_cg hR hc0 h6) ⟨t0_F.tr hF, by rw [ht, ui_s]⟩
theorem m_sets {c n : Int32} {K : Int32 → MI → ML → Prop} (hd : 7 ≤ d) (hO : CoO R s P) (hc : CoM I R s P) (h1 : isC R c → isN n 999 → ∀ I', CoM I' R s P → mFr I I' → K (((rP R * (s.2.2.2.2 + n)) + rh R c.toInt.toNat) + (itN R s n.toInt.toNat).1 c.toInt.toNat) I' L) (h2 : ¬ isC R c → K (-2) (ui I 704 0 0 0) L) (h3 : isC R c → ¬ isN n 999 → K (-3) (ui I 704 0 0 0) L) : CI d m_M_sets [vR 704 0, vI c, vI n] I L K := by
  have hR := hO.1
  have hC := hR.1
  have ec := Int32.toInt_toInt64 c
  have en := Int32.toInt_toInt64 n
  have o1 : (1 : Int64).toInt = 1 := rfl
  have o9 : (999 : Int64).toInt = 999 := rfl
  have hc0 : CoM (ui I 704 0 0 0) R s P := CoM_cg hR hc t0_6
  refine toCI (n := 6) hd (r_M_sets_0 (c_M_isCoach (by omega) hR hc0.1 (fun g1 g2 => ⟨fun _ => ?_, fun q => absurd (by decide) q⟩) (fun g => ⟨fun q => absurd rfl q, fun _ => ⟨_, rfl, h2 (by rw [ec] at g; exact g)⟩⟩)))
  rw [ec] at g1 g2
  refine c_M_within (by omega) (fun g3 g4 => ⟨fun _ => ?_, fun q => absurd (by decide) q⟩) (fun g => ⟨fun q => absurd rfl q, fun _ => ⟨_, rfl, h3 ⟨g1, g2⟩ (fun z => g (by rw [en, o1, o9]; exact z))⟩⟩)
  rw [en, o1] at g3
  rw [en, o9] at g4
  have fin := h1 ⟨g1, g2⟩ ⟨g3, g4⟩
  have e1 := ge_nI g1
  have e2 := ge_nI (a := n) (by omega)
  have b1 : c.toInt.toNat < rC R := by omega
  have b2 : n.toInt.toNat ≤ 999 := by omega
  clear g1 g2 g3 g4 h1 h2 h3 ec en
  generalize c.toInt.toNat = c' at *
  generalize n.toInt.toNat = n' at *
  subst e1 e2
  have e10 : (10 : Int32) + nI c' = nI (10 + c') := nI_add 10 c'
  refine c_M_goesFor (by omega) hO hc0 b2 (fun I1 _ hg h6 ht hF => ?_)
  rw [e10, cl_n (by omega), h6]
  refine ⟨vin (by omega) (by omega), c_M_lateAt (by omega) b2 (by omega) ⟨_, rfl, ?_⟩⟩
  rw [(hg.1 _ b1).1, hc0.1.2.2.1, hc0.2.1.2.2, (hc0.1.2.2.2.2.1 _ b1).1]
  exact fin I1 (CoM_cg hR hc0 h6) ⟨t0_F.tr hF, by rw [ht, ui_s]⟩
theorem calm_C (hR : WF R) {t : SA} (hz : Zr R t) : calmS t ↔ ∀ c, c < rC R → ¬ 0 < t.1 c ∧ ¬ 0 < t.2.1 c ∧ ¬ 0 < t.2.2.1 c := by
  have hC := hR.1
  refine ⟨fun h c hc => h c (by omega), fun h c hc => ?_⟩
  rcases Nat.lt_or_ge c (rC R) with q | q
  · exact h c q
  · obtain ⟨a, b, e⟩ := hz c q hc
    rw [a, b, e]
    decide
theorem c_M_isCalm {n : Nat} {t : SA} {K : Int32 → MI → ML → Prop} (hd : 3 ≤ d) (hR : WF R) (hM : MRo (I 706 0) R) (hn : n ≤ 999) (hg : MGr I R n t) (hok : OkS R t) (h1 : calmS t → K 1 I L) (h0 : ¬ calmS t → K 0 I L) : CI d m_M_isCalm [vR 704 0, vI (nI n)] I L K := by
  have hC := hR.1
  refine toCI (n := 2) hd (r_M_isCalm_0 ?_)
  obtain ⟨hrow, hheld, _⟩ := hg
  have eH : sumN (I 725 0) (rC R) = sumN t.2.2.1 (rC R) := sumN_eq _ (fun c hc => hheld c hc)
  have eL : whoN (fun c => I 724 0 (6 * (n + 1) + c)) (rC R) = whoN t.1 (rC R) := whoN_eq _ (fun c hc => (hrow c hc).1)
  have eE : whoN (fun c => I 724 0 (6 * n + c)) (rC R) = whoN t.2.1 (rC R) := whoN_eq _ (fun c hc => (hrow c hc).2)
  have s0 := (sum0 (f := t.2.2.1) (rC R) hC (fun c hc => (hok.1.1 c hc).2.2.mono (by omega) (by omega))).2
  have l0 := who0 (f := t.1) (rC R) hC
  have x0 := who0 (f := t.2.1) (rC R) hC
  have cc := calm_C hR hok.2
  have em1 : (nI n - (1 : Int32)) + 1 = nI n := by rw [Int32.sub_eq_add_neg, Int32.add_assoc]; exact Int32.add_zero _
  have key : ∀ (l c : Nat), c + l = rC R → XX (2 + 1) m_M_isCalm (fun r I' L' => ∃ x, r = some (vI x) ∧ K x I' L') 4 [vR 704 0, vI (nI n), vI (sumN (I 725 0) c), vI (nI c)] [] I L := by
    intro l
    induction l with
    | zero =>
      intro c hc
      have e : c = rC R := by omega
      subst e
      refine r_M_isCalm_4 ?_
      rw [hM.1, eH]
      refine ⟨fun _ => ⟨fun q => ⟨_, rfl, h0 (fun z => q (s0.mpr (fun c hc => (cc.mp z c hc).2.2)))⟩, fun q => ?_⟩, fun q => absurd (nI_le (Nat.le_refl _) (by omega)) q⟩
      refine c_M_whoIn (r := n + 1) (by omega) (nI_add n 1) (by omega) hM.1 hC ?_
      rw [eL]
      refine ⟨fun q2 => ⟨_, rfl, h0 (fun z => q2 (l0.mpr (fun c hc => (cc.mp z c hc).1)))⟩, fun q2 => ?_⟩
      refine c_M_whoIn (r := n) (by omega) em1 (by omega) hM.1 hC ?_
      rw [eE]
      refine ⟨fun q3 => ⟨_, rfl, h0 (fun z => q3 (x0.mpr (fun c hc => (cc.mp z c hc).2.1)))⟩, fun q3 => ⟨_, rfl, h1 (cc.mpr (fun c hc => ?_))⟩⟩
      exact ⟨l0.mp (Classical.not_not.mp q2) c hc, x0.mp (Classical.not_not.mp q3) c hc, s0.mp (Classical.not_not.mp q) c hc⟩
    | succ l ih =>
      intro c hc
      refine r_M_isCalm_4 ?_
      rw [hM.1, cl_n (by omega), nI_1]
      exact ⟨fun q => absurd q (nI_ge (show c < rC R by omega) (by omega)), fun _ => ⟨vin (by omega) (by omega), ih (c + 1) (by omega)⟩⟩
  exact key (rC R) 0 (by omega)
theorem m_calm {K : Int32 → MI → ML → Prop} (hd : 6 ≤ d) (hO : CoO R s P) (hc : CoM I R s P) (h : ∀ I', CoM I' R s P → mFr I I' → K (clmN R s 1000 0) I' L) : CI d m_M_calm [vR 704 0] I L K := by
  have hR := hO.1
  have hC := hR.1
  have hc0 : CoM (ui I 704 0 0 0) R s P := CoM_cg hR hc t0_6
  refine toCI (n := 5) hd (r_M_calm_0 ?_)
  rw [hc0.2.1.2.1]
  refine CoM_begins (by omega) hO hc0 (fun I1 hG1 n1 t1 hF1 => ?_)
  have key : ∀ (l k : Nat) (J : MI), k + l = 1000 → clmN R s l k = clmN R s 1000 0 → (k ≤ 999 → MGr J R k (itN R s k)) → J 706 0 = (ui I 704 0 0 0) 706 0 → J 704 0 0 = 0 → mF0 I J → XX (5 + 1) m_M_calm (fun r I' L' => ∃ x, r = some (vI x) ∧ K x I' L') 18 [vR 704 0, vI (nI k)] [] J L := by
    intro l
    induction l with
    | zero =>
      intro k J hk he hg h6 ht hF
      refine r_M_calm_18 ⟨fun _ => ⟨_, rfl, ?_⟩, fun q => absurd (nI_lt (a := 999) (show 999 < k by omega) (by omega)) q⟩
      have := h J (CoM_cg hR hc0 h6) ⟨hF, ht⟩
      rw [← he] at this
      exact this
    | succ l ih =>
      intro k J hk he hg h6 ht hF
      have hgk := hg (by omega)
      refine r_M_calm_18 ⟨fun q => absurd q (nI_nlt (a := 999) (b := k) (show k ≤ 999 by omega) (by omega)), fun _ => ?_⟩
      refine c_M_isCalm (by omega) hR (by rw [h6]; exact hc0.1) (by omega) hgk (itN_Ok hR hO.2.1 k) (fun q => ⟨fun z => absurd z (by decide), fun _ => ⟨_, rfl, ?_⟩⟩) (fun q => ⟨fun _ => ⟨fun z => ?_, fun z => ?_⟩, fun z => absurd rfl z⟩)
      · have := h J (CoM_cg hR hc0 h6) ⟨hF, ht⟩
        rw [← he, clmN_y q] at this
        exact this
      · rw [nI_1]
        rw [clmN_n q] at he
        refine ih (k + 1) J (by omega) he (fun y => ?_) h6 ht hF
        exact absurd z (nle_c (m := 999) (show k < 999 by omega) (by omega))
      · rw [clmN_n q] at he
        have hk9 : k < 999 := by
          rcases Nat.lt_or_ge k 999 with y | y
          · exact y
          · exact absurd (le_c (m := 999) y (by omega)) z
        refine c_M_goes (r := k) (by omega) hR (by rw [h6]; exact hc0.1) (by omega) hgk ((itN_Ok hR hO.2.1 k).1.mono (by omega)) (fun J1 hg1 hlo ho hs => ?_)
        rw [nI_1]
        exact ih (k + 1) J1 (by omega) he (fun _ => hg1) ((gs_no hs (by decide)).trans h6) ((ho 0 (by decide) (by decide)).trans ht) (hF.tr (gs_F0 hs ho))
  exact key 1000 0 I1 (by omega) rfl (fun _ => hG1) n1 (by rw [t1, ui_s]) (t0_F.tr hF1)
end Calm
