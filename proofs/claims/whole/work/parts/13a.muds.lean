/-! muds, look: what they are, and the program's -/
theorem cmp_eq {x y : Int64} : lg_cmp x y = 0 ↔ x = y := by
  constructor
  · intro e
    have h1 : ¬ 0 < lg_cmp x y := by rw [e]; decide
    have h2 : ¬ lg_cmp x y < 0 := by rw [e]; decide
    rw [cmp_gt] at h1
    rw [cmp_lt] at h2
    exact Int64.toInt_inj.mp (by omega)
  · intro e
    subst e
    have h1 : ¬ 0 < lg_cmp x x := by rw [cmp_gt]; omega
    have h2 : ¬ lg_cmp x x < 0 := by rw [cmp_lt]; omega
    exact Int32.le_antisymm (Int32.not_lt.mp h1) (Int32.not_lt.mp h2)
def snB (R : RD) (s : SA) (c : Nat) (f : Nat → Int64) (m : Nat) : Nat → Bool
  | 0 => true
  | q + 1 => snB R s c f m q && decide (((itN R (mudS s (nI m)) (q + 1)).1 c).toInt64 = f q)
theorem snB_no {R : RD} {s : SA} {c : Nat} {f : Nat → Int64} {m q : Nat} (h : snB R s c f m q = false) : ∀ j, snB R s c f m (q + j) = false
  | 0 => h
  | j + 1 => by show (snB R s c f m (q + j) && _) = false; rw [snB_no h j]; rfl
def bmN (g : Nat → Bool) : Nat → Int32
  | 0 => 0
  | n + 1 => if g n = true then bmN g n ||| ((1 : Int32) <<< (nI n &&& 31)) else bmN g n
/-- the muds that are as was seen, as bits -/
def bmK (g : Nat → Bool) : Nat → Nat
  | 0 => 0
  | n + 1 => if g n = true then bmK g n ||| 2 ^ n else bmK g n
theorem bmK_ok (g : Nat → Bool) : ∀ n, n ≤ 10 → bmK g n < 1024 ∧ bmN g n = nI (bmK g n) := by
  intro n
  induction n with
  | zero => intro _; exact ⟨by show 0 < 1024; omega, rfl⟩
  | succ n ih =>
    intro hn
    obtain ⟨h1, h2⟩ := ih (by omega)
    have tb := List.all_eq_true.mp (List.all_eq_true.mp or_tab n (List.mem_range.mpr (by omega))) _ (List.mem_range.mpr h1)
    simp only [Bool.and_eq_true, decide_eq_true_eq] at tb
    simp only [bmN, bmK]
    by_cases e : g n = true
    · rw [if_pos e, if_pos e, h2]; exact ⟨tb.2, tb.1⟩
    · rw [if_neg e, if_neg e]; exact ⟨h1, h2⟩
def mdN (R : RD) (s : SA) (c q : Nat) (f : Nat → Int64) : Nat := bmK (fun m => snB R s c f m q) 10
theorem mdN_lt {R : RD} {s : SA} {c q : Nat} {f : Nat → Int64} : mdN R s c q f < 1024 := (bmK_ok _ 10 (by omega)).1
def ngP (f : Nat → Int64) (n : Nat) : Prop := ∃ i, i < n ∧ (f i).toInt < 0
/-- how late in the first round, by a mud -/
def flN (R : RD) (s : SA) (m c : Nat) : Int32 := (trn R (mudS s (nI m)) (-1)).1 c
def alN (k : Nat) (F : Nat → Nat → Int32) (c m : Nat) : Nat → Nat
  | 0 => 0
  | o + 1 => alN k F c m o + if k.testBit o = true ∧ F o c = F m c then 1 else 0
def moN (k : Nat) (F : Nat → Nat → Int32) (c : Nat) : Nat → Nat
  | 0 => 0
  | m + 1 => if k.testBit m = true then max (moN k F c m) (alN k F c m 10) else moN k F c m
def btN (M : Nat → Nat) : Nat → Nat × Nat
  | 0 => (0, M 0)
  | j + 1 => if M (j + 1) < (btN M j).2 then (j + 1, M (j + 1)) else btN M j
def lkN (R : RD) (s : SA) (k : Nat) : Int32 := if k = 0 then -1 else nI (btN (fun c => moN k (flN R s) c 10) (rC R - 1)).1
theorem alN_le {k : Nat} {F : Nat → Nat → Int32} {c m : Nat} : ∀ o, alN k F c m o ≤ o
  | 0 => Nat.le_refl _
  | o + 1 => by have := alN_le (k := k) (F := F) (c := c) (m := m) o; simp only [alN]; split <;> omega
theorem moN_le {k : Nat} {F : Nat → Nat → Int32} {c : Nat} : ∀ m, moN k F c m ≤ 10
  | 0 => by simp [moN]
  | m + 1 => by
    have h1 := moN_le (k := k) (F := F) (c := c) m
    have h2 := alN_le (k := k) (F := F) (c := c) (m := m) 10
    simp only [moN]; split <;> omega
theorem bt_le {M : Nat → Nat} (h : ∀ c, M c ≤ 10) : ∀ j, (btN M j).2 ≤ 10 ∧ (btN M j).1 ≤ j
  | 0 => ⟨h 0, Nat.le_refl _⟩
  | j + 1 => by
    have := bt_le h j
    simp only [btN]
    split
    · exact ⟨h _, Nat.le_refl _⟩
    · exact ⟨this.1, by omega⟩
theorem bit_t1 : ((List.range 10).all fun o => (List.range 1024).all fun k => decide (((nI k >>> (nI o &&& 31)) &&& (1 : Int32)) = if k.testBit o = true then 1 else 0)) = true := by decide +kernel
theorem bit_1 {k o : Nat} (hk : k < 1024) (ho : o < 10) : ((nI k >>> (nI o &&& 31)) &&& (1 : Int32)) = if k.testBit o = true then 1 else 0 := of_decide_eq_true (List.all_eq_true.mp (List.all_eq_true.mp bit_t1 o (List.mem_range.mpr ho)) k (List.mem_range.mpr hk))
theorem mud_Ok {R : RD} {s : SA} {m : Nat} (h : OkS R s) (hm : m ≤ 9) : OkS R (mudS s (nI m)) := ⟨⟨h.1.1, m, hm, rfl⟩, h.2⟩
/-- with what was late in the first round by each mud -/
def lkS : Nat → Nat → Prop := fun r a => tuS 2 r a ∨ (r = 16 ∧ a = 0)
def cdL : Nat → Nat → Prop := fun r a => cdS r a ∨ (r = 16 ∧ a = 0)
theorem lk_cd {I I' : MI} (h : Same lkS I I') : Same cdL I I' := h.mono (fun r a q => q.elim (fun z => Or.inl (z.elim (fun z => Or.inr (Or.inl z)) (fun z => Or.inl ⟨z.1, by rw [z.2]; omega⟩))) Or.inr)
theorem cd_cdL {I I' : MI} (h : Same cdS I I') : Same cdL I I' := h.mono (fun _ _ q => Or.inl q)
theorem tu_lk {I I' : MI} (h : Same (tuS 2) I I') : Same lkS I I' := h.mono (fun _ _ q => Or.inl q)
section MudsC
variable {d : Nat} {I : MI} {L : ML} {R : RD} {s : SA} {P : List SA}
theorem CoC_16 {k : Nat} {x : Int32} (hc : CoC I R s P) : CoC (ui I 16 0 k x) R s P := by
  have hS : Same (fun r a => r = 16 ∧ a = 0) I (ui I 16 0 k x) := Same.rf.ui ⟨rfl, rfl⟩
  have n : ∀ r, r ≠ 16 → ui I 16 0 k x r 0 = I r 0 := fun r hr => hS r 0 (fun q => hr q.1)
  refine ⟨hc.1.same hS (fun r h1 h2 q => by have := q.1; omega), hc.2.1.same hS (fun q => by have := q.1; omega) (fun q => by have := q.1; omega) (fun q => by have := q.1; omega) (fun q => by have := q.1; omega), ?_, hc.2.2.2.same hS (fun q => by have := q.1; omega) (fun r a h1 h2 _ _ q => by have := q.1; omega)⟩
  have h := hc.2.2.1
  have e8 : ui I 16 0 k x 320 0 8 = I 320 0 8 := by rw [n 320 (by omega)]
  have ek : knA (ui I 16 0 k x) R := fun w hw k hk => by rw [n 328 (by omega)]; exact h.2.2.2 w hw k hk
  exact GoA_of h (n 325 (by omega)) (fun c _ _ => by rw [n 326 (by omega)]) e8 (n 323 (by omega)) (n 324 (by omega)) ek
theorem tu_640 {b : Nat} : ¬ tuS 2 640 b := fun q => by
  rcases q with z | z
  · rcases z.1 with y | y | y | y | y | y | y | y | y <;> omega
  · rcases z.1 with y | y | y | y <;> omega
theorem c_W_isSeenBy {so n c j m : Nat} {f : Nat → Int64} {K : Int32 → MI → ML → Prop} (hd : 6 ≤ d) (hO : CoO R s P) (hc : CoC I R s P) (hT : TrC I L j (some (so, n, f))) (hn : n ≤ 40) (hcl : c < rC R) (hm : m ≤ 9) (h : ∀ I', CoC I' R s P → Same (tuS 2) I I' → K (if snB R s c f m n = true then 1 else 0) I' L) : CI d m_W_isSeenBy [vR 0 0, vI (nI m), vR 640 j, vI (nI c)] I L K := by
  have hR := hO.1
  have hC := hR.1
  obtain ⟨t1, t2, t3⟩ := hT
  have t2 : I 640 j 2 = nI n := t2
  have t3 : ∀ k, k < n → L 641 j k = f k := t3
  refine toCI (n := 5) hd (r_W_isSeenBy_0 (c_St_copy (by omega) (by omega) hc.2.1 (fun I1 hs1 hS1 => ?_)))
  have hG1 := GoA_st hc.2.2.1 hS1
  have hc1 := CoC_tu hc (i := 2) (by omega) (by omega) hG1 (st_tu hS1)
  have hu : Same (stS 2) I1 (ui I1 256 2 3 (nI m)) := Same.rf.ui ⟨by simp, rfl⟩
  have hs2 : StA (ui I1 256 2 3 (nI m)) 2 (mudS s (nI m)) := StA_mud hs1
  have hc2 := CoC_tu hc1 (i := 2) (by omega) (by omega) (GoA_st hG1 hu) (st_tu hu)
  have hok := mud_Ok (m := m) hO.2.1 hm
  have key : ∀ (l k : Nat) (J : MI), k + l = n → snB R s c f m k = true → StA J 2 (itN R (mudS s (nI m)) k) → CoC J R s P → Same (tuS 2) I J → XX (5 + 1) m_W_isSeenBy (fun r I' L' => ∃ x, r = some (vI x) ∧ K x I' L') 22 [vR 0 0, vD, vR 640 j, vI (nI c), vI (nI k)] [] J L := by
    intro l
    induction l with
    | zero =>
      intro k J hk hb hs hcJ hS
      refine r_W_isSeenBy_22 (c_Tr_size (by omega) ?_)
      rw [hS 640 j tu_640, t2]
      refine ⟨fun _ => ⟨_, rfl, ?_⟩, fun q => absurd (nI_le (show n ≤ k by omega) (by omega)) q⟩
      have := h J hcJ hS
      rw [show n = k by omega, if_pos hb] at this
      exact this
    | succ l ih =>
      intro k J hk hb hs hcJ hS
      refine r_W_isSeenBy_22 (c_Tr_size (by omega) ?_)
      rw [hS 640 j tu_640, t2]
      refine ⟨fun q => absurd q (nI_ge (show k < n by omega) (by omega)), fun _ => ?_⟩
      refine c_Go_turn (hb := 9) (by omega) hR hcJ.1 hcJ.2.2.1 hs (by omega) (itN_Ok hR hok k).1 (fun x J1 _ hs1 hG1 _ hS1 => c_St_lastOf (by omega) (by omega) (c_Tr_at (by omega) (by omega) ?_))
      have hc1 := CoC_tu hcJ (i := 2) (by omega) (by omega) hG1 hS1
      rw [hs1.1 c (by omega), t3 k (by omega), nI_1]
      have eb : snB R s c f m (k + 1) = decide (((itN R (mudS s (nI m)) (k + 1)).1 c).toInt64 = f k) := by
        show (snB R s c f m k && _) = _
        rw [hb, Bool.true_and]
      refine ⟨fun q => ?_, fun q => ⟨_, rfl, ?_⟩⟩
      · exact ih (k + 1) J1 (by omega) (eb.trans (decide_eq_true (cmp_eq.mp q))) hs1 hc1 (hS.tr hS1)
      · have hno : snB R s c f m (k + 1) = false := eb.trans (decide_eq_false (fun z => q (cmp_eq.mpr z)))
        have := snB_no hno l
        have fin := h J1 hc1 (hS.tr hS1)
        rw [show n = k + 1 + l by omega, this] at fin
        exact fin
  exact key n 0 _ (by omega) rfl hs2 hc2 ((st_tu hS1).tr (st_tu hu))
theorem TrC_tu {I' : MI} {j : Nat} {t : TA} (h : TrC I L j t) (hS : Same (tuS 2) I I') : TrC I' L j t := by
  unfold TrC at h ⊢
  rw [hS 640 j tu_640]
  exact h
theorem c_W_mudsSeen {so n c j : Nat} {f : Nat → Int64} {K : Int32 → MI → ML → Prop} (hd : 7 ≤ d) (hO : CoO R s P) (hc : CoC I R s P) (hT : TrC I L j (some (so, n, f))) (hn : n ≤ 40) (hcl : c < rC R) (h : ∀ I', CoC I' R s P → Same (tuS 2) I I' → K (nI (mdN R s c n f)) I' L) : CI d m_W_mudsSeen [vR 0 0, vR 640 j, vI (nI c)] I L K := by
  refine toCI (n := 6) hd (r_W_mudsSeen_0 ?_)
  have key : ∀ (l m : Nat) (J : MI), m + l = 10 → CoC J R s P → Same (tuS 2) I J → XX (6 + 1) m_W_mudsSeen (fun r I' L' => ∃ x, r = some (vI x) ∧ K x I' L') 5 [vR 0 0, vR 640 j, vI (nI c), vI (bmN (fun m => snB R s c f m n) m), vI (nI m)] [] J L := by
    intro l
    induction l with
    | zero =>
      intro m J hm hcJ hS
      have em : m = 10 := by omega
      subst em
      refine r_W_mudsSeen_5 ⟨fun _ => ⟨_, rfl, ?_⟩, fun q => absurd (by decide) q⟩
      rw [(bmK_ok _ 10 (by omega)).2]
      exact h J hcJ hS
    | succ l ih =>
      intro m J hm hcJ hS
      refine r_W_mudsSeen_5 ⟨fun q => absurd q (nle_c (m := 10) (by omega) (by omega)), fun _ => c_W_isSeenBy (by omega) hO hcJ (TrC_tu hT hS) hn hcl (by omega) (fun J1 hc1 hS1 => ?_)⟩
      have := ih (m + 1) J1 (by omega) hc1 (hS.tr hS1)
      simp only [bmN] at this
      rw [nI_1]
      by_cases e : snB R s c f m n = true
      · rw [if_pos e] at this ⊢
        exact ⟨fun q => absurd q (by decide), fun _ => this⟩
      · rw [if_neg e] at this ⊢
        exact ⟨fun _ => this, fun q => absurd rfl q⟩
  exact key 10 0 I (by omega) hc Same.rf
theorem c_W_refusalOfSeen {t : TA} {j : Nat} {c : Int32} {K : Int32 → MI → ML → Prop} (hd : 2 ≤ d) (hR : WF R) (hc : CoC I R s P) (ht : tOk t) (hT : TrC I L j t) (h2 : ¬ isC R c → K (-2) I L) (h6 : isC R c → t = none → K (-6) I L) (h4 : ∀ so n f, isC R c → t = some (so, n, f) → ¬ (1 ≤ n ∧ n ≤ 8) → K (-4) I L) (h3 : ∀ so n f, isC R c → t = some (so, n, f) → 1 ≤ n → n ≤ 8 → ngP f n → K (-3) I L) (h1 : ∀ so n f, isC R c → t = some (so, n, f) → 1 ≤ n → n ≤ 8 → ¬ ngP f n → K 0 I L) : CI d m_W_refusalOfSeen [vR 0 0, vR 640 j, vI c] I L K := by
  refine toCI (n := 1) hd (r_W_refusalOfSeen_0 (c_W_isCoach (by omega) hR hc.1 (fun g3 g4 => ⟨fun _ => ?_, fun q => absurd (by decide) q⟩) (fun g => ⟨fun q => absurd rfl q, fun _ => ⟨_, rfl, h2 g⟩⟩)))
  refine c_Tr_isMissing (by omega) ht hT (fun e => ⟨fun z => absurd z (by decide), fun _ => ⟨_, rfl, h6 ⟨g3, g4⟩ e⟩⟩) (fun so n f e hso hn => ⟨fun _ => c_Tr_size (by omega) ?_, fun z => absurd rfl z⟩)
  rw [e] at hT
  obtain ⟨t1, t2, t3⟩ := hT
  have t2 : I 640 j 2 = nI n := t2
  have t3 : ∀ k, k < n → L 641 j k = f k := t3
  have g4' := h4 so n f ⟨g3, g4⟩ e
  rw [t2]
  refine ⟨fun q => ⟨_, rfl, g4' (fun z => ?_)⟩, fun q1 => c_Tr_size (by omega) ?_⟩
  · exact absurd q (nI_nlt (b := 1) (a := n) z.1 (by omega))
  rw [t2]
  have n1 : 1 ≤ n := by
    rcases Nat.lt_or_ge n 1 with z | z
    · exact absurd (nI_lt (b := 1) z (by omega)) q1
    · exact z
  refine ⟨fun q => ?_, fun q => ⟨_, rfl, g4' (fun z => ?_)⟩⟩
  · have n8 : n ≤ 8 := (nI_leI (a := n) (b := 8) (by omega) (by omega)).mp q
    have key : ∀ (l k : Nat), k + l = n → (∀ i, i < k → ¬ (f i).toInt < 0) → XX (1 + 1) m_W_refusalOfSeen (fun r I' L' => ∃ x, r = some (vI x) ∧ K x I' L') 47 [vD, vR 640 j, vD, vI (nI k)] [] I L := by
      intro l
      induction l with
      | zero =>
        intro k hk hg
        refine r_W_refusalOfSeen_47 (c_Tr_size (by omega) ?_)
        rw [t2]
        exact ⟨fun _ => ⟨_, rfl, h1 so n f ⟨g3, g4⟩ e n1 n8 (fun ⟨i, hi, hneg⟩ => hg i (by omega) hneg)⟩, fun q => absurd (nI_le (show n ≤ k by omega) (by omega)) q⟩
      | succ l ih =>
        intro k hk hg
        refine r_W_refusalOfSeen_47 (c_Tr_size (by omega) ?_)
        rw [t2]
        refine ⟨fun q => absurd q (nI_ge (show k < n by omega) (by omega)), fun _ => c_Tr_at (by omega) (by omega) ?_⟩
        rw [t3 k (by omega), nI_1]
        refine ⟨fun q => ih (k + 1) (by omega) (fun i hi => ?_), fun q => ⟨_, rfl, h3 so n f ⟨g3, g4⟩ e n1 n8 ⟨k, by omega, ?_⟩⟩⟩
        · by_cases y : i = k
          · subst y
            have := fun z => Int32.not_lt.mpr q (cmp_lt.mpr z)
            exact this
          · exact hg i (by omega)
        · exact cmp_lt.mp (Int32.not_le.mp q)
    exact key n 0 (by omega) (fun i hi => by omega)
  · exact q (nI_le (b := 8) z.2 (by omega))
/-- which refusal, or the tray -/
theorem w_muds {T : Nat → TA} {a c : Int32} {K : Int32 → MI → ML → Prop} (hd : 8 ≤ d) (hO : CoO R s P) (hc : CoC I R s P) (hT : tsC I L T) (h2 : ¬ (is3 a ∧ isC R c) → K (-2) I L) (h6 : is3 a → isC R c → T a.toInt.toNat = none → K (-6) I L) (h4 : ∀ so n f, is3 a → isC R c → T a.toInt.toNat = some (so, n, f) → ¬ (1 ≤ n ∧ n ≤ 8) → K (-4) I L) (h3 : ∀ so n f, is3 a → isC R c → T a.toInt.toNat = some (so, n, f) → 1 ≤ n → n ≤ 8 → ngP f n → K (-3) I L) (h1 : ∀ so n f, is3 a → isC R c → T a.toInt.toNat = some (so, n, f) → 1 ≤ n → n ≤ 8 → ¬ ngP f n → ∀ I', CoC I' R s P → Same cdS I I' → K (nI (mdN R s c.toInt.toNat n f)) I' L) : CI d m_W_muds [vR 0 0, vI a, vI c] I L K := by
  refine toCI (n := 7) hd (r_W_muds_0 (c_W_trayAt (by omega) (fun g => toCI (n := 6) (by omega) (r_W_refusalOfSeenN_0 ⟨_, rfl, _, rfl, h2 (fun z => g z.1)⟩)) (fun g1 g2 => ?_)))
  obtain ⟨ht, hTr⟩ := hT a.toInt.toNat (by omega)
  have m2 : ¬ (-2 : Int32) = 0 := by decide
  have m3 : ¬ (-3 : Int32) = 0 := by decide
  have m4 : ¬ (-4 : Int32) = 0 := by decide
  have m6 : ¬ (-6 : Int32) = 0 := by decide
  refine c_W_refusalOfSeen (by omega) hO.1 hc ht hTr (fun g => ⟨fun q => absurd q m2, fun _ => ⟨_, rfl, h2 (fun z => g z.2)⟩⟩) (fun g e => ⟨fun q => absurd q m6, fun _ => ⟨_, rfl, h6 ⟨g1, g2⟩ g e⟩⟩) (fun so n f g e z => ⟨fun q => absurd q m4, fun _ => ⟨_, rfl, h4 so n f ⟨g1, g2⟩ g e z⟩⟩) (fun so n f g e z1 z2 z3 => ⟨fun q => absurd q m3, fun _ => ⟨_, rfl, h3 so n f ⟨g1, g2⟩ g e z1 z2 z3⟩⟩) (fun so n f g e z1 z2 z3 => ⟨fun _ => ?_, fun q => absurd rfl q⟩)
  have fin := h1 so n f ⟨g1, g2⟩ g e z1 z2 z3
  rw [e] at hTr
  obtain ⟨y1, y2⟩ := g
  have e1 := ge_nI y1
  have b1 : c.toInt.toNat < rC R := by omega
  clear h1 h2 h3 h4 h6
  generalize c.toInt.toNat = c' at *
  subst e1
  exact c_W_mudsSeen (by omega) hO hc hTr (by omega) b1 (fun I' hc' hS' => ⟨_, rfl, fin I' hc' (tu_cd (by omega) hS')⟩)
def F16 (I : MI) (F : Nat → Nat → Int32) (m : Nat) : Prop := ∀ o c, o < m → c < 6 → I 16 0 (6 * o + c) = F o c
theorem c_W_mostAlike {k c : Nat} {F : Nat → Nat → Int32} {K : Int32 → MI → ML → Prop} (hd : 2 ≤ d) (hk : k < 1024) (hc : c < 6) (hF : F16 I F 10) (h : K (nI (moN k F c 10)) I L) : CI d m_W_mostAlike [vR 0 0, vI (nI k), vI (nI c)] I L K := by
  refine toCI (n := 1) hd (r_W_mostAlike_0 ?_)
  have ix : ∀ o, (nI o * (6 : Int32)) + nI c = nI (6 * o + c) := fun o => by
    have : nI o * (6 : Int32) = nI (o * 6) := pk_mul o 6
    rw [this, nI_add, Nat.mul_comm]
  have out : ∀ (l m : Nat), m + l = 10 → XX (1 + 1) m_W_mostAlike (fun r I' L' => ∃ x, r = some (vI x) ∧ K x I' L') 5 [vR 0 0, vI (nI k), vI (nI c), vI (nI (moN k F c m)), vI (nI m), vD, vD, vD] [] I L := by
    intro l
    induction l with
    | zero =>
      intro m hm
      have em : m = 10 := by omega
      subst em
      exact r_W_mostAlike_5 ⟨fun _ => ⟨_, rfl, h⟩, fun q => absurd (by decide) q⟩
    | succ l ih =>
      intro m hm
      refine r_W_mostAlike_5 ⟨fun q => absurd q (nle_c (m := 10) (by omega) (by omega)), fun _ => ?_⟩
      have nxt := ih (m + 1) (by omega)
      simp only [moN] at nxt
      have inn : ∀ (b o : Nat), o + b = 10 → XX (1 + 1) m_W_mostAlike (fun r I' L' => ∃ x, r = some (vI x) ∧ K x I' L') 18 [vR 0 0, vI (nI k), vI (nI c), vI (nI (moN k F c m)), vI (nI m), vI (nI (alN k F c m o)), vI (nI o), vD] [] I L := by
        intro b
        induction b with
        | zero =>
          intro o ho
          have eo : o = 10 := by omega
          subst eo
          refine r_W_mostAlike_18 ⟨fun _ => ?_, fun q => absurd (by decide) q⟩
          rw [bit_1 hk (by omega), nI_1]
          by_cases e : k.testBit m = true
          · rw [if_pos e] at nxt ⊢
            refine ⟨fun q => absurd q (by decide), fun _ => c_max (by omega) ?_⟩
            have h1 := moN_le (k := k) (F := F) (c := c) m
            have h2 := alN_le (k := k) (F := F) (c := c) (m := m) 10
            have : mx (nI (moN k F c m)) (nI (alN k F c m 10)) = nI (max (moN k F c m) (alN k F c m 10)) := by
              unfold mx
              split
              · rename_i q
                have := (nI_ltI (by omega) (by omega)).mp q
                rw [Nat.max_eq_right (by omega)]
              · rename_i q
                have : ¬ moN k F c m < alN k F c m 10 := fun z => q (nI_lt z (by omega))
                rw [Nat.max_eq_left (by omega)]
            rw [this]
            exact nxt
          · rw [if_neg e] at nxt ⊢
            exact ⟨fun _ => nxt, fun q => absurd rfl q⟩
        | succ b ihb =>
          intro o ho
          refine r_W_mostAlike_18 ⟨fun q => absurd q (nle_c (m := 10) (by omega) (by omega)), fun _ => ?_⟩
          have n2 := ihb (o + 1) (by omega)
          simp only [alN] at n2
          rw [ix o, ix m, cl_n (by omega), cl_n (by omega), hF o c (by omega) hc, hF m c (by omega) hc, bit_1 hk (by omega), nI_1, nI_1]
          refine ⟨vin (by omega) (by omega), vin (by omega) (by omega), fun q => ⟨fun _ => ?_, fun z => absurd rfl z⟩, fun q => ⟨fun z => absurd z (by decide), fun _ => ?_⟩⟩
          · rw [if_neg (fun z => q z.2), Nat.add_zero] at n2
            exact n2
          · have q := Classical.not_not.mp q
            by_cases e : k.testBit o = true
            · rw [if_pos ⟨e, q⟩] at n2
              rw [if_pos e]
              exact ⟨fun z => absurd z (by decide), fun _ => n2⟩
            · rw [if_neg (fun z => e z.1), Nat.add_zero] at n2
              rw [if_neg e]
              exact ⟨fun _ => n2, fun z => absurd rfl z⟩
      exact inn 10 0 (by omega)
  exact out 10 0 (by omega)
end MudsC
