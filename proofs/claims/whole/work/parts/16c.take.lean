/-! what a TOKEN is; the program takes one -/
theorem nm10 {B : Nat → Nat} {s : Nat} : ∀ m, (∀ i, i < m → B (s + i) - 48 ≤ 9) → m ≤ 3 → nmB B s m < 10 ^ m
  | 0, _, _ => by show 0 < 1; omega
  | m + 1, h, hm => by
    have ih := nm10 m (fun i hi => h i (by omega)) (by omega)
    have h2 := h m (by omega)
    show (if m < 3 then nmB B s m * 10 + (B (s + m) - 48) else nmB B s m) < _
    rw [if_pos (by omega), Nat.pow_succ]
    omega
theorem tkD_dg {B : Nat → Nat} {n : Nat} : ∀ f p i, p ≤ i → i < tkD B n f p → 48 ≤ B i ∧ B i ≤ 57
  | 0, p, i, h1, h2 => by have h2 : i < p := h2; omega
  | f + 1, p, i, h1, h2 => by
    simp only [tkD] at h2
    by_cases e : p < n ∧ 48 ≤ B p ∧ B p ≤ 57
    · rw [if_pos e] at h2
      by_cases y : i = p
      · rw [y]; exact e.2
      · exact tkD_dg f (p + 1) i (by omega) h2
    · rw [if_neg e] at h2; omega
theorem tkL_lt {B : Nat → Nat} {n s : Nat} (h : s < n) (hl : 97 ≤ B s ∧ B s ≤ 122) : s < tkL B n (n - s) s := by
  rw [show n - s = (n - s - 1) + 1 by omega]
  simp only [tkL]
  rw [if_pos ⟨h, hl⟩]
  have := (tkL_le (B := B) (n := n) (n - s - 1) (s + 1) (by omega)).1
  omega
theorem tkD_lt {B : Nat → Nat} {n s : Nat} (h : s < n) (hl : 48 ≤ B s ∧ B s ≤ 57) : s < tkD B n (n - s) s := by
  rw [show n - s = (n - s - 1) + 1 by omega]
  simp only [tkD]
  rw [if_pos ⟨h, hl⟩]
  have := (tkD_le (B := B) (n := n) (n - s - 1) (s + 1) (by omega)).1
  omega
/-- what holds of a TOKEN -/
def tkF (B : Nat → Nat) (n p : Nat) (T : Nat × Nat × Nat × Nat) : Prop := p ≤ T.2.1 ∧ T.2.1 ≤ n ∧ T.2.2.1 ≤ n ∧ T.2.1 ≤ T.2.2.1 ∧ (T.1 = 24 ↔ T.2.1 = n) ∧ (T.1 ≠ 24 → T.2.1 < T.2.2.1) ∧ (T.1 ≤ 22 → T.1 = kyF B T.2.1 T.2.2.1 21 0) ∧ (T.1 = 23 → T.2.2.2 ≤ 999) ∧ (T.1 ≤ 25 ∨ (30 ≤ T.1 ∧ T.1 ≤ 41)) ∧ T.1 ≠ 21
theorem tk_f {B : Nat → Nat} {n p : Nat} (hp : p ≤ n) : tkF B n p (tkn B n p) := by
  have hw := tkW_le (B := B) (n := n) (n - p) p hp
  unfold tkn
  generalize tkW B n (n - p) p = s at *
  unfold tknS
  by_cases e1 : n ≤ s
  · rw [if_pos e1]
    exact ⟨hw.1, hw.2, hw.2, Nat.le_refl _, ⟨fun _ => by show s = n; omega, fun _ => rfl⟩, fun z => absurd rfl z, fun z => by have z : 24 ≤ 22 := z; omega, fun z => by have z : 24 = 23 := z; omega, Or.inl (by show 24 ≤ 25; omega), by show 24 ≠ 21; omega⟩
  · rw [if_neg e1]
    by_cases e2 : 97 ≤ B s ∧ B s ≤ 122
    · rw [if_pos e2]
      have l1 := tkL_lt (show s < n by omega) e2
      have l2 := (tkL_le (B := B) (n := n) (n - s) s (by omega)).2
      have kl := kyF_le (B := B) (s := s) (e := tkL B n (n - s) s) 21 0 (by omega)
      exact ⟨hw.1, hw.2, l2, by show s ≤ tkL B n (n - s) s; omega, ⟨fun z => by have z : kyF B s (tkL B n (n - s) s) 21 0 = 24 := z; omega, fun z => by have z : s = n := z; omega⟩, fun _ => l1, fun _ => rfl, fun z => by have z : kyF B s (tkL B n (n - s) s) 21 0 = 23 := z; omega, Or.inl (by show kyF B s (tkL B n (n - s) s) 21 0 ≤ 25; omega), fun z => kl.2.2 z⟩
    · rw [if_neg e2]
      by_cases e3 : 48 ≤ B s ∧ B s ≤ 57
      · rw [if_pos e3]
        have l1 := tkD_lt (show s < n by omega) e3
        have l2 := (tkD_le (B := B) (n := n) (n - s) s (by omega)).2
        have hk : (if 3 < tkD B n (n - s) s - s then 25 else 23 : Nat) = 25 ∨ (if 3 < tkD B n (n - s) s - s then 25 else 23 : Nat) = 23 := by split <;> simp
        refine ⟨hw.1, hw.2, l2, by show s ≤ tkD B n (n - s) s; omega, ⟨fun z => ?_, fun z => by have z : s = n := z; omega⟩, fun _ => l1, fun z => ?_, fun z => ?_, Or.inl ?_, fun z => ?_⟩
        · have z : (if 3 < tkD B n (n - s) s - s then 25 else 23 : Nat) = 24 := z; omega
        · have z : (if 3 < tkD B n (n - s) s - s then 25 else 23 : Nat) ≤ 22 := z; omega
        · have z : (if 3 < tkD B n (n - s) s - s then 25 else 23 : Nat) = 23 := z
          by_cases y : 3 < tkD B n (n - s) s - s
          · rw [if_pos y] at z; omega
          · have h10 := nm10 (B := B) (s := s) (tkD B n (n - s) s - s) (fun i hi => by have := tkD_dg (B := B) (n := n) (n - s) s (s + i) (by omega) (by omega); omega) (by omega)
            have : 10 ^ (tkD B n (n - s) s - s) ≤ 10 ^ 3 := Nat.pow_le_pow_right (by omega) (by omega)
            show nmB B s (tkD B n (n - s) s - s) ≤ 999
            omega
        · show (if 3 < tkD B n (n - s) s - s then 25 else 23 : Nat) ≤ 25; omega
        · have z : (if 3 < tkD B n (n - s) s - s then 25 else 23 : Nat) = 21 := z; omega
      · rw [if_neg e3]
        have sg := sgF_le (b := B s) 12 0 (by omega)
        by_cases e4 : sgF (B s) 12 0 < 12
        · rw [if_pos e4]
          exact ⟨hw.1, hw.2, by show s + 1 ≤ n; omega, by show s ≤ s + 1; omega, ⟨fun z => by have z : 30 + sgF (B s) 12 0 = 24 := z; omega, fun z => by have z : s = n := z; omega⟩, fun _ => by show s < s + 1; omega, fun z => by have z : 30 + sgF (B s) 12 0 ≤ 22 := z; omega, fun z => by have z : 30 + sgF (B s) 12 0 = 23 := z; omega, Or.inr ⟨by show 30 ≤ 30 + sgF (B s) 12 0; omega, by show 30 + sgF (B s) 12 0 ≤ 41; omega⟩, by show 30 + sgF (B s) 12 0 ≠ 21; omega⟩
        · rw [if_neg e4]
          exact ⟨hw.1, hw.2, by show s + 1 ≤ n; omega, by show s ≤ s + 1; omega, ⟨fun z => by have z : 25 = 24 := z; omega, fun z => by have z : s = n := z; omega⟩, fun _ => by show s < s + 1; omega, fun z => by have z : 25 ≤ 22 := z; omega, fun z => by have z : 25 = 23 := z; omega, Or.inl (by show 25 ≤ 25; omega), by show 25 ≠ 21; omega⟩
/-- the reader is sound, at the TOKEN behind place p -/
def PsC (I : MI) (B : Nat → Nat) (n p : Nat) : Prop := TxC I B n ∧ TkC I (tkn B n p) ∧ p ≤ n ∧ I 192 0 2 = 0 ∧ I 192 0 3 = -1
def FtC (I : MI) (k pl : Nat) : Prop := I 192 0 2 = nI k ∧ 1 ≤ k ∧ k ≤ 4 ∧ I 192 0 3 = nI pl
def fkN (k w : Nat) : Nat := if k = 25 then 1 else w
def frR (I I' : MI) : Prop := (∀ r a, ¬ (r = 64 ∧ a = 0) → ¬ (r = 192 ∧ a = 0) → I' r a = I r a) ∧ (∀ j, j < 3 → I' 64 0 j = I 64 0 j) ∧ ∀ j, j ≠ 2 → j ≠ 3 → I' 192 0 j = I 192 0 j
theorem frR.rf {I : MI} : frR I I := ⟨fun _ _ _ _ => rfl, fun _ _ => rfl, fun _ _ _ => rfl⟩
theorem frR.tr {I I' I'' : MI} (h : frR I I') (h' : frR I' I'') : frR I I'' := ⟨fun r a x y => (h'.1 r a x y).trans (h.1 r a x y), fun j x => (h'.2.1 j x).trans (h.2.1 j x), fun j x y => (h'.2.2 j x y).trans (h.2.2 j x y)⟩
theorem frT_R {I I' : MI} (h : frT I I') : frR I I' := ⟨fun r a x _ => h.1 r a x, h.2, fun j _ _ => by rw [h.1 192 0 (by omega)]⟩
section TakeC
variable {d : Nat} {I : MI} {L : ML} {B : Nat → Nat} {n p : Nat}
theorem c_Tok_step {K : MI → ML → Prop} (hd : 6 ≤ d) (hP : PsC I B n p) (hk : (tkn B n p).1 ≠ 25) (h : ∀ I', PsC I' B n (tkn B n p).2.2.1 → frT I I' → K I' L) : CV d m_Tok_step [vR 64 0] I L K := by
  obtain ⟨hT, hC, hp, h0⟩ := hP
  have hf := tk_f (B := B) hp
  refine toCV (n := 5) hd (x_Tok_step (by omega) hT (hC.2.2.1 hk) hf.2.2.1 (fun I' h1 h2 => ⟨rfl, h I' ⟨TxC_fr hT h2, h1, hf.2.2.1, by rw [h2.1 192 0 (by omega)]; exact h0⟩ h2⟩))
theorem c_Tok_isWord {j : Nat} {K : Int32 → MI → ML → Prop} (hd : 5 ≤ d) (hT : TxC I B n) (hC : TkC I (tkn B n p)) (hp : p ≤ n) (hj : j < 21) (h1 : (tkn B n p).1 = j → K 1 I L) (h0 : (tkn B n p).1 ≠ j → K 0 I L) : CI d m_Tok_isWord [vR 64 0, vR 4000 (kwC j)] I L K := by
  have hn := hT.2.1
  have hf := tk_f (B := B) hp
  have hkw := kw_lt hj
  have hsl := s_len (j := kwC j) (by omega)
  generalize tkn B n p = T at *
  obtain ⟨k, s, e, v⟩ := T
  obtain ⟨c1, c2, c3, c4, c5⟩ := hC
  obtain ⟨f1, f2, f3, f4, f5, f6, f7, f8, f9, f10⟩ := hf
  simp only at *
  refine toCI (n := 4) hd (r_Tok_isWord_0 ?_)
  rw [c2]
  by_cases hk : k ≤ 22
  · have ec : kcO k = 2 := by unfold kcO; rw [if_pos hk]
    have e3 := c3 (by omega)
    rw [ec, e3, c1, nI_sub f4]
    have hky := f7 hk
    have hiff := ky_iff (B := B) (s := s) (e := e) hj
    rw [← hky] at hiff
    have hm : mtB B s e j = true ↔ (e - s = sLo (kwC j) ∧ ∀ i, i < sLo (kwC j) → nI (B (s + i)) = sBy (kwC j) i) := by
      unfold mtB
      rw [Bool.and_eq_true, decide_eq_true_eq, List.all_eq_true]
      exact ⟨fun z => ⟨z.1, fun i hi => of_decide_eq_true (z.2 i (List.mem_range.mpr hi))⟩, fun z => ⟨z.1, fun i hi => decide_eq_true (z.2 i (List.mem_range.mp hi))⟩⟩
    refine ⟨fun q => absurd rfl q, fun _ => c_Str_length (by omega) (by omega) ⟨fun q => ?_, fun q => ⟨_, rfl, h0 (fun z => q ?_)⟩⟩⟩
    · have hl := (nI_eq (by omega) (by omega)).mp q
      have key : ∀ (f i : Nat), i + f = sLo (kwC j) → (∀ i', i' < i → nI (B (s + i')) = sBy (kwC j) i') → XX (4 + 1) m_Tok_isWord (fun r I' L' => ∃ x, r = some (vI x) ∧ K x I' L') 28 [vR 64 0, vR 4000 (kwC j), vI (nI i)] [] I L := by
        intro f
        induction f with
        | zero =>
          intro i hi hall
          refine r_Tok_isWord_28 (c_Str_length (by omega) (by omega) ⟨fun _ => ⟨_, rfl, h1 (hiff.mpr (hm.mpr ⟨hl, fun i' hi' => hall i' (by omega)⟩))⟩, fun q => absurd (nI_le (show sLo (kwC j) ≤ i by omega) (by omega)) q⟩)
        | succ f ih =>
          intro i hi hall
          refine r_Tok_isWord_28 (c_Str_length (by omega) (by omega) ⟨fun q => absurd q (nI_ge (show i < sLo (kwC j) by omega) (by omega)), fun _ => ?_⟩)
          rw [c1, nI_add, nI_1]
          refine c_Tok_at (by omega) hT (by omega) (fun _ => c_Str_charAt (by omega) (by omega) (by omega) ⟨fun q => ih (i + 1) (by omega) (fun i' hi' => ?_), fun q => ⟨_, rfl, h0 (fun z => q ((hm.mp (hiff.mp z)).2 i (by omega)))⟩⟩) (fun y => absurd (show s + i < n by omega) y)
          by_cases y : i' = i
          · rw [y]; exact q
          · exact hall i' (by omega)
      exact key (sLo (kwC j)) 0 (by omega) (fun i hi => by omega)
    · rw [(hm.mp (hiff.mp z)).1]
  · have ec : ¬ kcO k = 2 := by
      unfold kcO
      rw [if_neg hk]
      by_cases a : k = 23
      · rw [if_pos a]; decide
      · rw [if_neg a]
        by_cases b : k = 24
        · rw [if_pos b]; decide
        · rw [if_neg b]
          by_cases c : k = 25
          · rw [if_pos c]; decide
          · rw [if_neg c]; decide
    exact ⟨fun _ => ⟨_, rfl, h0 (by omega)⟩, fun q => absurd ec q⟩
theorem kc_4 {k : Nat} (h : k ≤ 25 ∨ (30 ≤ k ∧ k ≤ 41)) : (kcO k = 4 ↔ 30 ≤ k) ∧ (kcO k = 3 ↔ k = 23) ∧ (kcO k = 1 ↔ k = 25) ∧ (kcO k = 0 ↔ k = 24) := by
  unfold kcO
  by_cases a : k ≤ 22
  · rw [if_pos a]
    exact ⟨⟨fun z => absurd z (by decide), fun z => by omega⟩, ⟨fun z => absurd z (by decide), fun z => by omega⟩, ⟨fun z => absurd z (by decide), fun z => by omega⟩, ⟨fun z => absurd z (by decide), fun z => by omega⟩⟩
  · rw [if_neg a]
    by_cases b : k = 23
    · rw [if_pos b]
      exact ⟨⟨fun z => absurd z (by decide), fun z => by omega⟩, ⟨fun _ => b, fun _ => rfl⟩, ⟨fun z => absurd z (by decide), fun z => by omega⟩, ⟨fun z => absurd z (by decide), fun z => by omega⟩⟩
    · rw [if_neg b]
      by_cases c : k = 24
      · rw [if_pos c]
        exact ⟨⟨fun z => absurd z (by decide), fun z => by omega⟩, ⟨fun z => absurd z (by decide), fun z => by omega⟩, ⟨fun z => absurd z (by decide), fun z => by omega⟩, ⟨fun _ => c, fun _ => rfl⟩⟩
      · rw [if_neg c]
        by_cases e : k = 25
        · rw [if_pos e]
          exact ⟨⟨fun z => absurd z (by decide), fun z => by omega⟩, ⟨fun z => absurd z (by decide), fun z => by omega⟩, ⟨fun _ => e, fun _ => rfl⟩, ⟨fun z => absurd z (by decide), fun z => by omega⟩⟩
        · rw [if_neg e]
          exact ⟨⟨fun _ => by omega, fun _ => rfl⟩, ⟨fun z => absurd z (by decide), fun z => by omega⟩, ⟨fun z => absurd z (by decide), fun z => by omega⟩, ⟨fun z => absurd z (by decide), fun z => by omega⟩⟩
theorem sg_tab : ((List.range 12).all fun i => (List.range 12).all fun j => decide ((sBy 0 i = sBy 0 j) ↔ i = j)) = true := by decide +kernel
theorem c_Tok_isSign {j : Nat} {x : Int32} {K : Int32 → MI → ML → Prop} (hd : 1 ≤ d) (hC : TkC I (tkn B n p)) (hp : p ≤ n) (hj : j < 12) (hx : x = sBy 0 j) (h1 : (tkn B n p).1 = 30 + j → K 1 I L) (h0 : (tkn B n p).1 ≠ 30 + j → K 0 I L) : CI d m_Tok_isSign [vR 64 0, vI x] I L K := by
  have hf := tk_f (B := B) hp
  generalize tkn B n p = T at *
  obtain ⟨k, s, e, v⟩ := T
  obtain ⟨c1, c2, c3, c4, c5⟩ := hC
  obtain ⟨f1, f2, f3, f4, f5, f6, f7, f8, f9, f10⟩ := hf
  simp only at *
  have kc := kc_4 f9
  refine toCI (n := 0) hd (r_Tok_isSign_0 ?_)
  rw [c2, hx]
  refine ⟨fun q => ⟨_, rfl, h0 (fun z => q (kc.1.mpr (by omega)))⟩, fun q => ?_⟩
  have hk := kc.1.mp (Classical.not_not.mp q)
  rw [c5 hk]
  have tb := of_decide_eq_true (List.all_eq_true.mp (List.all_eq_true.mp sg_tab (k - 30) (List.mem_range.mpr (by omega))) j (List.mem_range.mpr hj))
  refine ⟨fun q => ⟨_, rfl, h0 (fun z => q (tb.mpr (by omega)))⟩, fun q => ⟨_, rfl, h1 ?_⟩⟩
  have := tb.mp (Classical.not_not.mp q)
  omega
theorem c_Tok_isNumber {K : Int32 → MI → ML → Prop} (hd : 1 ≤ d) (hC : TkC I (tkn B n p)) (hp : p ≤ n) (h1 : (tkn B n p).1 = 23 → K 1 I L) (h0 : (tkn B n p).1 ≠ 23 → K 0 I L) : CI d m_Tok_isNumber [vR 64 0] I L K := by
  have kc := kc_4 (tk_f (B := B) hp).2.2.2.2.2.2.2.2.1
  refine toCI (n := 0) hd (r_Tok_isNumber_0 ?_)
  rw [hC.2.1]
  exact ⟨fun q => ⟨_, rfl, h0 (fun z => q (kc.2.1.mpr z))⟩, fun q => ⟨_, rfl, h1 (kc.2.1.mp (Classical.not_not.mp q))⟩⟩
theorem c_Tok_isBad {K : Int32 → MI → ML → Prop} (hd : 1 ≤ d) (hC : TkC I (tkn B n p)) (hp : p ≤ n) (h1 : (tkn B n p).1 = 25 → K 1 I L) (h0 : (tkn B n p).1 ≠ 25 → K 0 I L) : CI d m_Tok_isBad [vR 64 0] I L K := by
  have kc := kc_4 (tk_f (B := B) hp).2.2.2.2.2.2.2.2.1
  refine toCI (n := 0) hd (r_Tok_isBad_0 ?_)
  rw [hC.2.1]
  exact ⟨fun q => ⟨_, rfl, h0 (fun z => q (kc.2.2.1.mpr z))⟩, fun q => ⟨_, rfl, h1 (kc.2.2.1.mp (Classical.not_not.mp q))⟩⟩
theorem c_Tok_isEnd {K : Int32 → MI → ML → Prop} (hd : 1 ≤ d) (hC : TkC I (tkn B n p)) (hp : p ≤ n) (h1 : (tkn B n p).1 = 24 → K 1 I L) (h0 : (tkn B n p).1 ≠ 24 → K 0 I L) : CI d m_Tok_isEnd [vR 64 0] I L K := by
  have kc := kc_4 (tk_f (B := B) hp).2.2.2.2.2.2.2.2.1
  refine toCI (n := 0) hd (r_Tok_isEnd_0 ?_)
  rw [hC.2.1]
  exact ⟨fun q => ⟨_, rfl, h0 (fun z => q (kc.2.2.2.mpr z))⟩, fun q => ⟨_, rfl, h1 (kc.2.2.2.mp (Classical.not_not.mp q))⟩⟩
theorem c_Rd_isSound {K : Int32 → MI → ML → Prop} (hd : 1 ≤ d) (h1 : I 192 0 2 = 0 → K 1 I L) (h0 : I 192 0 2 ≠ 0 → K 0 I L) : CI d m_Rd_isSound [vR 192 0] I L K := toCI (n := 0) hd (r_Rd_isSound_0 ⟨fun q => ⟨_, rfl, h0 q⟩, fun q => ⟨_, rfl, h1 (Classical.not_not.mp q)⟩⟩)
theorem Ft_ne {k pl : Nat} (h : FtC I k pl) : I 192 0 2 ≠ 0 := by
  rw [h.1]
  exact nI_ne0 (by have := h.2.1; omega) (by have := h.2.2.1; omega)
/-- the first fault -/
theorem c_Rd_refuse {w : Nat} {K : MI → ML → Prop} (hd : 2 ≤ d) (hP : PsC I B n p) (hw1 : 1 ≤ w) (hw : w ≤ 4) (h : ∀ I', FtC I' (fkN (tkn B n p).1 w) (tkn B n p).2.1 → frR I I' → K I' L) : CV d m_Rd_refuse [vR 192 0, vI (nI w)] I L K := by
  obtain ⟨hT, hC, hp, h0⟩ := hP
  have fr : ∀ x y, frR I (ui (ui I 192 0 2 x) 192 0 3 y) := fun x y => ⟨fun r a _ z => by rw [ui_off z, ui_off z], fun j _ => by rw [ui_r (by decide), ui_r (by decide)], fun j a b => by rw [ui_k b, ui_k a]⟩
  unfold fkN at h
  refine toCV (n := 1) hd (r_Rd_refuse_0 (c_Rd_isSound (by omega) (fun _ => ⟨fun q => absurd q (by decide), fun _ => c_Tok_isBad (by omega) hC hp (fun e => ⟨fun q => absurd q (by decide), fun _ => toCI (n := 0) (by omega) (r_Tok_startPlace_0 ⟨_, rfl, rfl, ?_⟩)⟩) (fun e => ⟨fun _ => toCI (n := 0) (by omega) (r_Tok_startPlace_0 ⟨_, rfl, rfl, ?_⟩), fun q => absurd rfl q⟩)⟩) (fun z => absurd h0.1 z)))
  · rw [if_pos e] at h
    refine h _ ⟨by rw [ui_k (by decide), ui_s]; rfl, by omega, by omega, ?_⟩ (fr _ _)
    rw [ui_s, ui_r (by decide)]; exact hC.1
  · rw [if_neg e] at h
    refine h _ ⟨by rw [ui_k (by decide), ui_s], hw1, hw, ?_⟩ (fr _ _)
    rw [ui_s, ui_r (by decide)]; exact hC.1
theorem c_Rd_refuseF {k pl : Nat} {w : Int32} {K : MI → ML → Prop} (hd : 2 ≤ d) (hF : FtC I k pl) (h : K I L) : CV d m_Rd_refuse [vR 192 0, vI w] I L K := toCV (n := 1) hd (r_Rd_refuse_0 (c_Rd_isSound (by omega) (fun z => absurd z (Ft_ne hF)) (fun _ => ⟨fun _ => ⟨rfl, h⟩, fun q => absurd rfl q⟩)))
theorem c_Rd_takeWord {j : Nat} {K : MI → ML → Prop} (hd : 7 ≤ d) (hP : PsC I B n p) (hj : j < 21) (h1 : (tkn B n p).1 = j → ∀ I', PsC I' B n (tkn B n p).2.2.1 → frR I I' → K I' L) (h0 : (tkn B n p).1 ≠ j → ∀ I', FtC I' (fkN (tkn B n p).1 2) (tkn B n p).2.1 → frR I I' → K I' L) : CV d m_Rd_takeWord [vR 192 0, vR 4000 (kwC j)] I L K := by
  refine toCV (n := 6) hd (r_Rd_takeWord_0 (c_Rd_isSound (by omega) (fun _ => ⟨fun q => absurd q (by decide), fun _ => c_Tok_isWord (by omega) hP.1 hP.2.1 hP.2.2.1 hj (fun e => ⟨fun q => absurd q (by decide), fun _ => c_Tok_step (by omega) hP (by omega) (fun I' h' hF => ⟨rfl, h1 e I' h' (frT_R hF)⟩)⟩) (fun e => ⟨fun _ => c_Rd_refuse (w := 2) (by omega) hP (by omega) (by omega) (fun I' h' hF => ⟨rfl, h0 e I' h' hF⟩), fun q => absurd rfl q⟩)⟩) (fun z => absurd hP.2.2.2.1 z)))
theorem c_Rd_takeWordF {a k pl : Nat} {K : MI → ML → Prop} (hd : 3 ≤ d) (hF : FtC I k pl) (h : K I L) : CV d m_Rd_takeWord [vR 192 0, vR 4000 a] I L K := toCV (n := 2) hd (r_Rd_takeWord_0 (c_Rd_isSound (by omega) (fun z => absurd z (Ft_ne hF)) (fun _ => ⟨fun _ => c_Rd_refuseF (by omega) hF ⟨rfl, h⟩, fun q => absurd rfl q⟩)))
theorem c_Rd_takeSign {j : Nat} {x : Int32} {K : MI → ML → Prop} (hd : 7 ≤ d) (hP : PsC I B n p) (hj : j < 12) (hx : x = sBy 0 j) (h1 : (tkn B n p).1 = 30 + j → ∀ I', PsC I' B n (tkn B n p).2.2.1 → frR I I' → K I' L) (h0 : (tkn B n p).1 ≠ 30 + j → ∀ I', FtC I' (fkN (tkn B n p).1 2) (tkn B n p).2.1 → frR I I' → K I' L) : CV d m_Rd_takeSign [vR 192 0, vI x] I L K := by
  refine toCV (n := 6) hd (r_Rd_takeSign_0 (c_Rd_isSound (by omega) (fun _ => ⟨fun q => absurd q (by decide), fun _ => c_Tok_isSign (by omega) hP.2.1 hP.2.2.1 hj hx (fun e => ⟨fun q => absurd q (by decide), fun _ => c_Tok_step (by omega) hP (by omega) (fun I' h' hF => ⟨rfl, h1 e I' h' (frT_R hF)⟩)⟩) (fun e => ⟨fun _ => c_Rd_refuse (w := 2) (by omega) hP (by omega) (by omega) (fun I' h' hF => ⟨rfl, h0 e I' h' hF⟩), fun q => absurd rfl q⟩)⟩) (fun z => absurd hP.2.2.2.1 z)))
theorem c_Rd_takeSignF {k pl : Nat} {x : Int32} {K : MI → ML → Prop} (hd : 3 ≤ d) (hF : FtC I k pl) (h : K I L) : CV d m_Rd_takeSign [vR 192 0, vI x] I L K := toCV (n := 2) hd (r_Rd_takeSign_0 (c_Rd_isSound (by omega) (fun z => absurd z (Ft_ne hF)) (fun _ => ⟨fun _ => c_Rd_refuseF (by omega) hF ⟨rfl, h⟩, fun q => absurd rfl q⟩)))
/-- a number from a to b (b below 1000, or -1: none fits) -/
theorem c_Rd_takeNumber {a : Nat} {b : Int32} {K : Int32 → MI → ML → Prop} (hd : 7 ≤ d) (hP : PsC I B n p) (ha : a ≤ 999) (h1 : (tkn B n p).1 = 23 → a ≤ (tkn B n p).2.2.2 → nI (tkn B n p).2.2.2 ≤ b → ∀ I', PsC I' B n (tkn B n p).2.2.1 → frR I I' → K (nI (tkn B n p).2.2.2) I' L) (h3 : (tkn B n p).1 = 23 → ¬ (a ≤ (tkn B n p).2.2.2 ∧ nI (tkn B n p).2.2.2 ≤ b) → ∀ x I', FtC I' 3 (tkn B n p).2.1 → frR I I' → K x I' L) (h2 : (tkn B n p).1 ≠ 23 → ∀ x I', FtC I' (fkN (tkn B n p).1 2) (tkn B n p).2.1 → frR I I' → K x I' L) : CI d m_Rd_takeNumber [vR 192 0, vI (nI a), vI b] I L K := by
  have hv := (tk_f (B := B) hP.2.2.1).2.2.2.2.2.2.2.1
  have f3 : ∀ k, k = 23 → fkN k 3 = 3 := fun k hk => by unfold fkN; rw [if_neg (by omega)]
  refine toCI (n := 6) hd (r_Rd_takeNumber_0 (c_Rd_isSound (by omega) (fun _ => ⟨fun q => absurd q (by decide), fun _ => c_Tok_isNumber (by omega) hP.2.1 hP.2.2.1 (fun e => ⟨fun _ => toCI (n := 5) (by omega) (r_Tok_numberValue_0 ⟨_, rfl, ?_⟩), fun q => absurd (by decide) q⟩) (fun e => ⟨fun q => absurd rfl q, fun _ => c_Rd_refuse (w := 2) (by omega) hP (by omega) (by omega) (fun I' h' hF => ⟨_, rfl, h2 e _ I' h' hF⟩)⟩)⟩) (fun z => absurd hP.2.2.2.1 z)))
  have hv := hv e
  rw [hP.2.1.2.2.2.1 e]
  refine ⟨fun q => c_Rd_refuse (w := 3) (by omega) hP (by omega) (by omega) (fun I' h' hF => ⟨_, rfl, h3 e (fun z => ?_) _ I' (by rw [f3 _ e] at h'; exact h') hF⟩), fun q => ⟨fun q2 => c_Tok_step (by omega) hP (by omega) (fun I' h' hF => ⟨_, rfl, h1 e ?_ q2 I' h' (frT_R hF)⟩), fun q2 => c_Rd_refuse (w := 3) (by omega) hP (by omega) (by omega) (fun I' h' hF => ⟨_, rfl, h3 e (fun z => q2 z.2) _ I' (by rw [f3 _ e] at h'; exact h') hF⟩)⟩⟩
  · exact absurd q (nI_nlt (b := a) z.1 (by omega))
  · rcases Nat.lt_or_ge (tkn B n p).2.2.2 a with z | z
    · exact absurd (nI_lt z (by omega)) q
    · exact z
theorem c_Rd_takeNumberF {k pl : Nat} {a b : Int32} {K : Int32 → MI → ML → Prop} (hd : 3 ≤ d) (hF : FtC I k pl) (h : K a I L) : CI d m_Rd_takeNumber [vR 192 0, vI a, vI b] I L K := toCI (n := 2) hd (r_Rd_takeNumber_0 (c_Rd_isSound (by omega) (fun z => absurd z (Ft_ne hF)) (fun _ => ⟨fun _ => c_Rd_refuseF (by omega) hF ⟨_, rfl, h⟩, fun q => absurd rfl q⟩)))
end TakeC
