/-! draws of lots, fractions in lowest terms -/
theorem cmp_0 {a : Nat} (ha : a < 2 ^ 63) : lg_cmp (lN a) (0 : Int64) = 0 ↔ a = 0 := by
  have o0 : (0 : Int64).toInt = 0 := rfl
  constructor
  · intro e
    have h1 : ¬ 0 < lg_cmp (lN a) (0 : Int64) := by rw [e]; decide
    rw [cmp_gt, o0, pk_lT ha] at h1
    omega
  · intro e
    subst e
    decide
theorem cmp_0p {a : Nat} (ha : a < 2 ^ 63) : lg_cmp (lN a) (0 : Int64) ≤ 0 ↔ a = 0 := by
  have o0 : (0 : Int64).toInt = 0 := rfl
  rw [cmp_le, o0, pk_lT ha]
  omega
theorem gc_half {a b : Nat} (hb : 0 < b) (hr : 0 < a % b) : 2 * (b % (a % b)) < b := by
  have h1 := Nat.mod_lt a hb
  have h2 := Nat.mod_lt b hr
  have h3 : b % (a % b) ≤ b - a % b := by rw [Nat.mod_eq_sub_mod (by omega)]; exact Nat.mod_le _ _
  omega
theorem gcd_st (a b : Nat) : Nat.gcd b (a % b) = Nat.gcd a b := by rw [Nat.gcd_comm a b, Nat.gcd_rec b a, Nat.gcd_comm]
def lwO (w : Int32) (a b : Nat) : Int64 := (if w = 0 then lN a else lN b) / lN (Nat.gcd a b)
section LotsA
variable {d : Nat} {I : MI} {L : ML}
theorem c_W_lotsOf {k : Nat} {K : Int64 → MI → ML → Prop} (hd : 1 ≤ d) (hk : k ≤ 4) (h : K (lN (10 ^ k)) I L) : CJ d m_W_lotsOf [vI (nI k)] I L K := by
  refine toCJ (n := 0) hd (r_W_lotsOf_0 ?_)
  have key : ∀ (n j : Nat), j + n = k → XX (0 + 1) m_W_lotsOf (fun r I' L' => ∃ x, r = some (vL x) ∧ K x I' L') 4 [vI (nI k), vL (lN (10 ^ j)), vD, vI (nI j)] [] I L := by
    intro n
    induction n with
    | zero =>
      intro j hj
      exact r_W_lotsOf_4 ⟨fun _ => ⟨_, rfl, by rw [show j = k by omega]; exact h⟩, fun q => absurd (nI_le (show k ≤ j by omega) (by omega)) q⟩
    | succ n ih =>
      intro j hj
      refine r_W_lotsOf_4 ⟨fun q => absurd q (nI_ge (show j < k by omega) (by omega)), fun _ => ?_⟩
      have := ih (j + 1) (by omega)
      rw [Nat.pow_succ, ← lN_mul] at this
      rw [nI_1]
      exact this
  exact key k 0 (by omega)
theorem c_M_wholeOf {k : Nat} {K : Int64 → MI → ML → Prop} (hd : 1 ≤ d) (hk : k ≤ 4) (h : K (lN (10 ^ k)) I L) : CJ d m_M_wholeOf [vI (nI k)] I L K := by
  refine toCJ (n := 0) hd (r_M_wholeOf_0 ?_)
  have key : ∀ (n j : Nat), j + n = k → XX (0 + 1) m_M_wholeOf (fun r I' L' => ∃ x, r = some (vL x) ∧ K x I' L') 4 [vI (nI k), vL (lN (10 ^ j)), vD, vI (nI j)] [] I L := by
    intro n
    induction n with
    | zero =>
      intro j hj
      exact r_M_wholeOf_4 ⟨fun _ => ⟨_, rfl, by rw [show j = k by omega]; exact h⟩, fun q => absurd (nI_le (show k ≤ j by omega) (by omega)) q⟩
    | succ n ih =>
      intro j hj
      refine r_M_wholeOf_4 ⟨fun q => absurd q (nI_ge (show j < k by omega) (by omega)), fun _ => ?_⟩
      have := ih (j + 1) (by omega)
      rw [Nat.pow_succ, ← lN_mul] at this
      rw [nI_1]
      exact this
  exact key k 0 (by omega)
theorem c_W_lowest {a b : Nat} {w : Int32} {K : Int64 → MI → ML → Prop} (hd : 1 ≤ d) (hb : 0 < b) (hb4 : b < 2 ^ 40) (ha : a < 2 ^ 62) (h : K (lwO w a b) I L) : CJ d m_W_lowest [vL (lN a), vL (lN b), vI w] I L K := by
  have gp : 0 < Nat.gcd a b := Nat.gcd_pos_of_pos_right a hb
  have gl : Nat.gcd a b ≤ b := Nat.le_of_dvd hb (Nat.gcd_dvd_right a b)
  have g0 : ¬ lg_cmp (lN (Nat.gcd a b)) (0 : Int64) ≤ 0 := fun z => by rw [cmp_0p (by omega)] at z; omega
  have gz : ¬ lN (Nat.gcd a b) = 0 := fun z => by
    have := (pk_lEQ (a := Nat.gcd a b) (b := 0) (by omega) (by omega)).mp z
    omega
  refine toCJ (n := 0) hd (r_W_lowest_0 ?_)
  unfold lwO at h
  have fin : (¬ w = 0 → (((lg_cmp (lN (Nat.gcd a b)) (0 : Int64)) ≤ 0 → (∃ x, some (vL (lN b)) = some (vL x) ∧ K x I L)) ∧ (¬ ((lg_cmp (lN (Nat.gcd a b)) (0 : Int64)) ≤ 0) → ((¬ lN (Nat.gcd a b) = 0) ∧ (∃ x, some (vL (lN b / lN (Nat.gcd a b))) = some (vL x) ∧ K x I L))))) ∧ (¬ (¬ w = 0) → (((lg_cmp (lN (Nat.gcd a b)) (0 : Int64)) ≤ 0 → (∃ x, some (vL (lN a)) = some (vL x) ∧ K x I L)) ∧ (¬ ((lg_cmp (lN (Nat.gcd a b)) (0 : Int64)) ≤ 0) → ((¬ lN (Nat.gcd a b) = 0) ∧ (∃ x, some (vL (lN a / lN (Nat.gcd a b))) = some (vL x) ∧ K x I L))))) := by
    refine ⟨fun q => ⟨fun z => absurd z g0, fun _ => ⟨gz, _, rfl, ?_⟩⟩, fun q => ⟨fun z => absurd z g0, fun _ => ⟨gz, _, rfl, ?_⟩⟩⟩
    · rw [if_neg q] at h; exact h
    · rw [if_pos (Classical.not_not.mp q)] at h; exact h
  have stop : ∀ (x i : Nat), Nat.gcd x 0 = Nat.gcd a b → i ≤ 99 → XX (0 + 1) m_W_lowest (fun r I' L' => ∃ x, r = some (vL x) ∧ K x I' L') 9 [vL (lN a), vD, vL (lN b), vD, vI w, vL (lN x), vD, vL (lN 0), vD, vI (nI i), vD, vD] [] I L := by
    intro x i hg hi
    rw [Nat.gcd_zero_right] at hg
    subst hg
    exact r_W_lowest_9 ⟨fun q => absurd q (nle_c (m := 100) (by omega) (by omega)), fun _ => ⟨fun _ => fin, fun q => absurd ((cmp_0 (by omega)).mpr rfl) q⟩⟩
  have step : ∀ (x y i : Nat), 0 < y → x < 2 ^ 63 → y < 2 ^ 63 → i ≤ 99 → XX (0 + 1) m_W_lowest (fun r I' L' => ∃ x, r = some (vL x) ∧ K x I' L') 9 [vL (lN a), vD, vL (lN b), vD, vI w, vL (lN y), vD, vL (lN (x % y)), vD, vI (nI (i + 1)), vD, vD] [] I L → XX (0 + 1) m_W_lowest (fun r I' L' => ∃ x, r = some (vL x) ∧ K x I' L') 9 [vL (lN a), vD, vL (lN b), vD, vI w, vL (lN x), vD, vL (lN y), vD, vI (nI i), vD, vD] [] I L := by
    intro x y i hy hx hy3 hi hh
    refine r_W_lowest_9 ⟨fun q => absurd q (nle_c (m := 100) (by omega) (by omega)), fun _ => ⟨fun q => absurd ((cmp_0 hy3).mp q) (by omega), fun _ => ⟨fun z => ?_, ?_⟩⟩⟩
    · have := (pk_lEQ (a := y) (b := 0) hy3 (by omega)).mp z
      omega
    · rw [pk_lRem hx hy hy3, nI_1]
      exact hh
  have key : ∀ (f x y i : Nat), y < 2 ^ f → x < 2 ^ 63 → y < 2 ^ 63 → Nat.gcd x y = Nat.gcd a b → i + 2 * f ≤ 99 → XX (0 + 1) m_W_lowest (fun r I' L' => ∃ x, r = some (vL x) ∧ K x I' L') 9 [vL (lN a), vD, vL (lN b), vD, vI w, vL (lN x), vD, vL (lN y), vD, vI (nI i), vD, vD] [] I L := by
    intro f
    induction f with
    | zero =>
      intro x y i hy hx hy3 hg hi
      have : y = 0 := by have : (2 : Nat) ^ 0 = 1 := rfl; omega
      subst this
      exact stop x i hg (by omega)
    | succ f ih =>
      intro x y i hy hx hy3 hg hi
      rcases Nat.eq_zero_or_pos y with z | z
      · subst z; exact stop x i hg (by omega)
      · refine step x y i z hx hy3 (by omega) ?_
        have h1 := Nat.mod_lt x z
        rcases Nat.eq_zero_or_pos (x % y) with z2 | z2
        · rw [← gcd_st x y, z2] at hg
          rw [z2]
          exact stop y (i + 1) hg (by omega)
        · have hh := gc_half z z2
          refine step y (x % y) (i + 1) z2 hy3 (by omega) (by omega) (ih _ _ (i + 1 + 1) ?_ (by omega) ?_ ?_ (by omega))
          · rw [Nat.pow_succ] at hy; omega
          · have := Nat.mod_lt y z2; omega
          · rw [gcd_st, gcd_st, hg]
  exact key 40 a b 0 hb4 (by omega) (by omega) rfl (by omega)
theorem c_M_commonOf : ∀ (f : Nat) {d x y : Nat} {K : Int64 → MI → ML → Prop}, 2 * f + 1 ≤ d → y < 2 ^ f → x < 2 ^ 63 → y < 2 ^ 63 → K (lN (Nat.gcd x y)) I L → CJ d m_M_commonOf [vL (lN x), vL (lN y)] I L K := by
  have stop : ∀ {d x : Nat} {K : Int64 → MI → ML → Prop}, 1 ≤ d → K (lN (Nat.gcd x 0)) I L → CJ d m_M_commonOf [vL (lN x), vL (lN 0)] I L K := by
    intro d x K hd h
    rw [Nat.gcd_zero_right] at h
    exact toCJ (n := 0) hd (r_M_commonOf_0 ⟨fun q => absurd ((cmp_0 (by omega)).mpr rfl) q, fun _ => ⟨_, rfl, h⟩⟩)
  have step : ∀ {n d x y : Nat} {K : Int64 → MI → ML → Prop}, n + 1 ≤ d → 0 < y → x < 2 ^ 63 → y < 2 ^ 63 → CJ n m_M_commonOf [vL (lN y), vL (lN (x % y))] I L (fun x3 I1 L2 => ∃ x, some (vL x3) = some (vL x) ∧ K x I1 L2) → CJ d m_M_commonOf [vL (lN x), vL (lN y)] I L K := by
    intro n d x y K hd hy hx hy3 h
    refine toCJ (n := n) hd (r_M_commonOf_0 ⟨fun _ => ⟨fun z => ?_, ?_⟩, fun q => absurd ((cmp_0 hy3).mp (Classical.not_not.mp q)) (by omega)⟩)
    · have := (pk_lEQ (a := y) (b := 0) hy3 (by omega)).mp z
      omega
    · rw [pk_lRem hx hy hy3]
      exact h
  intro f
  induction f with
  | zero =>
    intro d x y K hd hy hx hy3 h
    have : y = 0 := by have : (2 : Nat) ^ 0 = 1 := rfl; omega
    subst this
    exact stop (by omega) h
  | succ f ih =>
    intro d x y K hd hy hx hy3 h
    rcases Nat.eq_zero_or_pos y with z | z
    · subst z; exact stop (by omega) h
    · refine step (n := d - 1) (by omega) z hx hy3 ?_
      have h1 := Nat.mod_lt x z
      rw [← gcd_st x y] at h
      rcases Nat.eq_zero_or_pos (x % y) with z2 | z2
      · rw [z2] at h ⊢
        exact stop (by omega) ⟨_, rfl, h⟩
      · have hh := gc_half z z2
        rw [← gcd_st y] at h
        refine step (n := d - 2) (by omega) z2 hy3 (by omega) (ih (by omega) ?_ (by omega) ?_ ⟨_, rfl, _, rfl, h⟩)
        · rw [Nat.pow_succ] at hy; omega
        · have := Nat.mod_lt y z2; omega
theorem c_M_part {a b : Nat} {w : Int32} {K : Int64 → MI → ML → Prop} (hd : 82 ≤ d) (hb : 0 < b) (hb4 : b < 2 ^ 40) (ha : a < 2 ^ 62) (h : K (lwO w a b) I L) : CJ d m_M_part [vL (lN a), vL (lN b), vI w] I L K := by
  have gp : 0 < Nat.gcd a b := Nat.gcd_pos_of_pos_right a hb
  have gl : Nat.gcd a b ≤ b := Nat.le_of_dvd hb (Nat.gcd_dvd_right a b)
  have gz : ¬ lN (Nat.gcd a b) = 0 := fun z => by
    have := (pk_lEQ (a := Nat.gcd a b) (b := 0) (by omega) (by omega)).mp z
    omega
  unfold lwO at h
  refine toCJ (n := 81) hd (r_M_part_0 ⟨fun q => c_M_commonOf 40 (by omega) hb4 (by omega) (by omega) ⟨gz, _, rfl, ?_⟩, fun q => c_M_commonOf 40 (by omega) hb4 (by omega) (by omega) ⟨gz, _, rfl, ?_⟩⟩)
  · rw [if_neg q] at h; exact h
  · rw [if_pos (Classical.not_not.mp q)] at h; exact h
end LotsA
