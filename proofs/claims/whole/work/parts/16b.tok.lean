/-! TOKENS; the program goes on to the next one -/
def tkW (B : Nat → Nat) (n : Nat) : Nat → Nat → Nat
  | 0, p => p
  | f + 1, p => if p < n ∧ (B p = 32 ∨ B p = 10) then tkW B n f (p + 1) else p
def tkL (B : Nat → Nat) (n : Nat) : Nat → Nat → Nat
  | 0, p => p
  | f + 1, p => if p < n ∧ 97 ≤ B p ∧ B p ≤ 122 then tkL B n f (p + 1) else p
def tkD (B : Nat → Nat) (n : Nat) : Nat → Nat → Nat
  | 0, p => p
  | f + 1, p => if p < n ∧ 48 ≤ B p ∧ B p ≤ 57 then tkD B n f (p + 1) else p
def nmB (B : Nat → Nat) (s : Nat) : Nat → Nat
  | 0 => 0
  | m + 1 => if m < 3 then nmB B s m * 10 + (B (s + m) - 48) else nmB B s m
/-- the words of the language in their order, as texts of the code -/
def kwC (j : Nat) : Nat := [1, 2, 3, 4, 5, 6, 7, 8, 9, 21, 10, 14, 15, 16, 17, 18, 20, 19, 12, 13, 11].getD j 0
def mtB (B : Nat → Nat) (s e j : Nat) : Bool := decide (e - s = sLo (kwC j)) && (List.range (sLo (kwC j))).all (fun i => decide (nI (B (s + i)) = sBy (kwC j) i))
def kyF (B : Nat → Nat) (s e : Nat) : Nat → Nat → Nat
  | 0, _ => 22
  | f + 1, j => if mtB B s e j = true then j else kyF B s e f (j + 1)
def sgF (b : Nat) : Nat → Nat → Nat
  | 0, _ => 12
  | f + 1, k => if sBy 0 k = nI b then k else sgF b f (k + 1)
/-- kind, beginning, end, number of the TOKEN that begins at s -/
def tknS (B : Nat → Nat) (n s : Nat) : Nat × Nat × Nat × Nat :=
  if n ≤ s then (24, s, s, 0)
  else if 97 ≤ B s ∧ B s ≤ 122 then (kyF B s (tkL B n (n - s) s) 21 0, s, tkL B n (n - s) s, 0)
  else if 48 ≤ B s ∧ B s ≤ 57 then (if 3 < tkD B n (n - s) s - s then 25 else 23, s, tkD B n (n - s) s, nmB B s (tkD B n (n - s) s - s))
  else if sgF (B s) 12 0 < 12 then (30 + sgF (B s) 12 0, s, s + 1, 0) else (25, s, s + 1, 0)
def tkn (B : Nat → Nat) (n p : Nat) : Nat × Nat × Nat × Nat := tknS B n (tkW B n (n - p) p)
theorem tkW_le {B : Nat → Nat} {n : Nat} : ∀ f p, p ≤ n → p ≤ tkW B n f p ∧ tkW B n f p ≤ n
  | 0, p, h => ⟨Nat.le_refl _, h⟩
  | f + 1, p, h => by
    simp only [tkW]
    by_cases e : p < n ∧ (B p = 32 ∨ B p = 10)
    · rw [if_pos e]; have := tkW_le (B := B) f (p + 1) e.1; omega
    · rw [if_neg e]; exact ⟨Nat.le_refl _, h⟩
theorem tkL_le {B : Nat → Nat} {n : Nat} : ∀ f p, p ≤ n → p ≤ tkL B n f p ∧ tkL B n f p ≤ n
  | 0, p, h => ⟨Nat.le_refl _, h⟩
  | f + 1, p, h => by
    simp only [tkL]
    by_cases e : p < n ∧ 97 ≤ B p ∧ B p ≤ 122
    · rw [if_pos e]; have := tkL_le (B := B) f (p + 1) e.1; omega
    · rw [if_neg e]; exact ⟨Nat.le_refl _, h⟩
theorem tkD_le {B : Nat → Nat} {n : Nat} : ∀ f p, p ≤ n → p ≤ tkD B n f p ∧ tkD B n f p ≤ n
  | 0, p, h => ⟨Nat.le_refl _, h⟩
  | f + 1, p, h => by
    simp only [tkD]
    by_cases e : p < n ∧ 48 ≤ B p ∧ B p ≤ 57
    · rw [if_pos e]; have := tkD_le (B := B) f (p + 1) e.1; omega
    · rw [if_neg e]; exact ⟨Nat.le_refl _, h⟩
theorem kyF_le {B : Nat → Nat} {s e : Nat} : ∀ f j, j + f ≤ 21 → kyF B s e f j ≤ 22 ∧ (kyF B s e f j < 21 → mtB B s e (kyF B s e f j) = true) ∧ (kyF B s e f j = 21 → False)
  | 0, j, _ => ⟨Nat.le_refl _, fun z => by simp [kyF] at z, fun z => by simp [kyF] at z⟩
  | f + 1, j, h => by
    simp only [kyF]
    by_cases q : mtB B s e j = true
    · rw [if_pos q]; exact ⟨by omega, fun _ => q, fun z => by omega⟩
    · rw [if_neg q]; exact kyF_le f (j + 1) (by omega)
theorem kyF_no {B : Nat → Nat} {s e i : Nat} (hi : mtB B s e i = true) : ∀ f j, j ≤ i → i < j + f → kyF B s e f j < 21 ∨ 21 ≤ i
  | 0, j, h1, h2 => by omega
  | f + 1, j, h1, h2 => by
    simp only [kyF]
    by_cases q : mtB B s e j = true
    · rw [if_pos q]; omega
    · rw [if_neg q]
      have : j ≠ i := fun z => q (z ▸ hi)
      exact kyF_no hi f (j + 1) (by omega) (by omega)
theorem kw_tab : ((List.range 21).all fun j => decide (kwC j < 22 ∧ 1 ≤ kwC j) && (List.range 21).all fun i => decide (i = j) || !(decide (sLo (kwC i) = sLo (kwC j)) && (List.range (sLo (kwC i))).all fun k => decide (sBy (kwC i) k = sBy (kwC j) k))) = true := by decide +kernel
theorem kw_lt {j : Nat} (hj : j < 21) : kwC j < 22 ∧ 1 ≤ kwC j := by
  have h := List.all_eq_true.mp kw_tab j (List.mem_range.mpr hj)
  simp only [Bool.and_eq_true, decide_eq_true_eq] at h
  exact h.1
theorem mt_1 {B : Nat → Nat} {s e i j : Nat} (hi : i < 21) (hj : j < 21) (h1 : mtB B s e i = true) (h2 : mtB B s e j = true) : i = j := by
  have h := List.all_eq_true.mp kw_tab j (List.mem_range.mpr hj)
  simp only [Bool.and_eq_true] at h
  have h := List.all_eq_true.mp h.2 i (List.mem_range.mpr hi)
  rw [Bool.or_eq_true, decide_eq_true_eq] at h
  rcases h with z | z
  · exact z
  · unfold mtB at h1 h2
    rw [Bool.and_eq_true, decide_eq_true_eq] at h1 h2
    have e1 : sLo (kwC i) = sLo (kwC j) := by rw [← h1.1, ← h2.1]
    have e2 : ((List.range (sLo (kwC i))).all fun k => decide (sBy (kwC i) k = sBy (kwC j) k)) = true := List.all_eq_true.mpr (fun k hk => by
      have a1 := of_decide_eq_true (List.all_eq_true.mp h1.2 k hk)
      have a2 := of_decide_eq_true (List.all_eq_true.mp h2.2 k (e1 ▸ hk))
      rw [decide_eq_true_eq, ← a1, ← a2])
    rw [e2, decide_eq_true e1] at z
    exact absurd z (by decide)
/-- the word at hand is the j-th just if it matches -/
theorem ky_iff {B : Nat → Nat} {s e j : Nat} (hj : j < 21) : kyF B s e 21 0 = j ↔ mtB B s e j = true := by
  have h := kyF_le (B := B) (s := s) (e := e) 21 0 (by omega)
  constructor
  · intro z; have := h.2.1 (by omega); rw [z] at this; exact this
  · intro z
    rcases kyF_no z 21 0 (by omega) (by omega) with y | y
    · exact mt_1 y hj (h.2.1 y) z
    · omega
theorem sgF_le {b : Nat} : ∀ f k, k + f = 12 → k ≤ sgF b f k ∧ sgF b f k ≤ 12 ∧ (sgF b f k < 12 → sBy 0 (sgF b f k) = nI b)
  | 0, k, h => ⟨by show k ≤ 12; omega, Nat.le_refl _, fun z => by simp [sgF] at z⟩
  | f + 1, k, h => by
    simp only [sgF]
    by_cases q : sBy 0 k = nI b
    · rw [if_pos q]; exact ⟨Nat.le_refl _, by omega, fun _ => q⟩
    · rw [if_neg q]; have := sgF_le (b := b) f (k + 1) (by omega); exact ⟨by omega, this.2⟩
theorem nmB_lt {B : Nat → Nat} {s : Nat} (h : ∀ m, B (s + m) < 256) : ∀ m, nmB B s m < 100000
  | 0 => by show 0 < 100000; omega
  | 1 => by have h0 := h 0; rw [Nat.add_zero] at h0; simp only [nmB]; simp; omega
  | 2 => by have h0 := h 0; rw [Nat.add_zero] at h0; have := h 1; simp only [nmB]; simp; omega
  | 3 => by have h0 := h 0; rw [Nat.add_zero] at h0; have := h 1; have := h 2; simp only [nmB]; simp; omega
  | m + 4 => by
    have ih := nmB_lt h (m + 3)
    show (if m + 3 < 3 then _ else _) < _
    rw [if_neg (by omega)]; exact ih
def kcO (k : Nat) : Int32 := if k ≤ 22 then 2 else if k = 23 then 3 else if k = 24 then 0 else if k = 25 then 1 else 4
def TkC (I : MI) (T : Nat × Nat × Nat × Nat) : Prop := I 64 0 3 = nI T.2.1 ∧ I 64 0 5 = kcO T.1 ∧ (T.1 ≠ 25 → I 64 0 4 = nI T.2.2.1) ∧ (T.1 = 23 → I 64 0 6 = nI T.2.2.2) ∧ (30 ≤ T.1 → I 64 0 6 = sBy 0 (T.1 - 30))
def TxC (I : MI) (B : Nat → Nat) (n : Nat) : Prop := I 64 0 2 = nI n ∧ n ≤ 900 ∧ (∀ i, i < n → I 65 0 i &&& (255 : Int32) = nI (B i)) ∧ ∀ i, B i < 256
def frT (I I' : MI) : Prop := (∀ r a, ¬ (r = 64 ∧ a = 0) → I' r a = I r a) ∧ ∀ j, j < 3 → I' 64 0 j = I 64 0 j
theorem frT.rf {I : MI} : frT I I := ⟨fun _ _ _ => rfl, fun _ _ => rfl⟩
theorem frT.tr {I I' I'' : MI} (h : frT I I') (h' : frT I' I'') : frT I I'' := ⟨fun r a q => (h'.1 r a q).trans (h.1 r a q), fun j q => (h'.2 j q).trans (h.2 j q)⟩
theorem frT.ui {I I' : MI} {j : Nat} {x : Int32} (h : frT I I') (hj : 3 ≤ j) : frT I (ui I' 64 0 j x) := ⟨fun r a q => by rw [ui_off q]; exact h.1 r a q, fun i hi => by rw [ui_k (by omega)]; exact h.2 i hi⟩
theorem TxC_fr {I I' : MI} {B : Nat → Nat} {n : Nat} (h : TxC I B n) (hF : frT I I') : TxC I' B n := ⟨by rw [hF.2 2 (by omega)]; exact h.1, h.2.1, fun i hi => by rw [hF.1 65 0 (by omega)]; exact h.2.2.1 i hi, h.2.2.2⟩
section TokC
variable {d : Nat} {I : MI} {L : ML} {B : Nat → Nat} {n : Nat}
theorem c_Tok_at {k : Nat} {K : Int32 → MI → ML → Prop} (hd : 1 ≤ d) (hT : TxC I B n) (hk : k ≤ 2000) (h1 : k < n → K (nI (B k)) I L) (h0 : ¬ k < n → K (-1) I L) : CI d m_Tok_at [vR 64 0, vI (nI k)] I L K := by
  have hn := hT.2.1
  refine toCI (n := 0) hd (r_Tok_at_0 ?_)
  rw [hT.1]
  refine ⟨fun q => absurd q (nlt0 (by omega)), fun _ => ⟨fun q => ⟨_, rfl, h0 ?_⟩, fun q => ⟨fun q2 => ⟨_, rfl, h0 ?_⟩, fun q2 => ⟨?_, _, rfl, ?_⟩⟩⟩⟩
  · have := (nI_leI (by omega) (by omega)).mp q; omega
  · have := (nI_leI (a := 900) (by omega) (by omega)).mp q2; omega
  · have : ¬ 900 ≤ k := fun z => q2 (nI_le (a := 900) z (by omega))
    exact vin (by omega) (by omega)
  · have : k < n := by
      rcases Nat.lt_or_ge k n with z | z
      · exact z
      · exact absurd (nI_le z (by omega)) q
    rw [cl_n (by omega), hT.2.2.1 k this]
    exact h1 this
theorem c_Tok_isLetter {b : Nat} {K : Int32 → MI → ML → Prop} (hd : 1 ≤ d) (hb : b < 256) (h1 : 97 ≤ b ∧ b ≤ 122 → K 1 I L) (h0 : ¬ (97 ≤ b ∧ b ≤ 122) → K 0 I L) : CI d m_Tok_isLetter [vI (nI b)] I L K := by
  refine toCI (n := 0) hd (r_Tok_isLetter_0 ⟨fun q => ⟨_, rfl, h0 ?_⟩, fun q => ⟨fun q2 => ⟨_, rfl, h0 ?_⟩, fun q2 => ⟨_, rfl, h1 ?_⟩⟩⟩)
  · have := (nI_ltI (a := b) (b := 97) (by omega) (by omega)).mp q; omega
  · have := (nI_ltI (a := 122) (b := b) (by omega) (by omega)).mp q2; omega
  · have a1 : ¬ b < 97 := fun z => q (nI_lt (b := 97) z (by omega))
    have a2 : ¬ 122 < b := fun z => q2 (nI_lt (a := 122) z (by omega))
    omega
theorem c_Tok_isDigit {b : Nat} {K : Int32 → MI → ML → Prop} (hd : 1 ≤ d) (hb : b < 256) (h1 : 48 ≤ b ∧ b ≤ 57 → K 1 I L) (h0 : ¬ (48 ≤ b ∧ b ≤ 57) → K 0 I L) : CI d m_Tok_isDigit [vI (nI b)] I L K := by
  refine toCI (n := 0) hd (r_Tok_isDigit_0 ⟨fun q => ⟨_, rfl, h0 ?_⟩, fun q => ⟨fun q2 => ⟨_, rfl, h0 ?_⟩, fun q2 => ⟨_, rfl, h1 ?_⟩⟩⟩)
  · have := (nI_ltI (a := b) (b := 48) (by omega) (by omega)).mp q; omega
  · have := (nI_ltI (a := 57) (b := b) (by omega) (by omega)).mp q2; omega
  · have a1 : ¬ b < 48 := fun z => q (nI_lt (b := 48) z (by omega))
    have a2 : ¬ 57 < b := fun z => q2 (nI_lt (a := 57) z (by omega))
    omega
theorem ch_tab : ((List.range 256).all fun b => decide (((nI b).toUInt32 % 65536).toInt32 = nI b) && (List.range 12).all fun k => decide ((sBy 0 k = (nI b).toInt8.toInt32) ↔ (sBy 0 k = nI b))) = true := by decide +kernel
theorem c_Str_indexOf {b : Nat} {K : Int32 → MI → ML → Prop} (hd : 5 ≤ d) (hb : b < 256) (h1 : sgF b 12 0 < 12 → K (nI (sgF b 12 0)) I L) (h0 : ¬ sgF b 12 0 < 12 → K (-1) I L) : CI d m_Str_indexOf_I [vR 4000 0, vI (((nI b).toUInt32 % 65536).toInt32)] I L K := by
  have tb := List.all_eq_true.mp ch_tab b (List.mem_range.mpr hb)
  rw [Bool.and_eq_true, decide_eq_true_eq] at tb
  have hs : ∀ k, k < 12 → ((sBy 0 k = (nI b).toInt8.toInt32) ↔ (sBy 0 k = nI b)) := fun k hk => of_decide_eq_true (List.all_eq_true.mp tb.2 k (List.mem_range.mpr hk))
  rw [tb.1]
  have el : Int32.ofNat (sLo 0) = (12 : Int32) := by decide
  have e12 : nI (sLo 0) = (12 : Int32) := by decide
  refine toCI (n := 4) hd (r_Str_indexOf_I_0 (toCI (n := 3) (by omega) (r_Str_indexOf_II_0 (c_Str_isLatin1 (by omega) ⟨fun q => absurd q (by decide), fun _ => c_Str_length (by omega) (by omega) (toCI (n := 2) (by omega) (r_Lat_indexOf_0 (toCI (n := 1) (by omega) (r_Lat_canEncode_0 ⟨fun q => absurd q (nlt0 (by omega)), fun _ => ⟨fun q => absurd q (nI_nlt (a := 255) (b := b) (by omega) (by omega)), fun _ => ⟨_, rfl, fun _ => c_max (by omega) (c_min (by omega) ?_), fun q => absurd (by decide) q⟩⟩⟩))))⟩))))
  rw [el, e12]
  have em : mx (0 : Int32) 0 = 0 := by decide
  have en : mn (12 : Int32) 12 = 12 := by decide
  rw [em, en]
  refine ⟨fun _ => toCI (n := 1) (by omega) (r_Lat_indexOfChar_0 ?_), fun q => absurd (by decide) q⟩
  have key : ∀ (f k : Nat), k + f = 12 → sgF b f k = sgF b 12 0 → XX (1 + 1) m_Lat_indexOfChar (fun r I' L' => ∃ x, r = some (vI x) ∧ (fun x12 I10 L11 => ∃ x, some (vI x12) = some (vI x) ∧ (fun x12 I10 L11 => ∃ x, some (vI x12) = some (vI x) ∧ (fun x3 I1 L2 => ∃ x, some (vI x3) = some (vI x) ∧ K x I1 L2) x I10 L11) x I10 L11) x I' L') 7 [vR 4001 0, vD, vD, vI 12, vI ((nI b).toInt8.toInt32), vI (nI k)] [] I L := by
    intro f
    induction f with
    | zero =>
      intro k hk he
      have ek : k = 12 := by omega
      subst ek
      exact r_Lat_indexOfChar_7 ⟨fun _ => ⟨_, rfl, _, rfl, _, rfl, _, rfl, h0 (by rw [← he]; show ¬ (12 < 12); omega)⟩, fun q => absurd (by decide) q⟩
    | succ f ih =>
      intro k hk he
      have he2 : sgF b (f + 1) k = if sBy 0 k = nI b then k else sgF b f (k + 1) := rfl
      rw [he2] at he
      refine r_Lat_indexOfChar_7 ⟨fun q => absurd q (nle_c (m := 12) (by omega) (by omega)), fun _ => ⟨vin (by show k < 12; omega) (by decide), ?_⟩⟩
      rw [cl_n (by omega), nI_1]
      refine ⟨fun q => ih (k + 1) (by omega) ?_, fun q => ⟨_, rfl, _, rfl, _, rfl, _, rfl, ?_⟩⟩
      · rw [if_neg (fun z => q ((hs k (by omega)).mpr z))] at he; exact he
      · have := (hs k (by omega)).mp (Classical.not_not.mp q)
        rw [if_pos this] at he
        rw [he]
        exact h1 (by omega)
  exact key 12 0 (by omega) rfl
theorem x_Tok_step {Q : QT} {p : Nat} (hd : 5 ≤ d) (hT : TxC I B n) (hp : I 64 0 4 = nI p) (hpn : p ≤ n) (h : ∀ I', TkC I' (tkn B n p) → frT I I' → Q none I' L) : XX (d + 1) m_Tok_step Q 0 [vR 64 0, vD] [] I L := by
  have hn := hT.2.1
  unfold tkn at h
  have hS := tkW_le (B := B) (n := n) (n - p) p hpn
  -- letters
  have lets : ∀ (f q s : Nat) (J : MI), q + f = n → s ≤ q → tkL B n f q = tkL B n (n - s) s → tknS B n s = (kyF B s (tkL B n (n - s) s) 21 0, s, tkL B n (n - s) s, 0) → tkW B n (n - p) p = s → J 64 0 3 = nI s → J 64 0 5 = 2 → J 64 0 4 = nI q → frT I J → XX (d + 1) m_Tok_step Q 98 [vR 64 0, vD] [] J L := by
    intro f
    induction f with
    | zero =>
      intro q s J hq hs he hk hw j3 j5 j4 hF
      have hTJ := TxC_fr hT hF
      refine r_Tok_step_98 ?_
      rw [hTJ.1, j4]
      refine ⟨fun _ => h J ?_ hF, fun z => absurd (nI_le (show n ≤ q by omega) (by omega)) z⟩
      rw [hw, hk]
      have kl := (kyF_le (B := B) (s := s) (e := tkL B n (n - s) s) 21 0 (by omega)).1
      refine ⟨j3, ?_, fun _ => ?_, fun z => ?_, fun z => ?_⟩
      · rw [j5]; unfold kcO; rw [if_pos kl]
      · rw [j4, ← he]; rfl
      · have z : kyF B s (tkL B n (n - s) s) 21 0 = 23 := z; omega
      · have z : 30 ≤ kyF B s (tkL B n (n - s) s) 21 0 := z; omega
    | succ f ih =>
      intro q s J hq hs he hk hw j3 j5 j4 hF
      have hTJ := TxC_fr hT hF
      simp only [tkL] at he
      refine r_Tok_step_98 ?_
      rw [hTJ.1, j4]
      refine ⟨fun z => absurd z (nI_ge (show q < n by omega) (by omega)), fun _ => c_Tok_at (by omega) hTJ (by omega) (fun hqn => c_Tok_isLetter (by omega) (hT.2.2.2 q) (fun y => ⟨fun z => absurd z (by decide), fun _ => ?_⟩) (fun y => ⟨fun _ => h J ?_ hF, fun z => absurd rfl z⟩)) (fun y => absurd (show q < n by omega) y)⟩
      · rw [if_pos ⟨hqn, y⟩] at he
        rw [j4, nI_1]
        exact ih (q + 1) s _ (by omega) (by omega) he hk hw (by rw [ui_k (by decide)]; exact j3) (by rw [ui_k (by decide)]; exact j5) (by rw [ui_s]) (hF.ui (by omega))
      · rw [if_neg (fun z => y z.2)] at he
        rw [hw, hk]
        have kl := (kyF_le (B := B) (s := s) (e := tkL B n (n - s) s) 21 0 (by omega)).1
        refine ⟨j3, ?_, fun _ => ?_, fun z => ?_, fun z => ?_⟩
        · rw [j5]; unfold kcO; rw [if_pos kl]
        · rw [j4, ← he]
        · have z : kyF B s (tkL B n (n - s) s) 21 0 = 23 := z; omega
        · have z : 30 ≤ kyF B s (tkL B n (n - s) s) 21 0 := z; omega
  -- digits
  have digs : ∀ (f q s : Nat) (J : MI), q + f = n → s ≤ q → tkD B n f q = tkD B n (n - s) s → tknS B n s = (if 3 < tkD B n (n - s) s - s then 25 else 23, s, tkD B n (n - s) s, nmB B s (tkD B n (n - s) s - s)) → tkW B n (n - p) p = s → J 64 0 3 = nI s → J 64 0 6 = nI (nmB B s (q - s)) → J 64 0 4 = nI q → frT I J → XX (d + 1) m_Tok_step Q 148 [vR 64 0, vD] [] J L := by
    have fin : ∀ (q s : Nat) (J : MI), s ≤ q → q ≤ n → q = tkD B n (n - s) s → tknS B n s = (if 3 < tkD B n (n - s) s - s then 25 else 23, s, tkD B n (n - s) s, nmB B s (tkD B n (n - s) s - s)) → tkW B n (n - p) p = s → J 64 0 3 = nI s → J 64 0 6 = nI (nmB B s (q - s)) → J 64 0 4 = nI q → frT I J → ((nI q - nI s ≤ 3 → (Q none (ui J 64 0 5 3) L)) ∧ (¬ (nI q - nI s ≤ 3) → (Q none (ui J 64 0 5 1) L))) := by
      intro q s J hs hqn he hk hw j3 j6 j4 hF
      rw [nI_sub hs]
      refine ⟨fun z => h _ ?_ (hF.ui (by omega)), fun z => h _ ?_ (hF.ui (by omega))⟩
      · have hz := (nI_leI (a := q - s) (b := 3) (by omega) (by omega)).mp z
        rw [hw, hk, ← he, if_neg (by omega)]
        exact ⟨by rw [ui_k (by decide)]; exact j3, by rw [ui_s]; rfl, fun _ => by rw [ui_k (by decide)]; exact j4, fun _ => by rw [ui_k (by decide)]; exact j6, fun z => by have z : 30 ≤ 23 := z; omega⟩
      · have hz : ¬ q - s ≤ 3 := fun y => z (nI_le (b := 3) y (by omega))
        rw [hw, hk, ← he, if_pos (by omega)]
        exact ⟨by rw [ui_k (by decide)]; exact j3, by rw [ui_s]; rfl, fun z => absurd rfl z, fun z => by have z : 25 = 23 := z; omega, fun z => by have z : 30 ≤ 25 := z; omega⟩
    intro f
    induction f with
    | zero =>
      intro q s J hq hs he hk hw j3 j6 j4 hF
      have hTJ := TxC_fr hT hF
      refine r_Tok_step_148 ?_
      rw [hTJ.1, j4, j3]
      exact ⟨fun _ => fin q s J hs (by omega) he hk hw j3 j6 j4 hF, fun z => absurd (nI_le (show n ≤ q by omega) (by omega)) z⟩
    | succ f ih =>
      intro q s J hq hs he hk hw j3 j6 j4 hF
      have hTJ := TxC_fr hT hF
      simp only [tkD] at he
      refine r_Tok_step_148 ?_
      rw [hTJ.1, j4, j3]
      refine ⟨fun z => absurd z (nI_ge (show q < n by omega) (by omega)), fun _ => c_Tok_at (by omega) hTJ (by omega) (fun hqn => c_Tok_isDigit (by omega) (hT.2.2.2 q) (fun y => ⟨fun z => absurd z (by decide), fun _ => ?_⟩) (fun y => ⟨fun _ => ?_, fun z => absurd rfl z⟩)) (fun y => absurd (show q < n by omega) y)⟩
      · rw [if_pos ⟨hqn, y⟩] at he
        have hm : nmB B s (q + 1 - s) = if q - s < 3 then nmB B s (q - s) * 10 + (B q - 48) else nmB B s (q - s) := by
          rw [show q + 1 - s = (q - s) + 1 by omega]
          show (if q - s < 3 then nmB B s (q - s) * 10 + (B (s + (q - s)) - 48) else nmB B s (q - s)) = _
          rw [show s + (q - s) = q by omega]
        have bl := hT.2.2.2 q
        have nl := nmB_lt (B := B) (s := s) (fun m => hT.2.2.2 _) (q - s)
        rw [j4, j3, j6, nI_sub hs]
        refine ⟨fun z => ?_, fun z => c_Tok_at (by omega) hTJ (by omega) (fun _ => ?_) (fun y => absurd (show q < n by omega) y)⟩
        · have hz := (nI_leI (a := 3) (b := q - s) (by omega) (by omega)).mp z
          rw [if_neg (by omega)] at hm
          refine ih (q + 1) s _ (by omega) (by omega) he hk hw (by rw [ui_k (by decide), ui_k (by decide)]; exact j3) (by rw [ui_k (by decide), ui_s, hm]) (by rw [ui_s, ui_k (by decide), j4, nI_1]) ((hF.ui (by omega)).ui (by omega))
        · have hz : ¬ 3 ≤ q - s := fun y => z (nI_le (a := 3) y (by omega))
          rw [if_pos (by omega)] at hm
          have ev : (nI (nmB B s (q - s)) * (10 : Int32) + nI (B q)) - (48 : Int32) = nI (nmB B s (q - s) * 10 + (B q - 48)) := by
            have e1 : nI (nmB B s (q - s)) * (10 : Int32) = nI (nmB B s (q - s) * 10) := pk_mul _ 10
            have e2 : nI (nmB B s (q - s) * 10 + B q) - (48 : Int32) = nI (nmB B s (q - s) * 10 + B q - 48) := nI_sub (b := 48) (by omega)
            rw [e1, nI_add, e2]; congr 1; omega
          rw [ev]
          refine ih (q + 1) s _ (by omega) (by omega) he hk hw (by rw [ui_k (by decide), ui_k (by decide)]; exact j3) (by rw [ui_k (by decide), ui_s, hm]) (by rw [ui_s, ui_k (by decide), j4, nI_1]) ((hF.ui (by omega)).ui (by omega))
      · rw [if_neg (fun z => y z.2)] at he
        rw [j4, j3]
        exact fin q s J hs (by omega) he hk hw j3 j6 j4 hF
  -- behind the blanks
  have A : ∀ (J : MI) (s : Nat), J 64 0 4 = nI s → s ≤ n → tkW B n (n - p) p = s → frT I J → (CI d m_Tok_at [vR 64 0, vI ((ui J 64 0 3 (J 64 0 4)) 64 0 4)] (ui J 64 0 3 (J 64 0 4)) L (fun x3 I1 L2 => ((I1 64 0 4) < (I1 64 0 2) → (CI d m_Tok_isLetter [vI x3] I1 L2 (fun x6 I4 L5 => (x6 = 0 → (CI d m_Tok_isDigit [vI x3] I4 L5 (fun x9 I7 L8 => (x9 = 0 → (CI d m_Str_indexOf_I [vR 4000 0, vI ((x3.toUInt32 % 65536).toInt32)] I7 L8 (fun x12 I10 L11 => (x12 < 0 → (Q none (ui I10 64 0 5 1) L11)) ∧ (¬ (x12 < 0) → (Q none (ui (ui (ui I10 64 0 5 4) 64 0 6 x3) 64 0 4 (((ui (ui I10 64 0 5 4) 64 0 6 x3) 64 0 4) + (1 : Int32))) L11))))) ∧ (¬ (x9 = 0) → (XX (d + 1) m_Tok_step Q 148 [vR 64 0, vD] [] (ui I7 64 0 6 0) L8))))) ∧ (¬ (x6 = 0) → (XX (d + 1) m_Tok_step Q 98 [vR 64 0, vD] [] (ui I4 64 0 5 2) L5))))) ∧ (¬ ((I1 64 0 4) < (I1 64 0 2)) → (Q none (ui I1 64 0 5 0) L2)))) := by
    intro J s j4 hsn hw hF
    have hF3 : frT I (ui J 64 0 3 (J 64 0 4)) := hF.ui (by omega)
    have j3' : ui J 64 0 3 (J 64 0 4) 64 0 3 = nI s := by rw [ui_s, j4]
    have j4' : ui J 64 0 3 (J 64 0 4) 64 0 4 = nI s := by rw [ui_k (by decide), j4]
    generalize ui J 64 0 3 (J 64 0 4) = J3 at *
    have hT3 := TxC_fr hT hF3
    rw [j4']
    refine c_Tok_at (by omega) hT3 (by omega) (fun hs => ?_) (fun hs => ?_)
    · rw [j4', hT3.1]
      have hbs := hT.2.2.2 s
      refine ⟨fun _ => c_Tok_isLetter (by omega) hbs (fun y => ⟨fun z => absurd z (by decide), fun _ => ?_⟩) (fun y1 => ⟨fun _ => c_Tok_isDigit (by omega) hbs (fun y => ⟨fun z => absurd z (by decide), fun _ => ?_⟩) (fun y2 => ⟨fun _ => ?_, fun z => absurd rfl z⟩), fun z => absurd rfl z⟩), fun z => absurd (nI_lt hs (by omega)) z⟩
      · exact lets (n - s) s s _ (by omega) (Nat.le_refl _) rfl (by unfold tknS; rw [if_neg (by omega), if_pos y]) hw (by rw [ui_k (by decide)]; exact j3') (by rw [ui_s]) (by rw [ui_k (by decide)]; exact j4') (hF3.ui (by omega))
      · exact digs (n - s) s s _ (by omega) (Nat.le_refl _) rfl (by unfold tknS; rw [if_neg (by omega), if_neg y1, if_pos y]) hw (by rw [ui_k (by decide)]; exact j3') (by rw [ui_s, Nat.sub_self]; rfl) (by rw [ui_k (by decide)]; exact j4') (hF3.ui (by omega))
      · have sg := sgF_le (b := B s) 12 0 (by omega)
        refine c_Str_indexOf (by omega) hbs (fun y => ⟨fun z => absurd z (nlt0 (by omega)), fun _ => h _ ?_ (((hF3.ui (by omega)).ui (by omega)).ui (by omega))⟩) (fun y => ⟨fun _ => h _ ?_ (hF3.ui (by omega)), fun z => absurd (by decide) z⟩)
        · have ek : tknS B n s = (30 + sgF (B s) 12 0, s, s + 1, 0) := by unfold tknS; rw [if_neg (by omega), if_neg y1, if_neg y2, if_pos y]
          rw [hw, ek]
          refine ⟨by rw [ui_k (by decide), ui_k (by decide), ui_k (by decide)]; exact j3', ?_, fun _ => ?_, fun z => ?_, fun _ => ?_⟩
          · rw [ui_k (by decide), ui_k (by decide), ui_s]
            show (4 : Int32) = kcO (30 + sgF (B s) 12 0)
            unfold kcO
            rw [if_neg (by omega), if_neg (by omega), if_neg (by omega), if_neg (by omega)]
          · rw [ui_s, ui_k (by decide), ui_k (by decide), j4']; exact nI_1 s
          · have z : 30 + sgF (B s) 12 0 = 23 := z; omega
          · rw [ui_k (by decide), ui_s]
            show nI (B s) = sBy 0 (30 + sgF (B s) 12 0 - 30)
            rw [Nat.add_sub_cancel_left]
            exact (sg.2.2 y).symm
        · have ek : tknS B n s = (25, s, s + 1, 0) := by unfold tknS; rw [if_neg (by omega), if_neg y1, if_neg y2, if_neg y]
          rw [hw, ek]
          exact ⟨by rw [ui_k (by decide)]; exact j3', by rw [ui_s]; rfl, fun z => absurd rfl z, fun z => by have z : 25 = 23 := z; omega, fun z => by have z : 30 ≤ 25 := z; omega⟩
    · rw [j4', hT3.1]
      refine ⟨fun z => absurd z (nI_nlt (show n ≤ s by omega) (by omega)), fun _ => h _ ?_ (hF3.ui (by omega))⟩
      have ek : tknS B n s = (24, s, s, 0) := by unfold tknS; rw [if_pos (by omega)]
      rw [hw, ek]
      exact ⟨by rw [ui_k (by decide)]; exact j3', by rw [ui_s]; rfl, fun _ => by rw [ui_k (by decide)]; exact j4', fun z => by have z : 24 = 23 := z; omega, fun z => by have z : 30 ≤ 24 := z; omega⟩
  have key : ∀ (f q : Nat) (J : MI), q + f = n → J 64 0 4 = nI q → tkW B n f q = tkW B n (n - p) p → frT I J → XX (d + 1) m_Tok_step Q 0 [vR 64 0, vD] [] J L := by
    intro f
    induction f with
    | zero =>
      intro q J hq j4 he hF
      have hTJ := TxC_fr hT hF
      refine r_Tok_step_0 ⟨fun _ => A J q j4 (by omega) he.symm hF, fun z => ?_⟩
      rw [hTJ.1, j4] at z
      exact absurd (nI_le (show n ≤ q by omega) (by omega)) z
    | succ f ih =>
      intro q J hq j4 he hF
      have hTJ := TxC_fr hT hF
      simp only [tkW] at he
      have nx : (B q = 32 ∨ B q = 10) → XX (d + 1) m_Tok_step Q 0 [vR 64 0, vD] [] (ui J 64 0 4 (J 64 0 4 + 1)) L := fun y => by
        rw [if_pos ⟨by omega, y⟩] at he
        exact ih (q + 1) _ (by omega) (by rw [ui_s, j4, nI_1]) he (hF.ui (by omega))
      refine r_Tok_step_0 ⟨fun z => ?_, fun _ => ?_⟩
      · rw [hTJ.1, j4] at z
        exact absurd z (nI_ge (show q < n by omega) (by omega))
      · rw [j4]
        refine c_Tok_at (by omega) hTJ (by omega) (fun hqn => ⟨fun z => ?_, fun z => ?_⟩) (fun y => absurd (show q < n by omega) y)
        · have := nx (Or.inl ((nI_eq (b := 32) (by have := hT.2.2.2 q; omega) (by omega)).mp z))
          rw [j4] at this ⊢
          exact this
        · rw [j4]
          refine c_Tok_at (by omega) hTJ (by omega) (fun _ => ⟨fun z2 => ?_, fun z2 => ?_⟩) (fun y => absurd (show q < n by omega) y)
          · have a1 : ¬ B q = 32 := fun y => z (by rw [y]; rfl)
            have a2 : ¬ B q = 10 := fun y => z2 (by rw [y]; rfl)
            rw [if_neg (fun y => y.2.elim a1 a2)] at he
            exact A J q j4 (by omega) he.symm hF
          · have := nx (Or.inr ((nI_eq (b := 10) (by have := hT.2.2.2 q; omega) (by omega)).mp (Classical.not_not.mp z2)))
            rw [j4] at this ⊢
            exact this
  exact key (n - p) p I (by omega) hp rfl frT.rf
end TokC
