/-! THE TAPE; feed -/
def byt (x : Int32) (j : Nat) : Int32 := (x >>> (((24 : Int32) - ((8 : Int32) * nI j)) &&& 31)) &&& (255 : Int32)
def TpC (I : MI) (t : Nat → Int32) (n : Nat) : Prop := I 64 0 1 = nI n ∧ ∀ i, i < n → I 65 0 i &&& (255 : Int32) = t i
def TpM (I : MI) (t : Nat → Int32) (n : Nat) : Prop := I 704 0 5 = nI n ∧ ∀ i, i < n → I 708 0 i = t i
def TpO (t : Nat → Int32) (n : Nat) : Prop := n ≤ 900 ∧ ∀ i, i < n → ∃ b : Nat, b < 256 ∧ t i = nI b
def fdT (a : Nat → Int32) (t : Nat → Int32) (n : Nat) : Nat → Int32 := fun i => if i < n then t i else byt (a ((i - n) / 4)) ((i - n) % 4)
theorem byt_lt (x : Int32) (j : Nat) : ∃ b : Nat, b < 256 ∧ byt x j = nI b := pk_andE _ 8 (by decide)
theorem fdT_O {a t : Nat → Int32} {n : Nat} (h : TpO t n) (hn : n + 20 ≤ 900) : TpO (fdT a t n) (n + 20) := by
  refine ⟨hn, fun i hi => ?_⟩
  unfold fdT
  by_cases e : i < n
  · rw [if_pos e]; exact h.2 i e
  · rw [if_neg e]; exact byt_lt _ _
def tkS : Nat → Nat → Prop := fun r a => (r = 64 ∨ r = 65) ∧ a = 0
/-! bits of ints (out of laws/BITS.to-paste) -/
def bt (x : Int32) (i : Nat) : Bool := x.toBitVec.getLsbD i
theorem b_ext {x y : Int32} (h : ∀ i, i < 32 → bt x i = bt y i) : x = y := Int32.toBitVec_inj.mp (BitVec.eq_of_getLsbD_eq (fun i hi => h i hi))
theorem b_and (x y : Int32) (i : Nat) : bt (x &&& y) i = (bt x i && bt y i) := by unfold bt; rw [Int32.toBitVec_and, BitVec.getLsbD_and]
theorem b_255 : ∀ i, i < 32 → bt 255 i = decide (i < 8) := by decide +kernel
theorem s_l : ∀ n, n < 32 → ((nI n &&& 31).toBitVec.smod 32).toNat = n := by decide +kernel
theorem s_u : ∀ n, n < 32 → (((nI n).toUInt32 &&& Int32.toUInt32 31).toBitVec % 32).toNat = n := by decide +kernel
theorem b_ushr (n : Nat) (hn : n < 32) (x : Int32) (i : Nat) : bt ((x.toUInt32 >>> ((nI n).toUInt32 &&& Int32.toUInt32 31)).toInt32) i = bt x (n + i) := by
  show (x.toUInt32 >>> ((nI n).toUInt32 &&& Int32.toUInt32 31)).toBitVec.getLsbD i = x.toUInt32.toBitVec.getLsbD (n + i)
  rw [UInt32.toBitVec_shiftRight]
  show (x.toUInt32.toBitVec >>> (((nI n).toUInt32 &&& Int32.toUInt32 31).toBitVec % 32).toNat).getLsbD i = _
  rw [s_u n hn, BitVec.getLsbD_ushiftRight]
theorem b_sshr (n : Nat) (hn : n < 32) (x : Int32) {i : Nat} (hi : i < 32) : bt (x >>> (nI n &&& 31)) i = if n + i < 32 then bt x (n + i) else bt x 31 := by
  unfold bt
  rw [Int32.toBitVec_shiftRight]
  show (x.toBitVec.sshiftRight ((nI n &&& 31).toBitVec.smod 32).toNat).getLsbD i = _
  rw [s_l n hn, BitVec.getLsbD_sshiftRight, BitVec.msb_eq_getLsbD_last]
  simp [hi]
theorem bp_b (x : Int32) : x.toInt8.toInt32 &&& 255 = x &&& 255 := by
  apply Int32.toBitVec_inj.mp
  rw [Int32.toBitVec_and, Int32.toBitVec_and, Int8.toBitVec_toInt32, Int32.toBitVec_toInt8]
  apply BitVec.eq_of_getLsbD_eq
  intro i hi
  rw [BitVec.getLsbD_and, BitVec.getLsbD_and]
  have hm : ∀ i < 32, 8 ≤ i → (255 : Int32).toBitVec.getLsbD i = false := by decide
  rcases Nat.lt_or_ge i 8 with z | z
  · rw [BitVec.getLsbD_signExtend, BitVec.getLsbD_signExtend, if_pos z, if_pos hi]
    simp only [z, hi, decide_true, Bool.true_and]
  · rw [hm i hi z]; simp
theorem pb (x : Int32) : ∀ j, j < 4 → ((((x.toUInt32 >>> ((nI (24 - 8 * j)).toUInt32 &&& Int32.toUInt32 31)).toInt32).toInt8.toInt32).toInt8.toInt32) &&& (255 : Int32) = byt x j := by
  intro j hj
  rw [bp_b, bp_b]
  unfold byt
  have e : (24 : Int32) - ((8 : Int32) * nI j) = nI (24 - 8 * j) := by
    have e1 : (8 : Int32) * nI j = nI (8 * j) := pk_mul 8 j
    have e2 : (24 : Int32) - nI (8 * j) = nI (24 - 8 * j) := nI_sub (a := 24) (by omega)
    rw [e1, e2]
  rw [e]
  refine b_ext (fun i hi => ?_)
  rw [b_and, b_and, b_ushr _ (by omega), b_sshr _ (by omega) x hi, b_255 i hi]
  by_cases h : i < 8
  · rw [if_pos (by omega)]
  · rw [decide_eq_false h, Bool.and_false, Bool.and_false]
section Feed
variable {d : Nat} {I : MI} {L : ML}
theorem c_Tok_put {x : Int32} {n : Nat} {K : MI → ML → Prop} (hd : 1 ≤ d) (h0 : I 64 0 1 = nI n) (hn : n + 4 ≤ 900) (h : ∀ I', I' 64 0 1 = nI (n + 4) → (∀ i, i < n → I' 65 0 i = I 65 0 i) → (∀ j, j < 4 → I' 65 0 (n + j) &&& (255 : Int32) = byt x j) → (∀ j, j ≠ 1 → I' 64 0 j = I 64 0 j) → Same tkS I I' → K I' L) : CV d m_Tok_put [vR 64 0, vI x] I L K := by
  refine toCV (n := 0) hd (r_Tok_put_0 ?_)
  have key : ∀ (b j : Nat) (J : MI), j + b = 4 → J 64 0 1 = nI (n + j) → (∀ i, i < n → J 65 0 i = I 65 0 i) → (∀ i, i < j → J 65 0 (n + i) &&& (255 : Int32) = byt x i) → (∀ j, j ≠ 1 → J 64 0 j = I 64 0 j) → Same tkS I J → XX (0 + 1) m_Tok_put (fun r I' L' => r = none ∧ K I' L') 3 [vR 64 0, vI x, vI (nI (32 - 8 * j) - (8 : Int32))] [] J L := by
    intro b
    induction b with
    | zero =>
      intro j J hj e1 e2 e3 e4 hS
      have ej : j = 4 := by omega
      subst ej
      exact r_Tok_put_3 ⟨fun _ => ⟨rfl, h J e1 e2 e3 e4 hS⟩, fun q => absurd (by decide) q⟩
    | succ b ih =>
      intro j J hj e1 e2 e3 e4 hS
      have es : nI (32 - 8 * j) - (8 : Int32) = nI (24 - 8 * j) := by
        have := nI_sub (a := 32 - 8 * j) (b := 8) (by omega)
        rw [show 32 - 8 * j - 8 = 24 - 8 * j by omega] at this
        exact this
      have e8 : nI (24 - 8 * j) + (-8 : Int32) = nI (32 - 8 * (j + 1)) - (8 : Int32) := by
        rw [show 32 - 8 * (j + 1) = 24 - 8 * j by omega, Int32.sub_eq_add_neg]
      rw [es]
      refine r_Tok_put_3 ?_
      rw [e1, cl_n (by omega), e8]
      refine ⟨fun q => absurd q (nlt0 (by omega)), fun _ => ⟨fun q => absurd q (nle_c (m := 900) (by omega) (by omega)), fun _ => ⟨vin (by omega) (by omega), ih (j + 1) _ (by omega) ?_ (fun i hi => ?_) (fun i hi => ?_) (fun i hi => ?_) ((hS.ui ⟨Or.inr rfl, rfl⟩).ui ⟨Or.inl rfl, rfl⟩)⟩⟩⟩
      · rw [ui_s, ui_r (by decide), e1, nI_1]; rfl
      · rw [ui_r (by decide), ui_k (by omega)]; exact e2 i hi
      · rw [ui_r (by decide)]
        by_cases y : i = j
        · rw [y, ui_s]; exact pb x j (by omega)
        · rw [ui_k (by omega)]; exact e3 i (by omega)
      · rw [ui_k hi, ui_r (by decide)]; exact e4 i hi
  have := key 4 0 I (by omega) h0 (fun _ _ => rfl) (fun i hi => by omega) (fun _ _ => rfl) Same.rf
  exact this
theorem w_feed {a1 a2 a3 a4 a5 : Int32} {t : Nat → Int32} {n : Nat} {K : Int32 → MI → ML → Prop} (hd : 2 ≤ d) (ht : TpC I t n) (hO : TpO t n) (h0 : ¬ n + 20 ≤ 900 → K (-5) I L) (h1 : n + 20 ≤ 900 → ∀ I', TpC I' (fdT (fun j => if j = 0 then a1 else if j = 1 then a2 else if j = 2 then a3 else if j = 3 then a4 else a5) t n) (n + 20) → (∀ j, j ≠ 1 → I' 64 0 j = I 64 0 j) → Same tkS I I' → K (nI (n + 20)) I' L) : CI d m_W_feed [vR 0 0, vI a1, vI a2, vI a3, vI a4, vI a5] I L K := by
  have hn := hO.1
  refine toCI (n := 1) hd (r_W_feed_0 (toCI (n := 0) (by omega) (r_Tok_hasSpace_0 ?_)))
  have e20 : I 64 0 1 + (20 : Int32) = nI (n + 20) := by rw [ht.1]; exact nI_add n 20
  rw [e20]
  refine ⟨fun q => ⟨_, rfl, fun q => absurd rfl q, fun _ => ⟨_, rfl, h0 (fun z => ?_)⟩⟩, fun q => ⟨_, rfl, fun _ => ?_, fun q => absurd (by decide) q⟩⟩
  · exact absurd q (nI_nlt (a := 900) (b := n + 20) z (by omega))
  have hle : n + 20 ≤ 900 := by
    rcases Nat.lt_or_ge 900 (n + 20) with z | z
    · exact absurd (nI_lt (a := 900) z (by omega)) q
    · exact z
  refine c_Tok_put (by omega) ht.1 (by omega) (fun I1 x1 y1 z1 o1 S1 => ?_)
  refine c_Tok_put (by omega) x1 (by omega) (fun I2 x2 y2 z2 o2 S2 => ?_)
  refine c_Tok_put (by omega) x2 (by omega) (fun I3 x3 y3 z3 o3 S3 => ?_)
  refine c_Tok_put (by omega) x3 (by omega) (fun I4 x4 y4 z4 o4 S4 => ?_)
  refine c_Tok_put (by omega) x4 (by omega) (fun I5 x5 y5 z5 o5 S5 => ?_)
  refine toCI (n := 0) (by omega) (r_Tok_size_0 ⟨_, rfl, ?_⟩)
  rw [x5]
  refine ⟨_, rfl, h1 hle I5 ⟨x5, fun i hi => ?_⟩ (fun j hj => by rw [o5 j hj, o4 j hj, o3 j hj, o2 j hj, o1 j hj]) ((((S1.tr S2).tr S3).tr S4).tr S5)⟩
  unfold fdT
  by_cases e : i < n
  · rw [if_pos e, y5 i (by omega), y4 i (by omega), y3 i (by omega), y2 i (by omega), y1 i (by omega)]
    exact ht.2 i e
  · rw [if_neg e]
    obtain ⟨j, ej⟩ : ∃ j, i = n + j := ⟨i - n, by omega⟩
    subst ej
    rw [Nat.add_sub_cancel_left]
    have hj : j < 20 := by omega
    have hq := Nat.div_add_mod j 4
    have hr := Nat.mod_lt j (show 0 < 4 by omega)
    generalize j / 4 = a at *
    generalize j % 4 = b at *
    have ha : a < 5 := by omega
    match a, ha with
    | 0, _ =>
      show I5 65 0 (n + j) &&& (255 : Int32) = byt a1 b
      rw [y5 _ (by omega), y4 _ (by omega), y3 _ (by omega), y2 _ (by omega), show n + j = n + b by omega]
      exact z1 b hr
    | 1, _ =>
      show I5 65 0 (n + j) &&& (255 : Int32) = byt a2 b
      rw [y5 _ (by omega), y4 _ (by omega), y3 _ (by omega), show n + j = n + 4 + b by omega]
      exact z2 b hr
    | 2, _ =>
      show I5 65 0 (n + j) &&& (255 : Int32) = byt a3 b
      rw [y5 _ (by omega), y4 _ (by omega), show n + j = n + 4 + 4 + b by omega]
      exact z3 b hr
    | 3, _ =>
      show I5 65 0 (n + j) &&& (255 : Int32) = byt a4 b
      rw [y5 _ (by omega), show n + j = n + 4 + 4 + 4 + b by omega]
      exact z4 b hr
    | 4, _ =>
      show I5 65 0 (n + j) &&& (255 : Int32) = byt a5 b
      rw [show n + j = n + 4 + 4 + 4 + 4 + b by omega]
      exact z5 b hr
def feS : Nat → Nat → Prop := fun r a => (r = 704 ∨ r = 708) ∧ a = 0
theorem m_feed {a1 a2 a3 a4 a5 : Int32} {t : Nat → Int32} {n : Nat} {K : Int32 → MI → ML → Prop} (hd : 1 ≤ d) (ht : TpM I t n) (hO : TpO t n) (h0 : ¬ n + 20 ≤ 900 → K (-5) (ui I 704 0 0 0) L) (h1 : n + 20 ≤ 900 → ∀ I', TpM I' (fdT (fun j => if j = 0 then a1 else if j = 1 then a2 else if j = 2 then a3 else if j = 3 then a4 else a5) t n) (n + 20) → (∀ j, j ≠ 5 → j ≠ 0 → I' 704 0 j = I 704 0 j) → I' 704 0 0 = 0 → Same feS I I' → K (nI (n + 20)) I' L) : CI d m_M_feed [vR 704 0, vI a1, vI a2, vI a3, vI a4, vI a5] I L K := by
  have hn := hO.1
  refine toCI (n := 0) hd (r_M_feed_0 ?_)
  have e20 : ui I 704 0 0 0 704 0 5 + (20 : Int32) = nI (n + 20) := by rw [ui_k (by decide), ht.1]; exact nI_add n 20
  rw [e20]
  refine ⟨fun q => ?_, fun q => ⟨_, rfl, h0 (fun z => q (nI_le (b := 900) z (by omega)))⟩⟩
  have hle : n + 20 ≤ 900 := (nI_leI (a := n + 20) (b := 900) (by omega) (by omega)).mp q
  have fin := h1 hle
  have key : ∀ (f b : Nat) (J : MI), b + f = 20 → J 704 0 5 = nI (n + b) → (∀ i, i < n + b → J 708 0 i = fdT (fun j => if j = 0 then a1 else if j = 1 then a2 else if j = 2 then a3 else if j = 3 then a4 else a5) t n i) → (∀ j, j ≠ 5 → j ≠ 0 → J 704 0 j = I 704 0 j) → J 704 0 0 = 0 → Same feS I J → XX (0 + 1) m_M_feed (fun r I' L' => ∃ x, r = some (vI x) ∧ K x I' L') 24 [vR 704 0, vI a1, vI a2, vI a3, vI a4, vI a5, vI (nI b), vD] [] J L := by
    intro f
    induction f with
    | zero =>
      intro b J hb e5 ht ho h0 hS
      have eb : b = 20 := by omega
      subst eb
      refine r_M_feed_24 ⟨fun _ => ⟨_, rfl, ?_⟩, fun q => absurd (by decide) q⟩
      rw [e5]
      exact fin J ⟨e5, ht⟩ ho h0 hS
    | succ f ih =>
      intro b J hb e5 ht ho h0 hS
      have go : ∀ x : Int32, x = (if b / 4 = 0 then a1 else if b / 4 = 1 then a2 else if b / 4 = 2 then a3 else if b / 4 = 3 then a4 else a5) → XX (0 + 1) m_M_feed (fun r I' L' => ∃ x, r = some (vI x) ∧ K x I' L') 24 [vR 704 0, vI a1, vI a2, vI a3, vI a4, vI a5, vI (nI (b + 1)), vD] [] (ui (ui J 708 0 (n + b) ((x >>> (((24 : Int32) - ((8 : Int32) * nI (b % 4))) &&& 31)) &&& (255 : Int32))) 704 0 5 (nI (n + b) + (1 : Int32))) L := by
        intro x ex
        refine ih (b + 1) _ (by omega) (by rw [ui_s]; exact nI_1 (n + b)) (fun i hi => ?_) (fun j h1 h2 => by rw [ui_k h1, ui_r (by decide)]; exact ho j h1 h2) (by rw [ui_k (by decide), ui_r (by decide)]; exact h0) ((hS.ui ⟨Or.inr rfl, rfl⟩).ui ⟨Or.inl rfl, rfl⟩)
        rw [ui_r (by decide)]
        by_cases y : i = n + b
        · rw [y, ui_s]
          unfold fdT byt
          rw [if_neg (by omega), Nat.add_sub_cancel_left, ex]
        · rw [ui_k y]; exact ht i (by omega)
      have e4 : nI b % (4 : Int32) = nI (b % 4) := rem_n (b := 4) (by omega) (by omega)
      refine r_M_feed_24 ?_
      rw [ui_r (show (704 : Nat) ≠ 708 by decide), ui_r (show (704 : Nat) ≠ 708 by decide), ui_r (show (704 : Nat) ≠ 708 by decide), ui_r (show (704 : Nat) ≠ 708 by decide), ui_r (show (704 : Nat) ≠ 708 by decide), e5, cl_n (by omega), e4, nI_1 (a := b)]
      refine ⟨fun q => absurd q (nle_c (m := 20) (by omega) (by omega)), fun _ => ⟨fun q4 => ⟨fun q8 => ⟨fun q12 => ⟨fun q16 => ⟨vin (by omega) (by omega), go _ ?_⟩, fun q16 => ⟨vin (by omega) (by omega), go _ ?_⟩⟩, fun q12 => ⟨vin (by omega) (by omega), go _ ?_⟩⟩, fun q8 => ⟨vin (by omega) (by omega), go _ ?_⟩⟩, fun q4 => ⟨vin (by omega) (by omega), go _ ?_⟩⟩⟩
      · have := (nI_leI (a := 16) (by omega) (by omega)).mp q16
        rw [if_neg (by omega), if_neg (by omega), if_neg (by omega), if_neg (by omega)]
      · have := (nI_leI (a := 12) (by omega) (by omega)).mp q12
        have : ¬ 16 ≤ b := fun z => q16 (nI_le (a := 16) z (by omega))
        rw [if_neg (by omega), if_neg (by omega), if_neg (by omega), if_pos (by omega)]
      · have := (nI_leI (a := 8) (by omega) (by omega)).mp q8
        have : ¬ 12 ≤ b := fun z => q12 (nI_le (a := 12) z (by omega))
        rw [if_neg (by omega), if_neg (by omega), if_pos (by omega)]
      · have := (nI_leI (a := 4) (by omega) (by omega)).mp q4
        have : ¬ 8 ≤ b := fun z => q8 (nI_le (a := 8) z (by omega))
        rw [if_neg (by omega), if_pos (by omega)]
      · have : ¬ 4 ≤ b := fun z => q4 (nI_le (a := 4) z (by omega))
        rw [if_pos (by omega)]
  exact key 20 0 _ (by omega) (by rw [ui_k (by decide)]; exact ht.1) (fun i hi => by rw [ui_r (by decide), ht.2 i hi]; unfold fdT; rw [if_pos (by omega)]) (fun j h1 h2 => ui_k h2) (by rw [ui_s]) (Same.rf.ui ⟨Or.inl rfl, rfl⟩)
end Feed
