/-! image, restore -/
def is1 (a : Int32) : Prop := 0 ≤ a.toInt ∧ a.toInt ≤ 1
/-- what an image's making changes -/
def imS (i : Nat) : Nat → Nat → Prop := fun r a => rdS (2 + i) r a ∨ stS (19 + i) r a ∨ (r = 15 ∧ a = 0)
/-- what going on from an image changes -/
def reS : Nat → Nat → Prop := fun r a => rdS 0 r a ∨ cdS r a ∨ rgS r a ∨ (r = 325 ∧ a = 0)
theorem rd_st {k i r : Nat} (h1 : 256 ≤ r) (h2 : r ≤ 259) : ¬ rdS k r i := fun q => by have := q.2.1; omega
theorem MRo_cg2 {f f' : Nat → Int32} {R : RD} (hR : WF R) (h : MRo f R) (e : ∀ j, j < 1184 → j ≠ 82 → f' j = f j) : MRo f' R := MRo_c2 (f := fun j => if j = 82 then f' 82 else f j) hR (MRo_cg hR h (fun j hj => by show (if j = 82 then _ else _) = _; rw [if_neg (by omega)])) (fun j hj => by
  show f' j = if j = 82 then _ else _
  by_cases y : j = 82
  · rw [if_pos y, y]
  · rw [if_neg y]; exact e j hj y)
section Img2
variable {d : Nat} {I : MI} {L : ML} {R : RD} {s : SA} {P : List SA}
theorem CoC_off {S : Nat → Nat → Prop} {I' : MI} (hc : CoC I R s P) (hS : Same S I I') (h1 : ∀ r, 128 ≤ r → r ≤ 135 → ¬ S r 0) (h2 : ∀ r a, 256 ≤ r → r ≤ 259 → a < 19 → ¬ S r a) (h3 : ∀ r, 320 ≤ r → r ≤ 328 → ¬ S r 0) (h4 : ¬ S 576 0) : CoC I' R s P := by
  refine ⟨hc.1.same hS h1, hc.2.1.same hS (h2 _ _ (by omega) (by omega) (by omega)) (h2 _ _ (by omega) (by omega) (by omega)) (h2 _ _ (by omega) (by omega) (by omega)) (h2 _ _ (by omega) (by omega) (by omega)), ?_, hc.2.2.2.same hS h4 (fun r a x y _ z => h2 r a x y z)⟩
  have n : ∀ r, 320 ≤ r → r ≤ 328 → I' r 0 = I r 0 := fun r x y => hS r 0 (h3 r x y)
  have h := hc.2.2.1
  have e8 : I' 320 0 8 = I 320 0 8 := by rw [n 320 (by omega) (by omega)]
  have ek : knA I' R := fun w hw k hk => by rw [n 328 (by omega) (by omega)]; exact h.2.2.2 w hw k hk
  exact GoA_of h (n 325 (by omega) (by omega)) (fun c _ _ => by rw [n 326 (by omega) (by omega)]) e8 (n 323 (by omega) (by omega)) (n 324 (by omega) (by omega)) ek
theorem w_image {a : Int32} {K : Int32 → MI → ML → Prop} (hd : 2 ≤ d) (hO : CoO R s P) (hc : CoC I R s P) (h2 : ¬ is1 a → K (-2) I L) (h1 : ∀ i, i < 2 → a = nI i → ∀ I', ImC I' i (some (R, s)) → CoC I' R s P → Same (imS i) I I' → (∀ j, j ≠ i → I' 15 0 j = I 15 0 j) → K 0 I' L) : CI d m_W_image [vR 0 0, vI a] I L K := by
  have z0 : (0 : Int32).toInt = 0 := rfl
  have z2 : (2 : Int32).toInt = 2 := rfl
  refine toCI (n := 1) hd (r_W_image_0 ⟨fun q => ⟨_, rfl, h2 (fun z => ?_)⟩, fun q => ⟨fun q2 => ?_, fun q2 => ⟨_, rfl, h2 (fun z => ?_)⟩⟩⟩)
  · have := Int32.lt_iff_toInt_lt.mp q; have := z.1; omega
  · have a1 := Int32.le_iff_toInt_le.mp (Int32.not_lt.mp q)
    have a2 := Int32.lt_iff_toInt_lt.mp q2
    have e1 := ge_nI (a := a) (by omega)
    have b1 : a.toInt.toNat < 2 := by omega
    have fin := h1 _ b1 e1
    clear q q2 h1 h2 a1 a2
    generalize a.toInt.toNat = i at *
    subst e1
    have e11 : (1 : Int32) &&& 1 = 1 := by decide
    rw [cl_n (by omega), e11]
    refine ⟨vin b1 (by omega), c_Road_copy (by omega) (by omega) hO.1 hc.1 (fun I1 hA1 hS1 _ => ⟨vin b1 (by omega), ?_⟩)⟩
    have hs0 : StA I1 0 s := hc.2.1.same hS1 (rd_st (by omega) (by omega)) (rd_st (by omega) (by omega)) (rd_st (by omega) (by omega)) (rd_st (by omega) (by omega))
    refine c_St_copy (by omega) (by omega) hs0 (fun I2 hs2 hS2 => ⟨vin b1 (by omega), _, rfl, ?_⟩)
    have hS : Same (imS i) I (ui I2 15 0 i 1) := ((hS1.mono (fun _ _ q => Or.inl q)).tr (hS2.mono (fun _ _ q => Or.inr (Or.inl q)))).ui (Or.inr (Or.inr ⟨rfl, rfl⟩))
    have n15 : ∀ r b, r ≠ 15 → ui I2 15 0 i 1 r b = I2 r b := fun r b hr => ui_off (fun z => hr z.1)
    refine fin _ ⟨by rw [ui_s], ?_, ?_⟩ ?_ hS (fun j hj => ?_)
    · have : RoadA I2 (2 + i) R := hA1.same hS2 (fun r h1 h2 q => by rcases q.1 with y | y | y | y <;> omega)
      exact this.same (S := fun r b => r = 15 ∧ b = 0) (Same.rf.ui ⟨rfl, rfl⟩) (fun r h1 h2 q => by have := q.1; omega)
    · exact hs2.same (S := fun r b => r = 15 ∧ b = 0) (Same.rf.ui ⟨rfl, rfl⟩) (fun q => by have := q.1; omega) (fun q => by have := q.1; omega) (fun q => by have := q.1; omega) (fun q => by have := q.1; omega)
    · refine CoC_off hc hS (fun r x y q => ?_) (fun r b x y z q => ?_) (fun r x y q => ?_) (fun q => ?_)
      · rcases q with q | q | q
        · have := q.2.2; omega
        · rcases q.1 with y | y | y | y <;> omega
        · omega
      · rcases q with q | q | q
        · have := q.2.1; omega
        · have := q.2; omega
        · omega
      · rcases q with q | q | q
        · have := q.2.1; omega
        · rcases q.1 with y | y | y | y <;> omega
        · omega
      · rcases q with q | q | q
        · have := q.2.1; omega
        · rcases q.1 with y | y | y | y <;> omega
        · omega
    · rw [ui_k hj, hS2 15 0 (fun q => by rcases q.1 with y | y | y | y <;> omega), hS1 15 0 (fun q => by have := q.1; omega)]
  · have := Int32.le_iff_toInt_le.mp (Int32.not_lt.mp q2); have := z.2; omega
theorem w_restore {T : Nat → IA} {a : Int32} {K : Int32 → MI → ML → Prop} (hd : 11 ≤ d) (hc : ∃ e, e < 10 ∧ I 576 0 1 = nI e) (hI : ∀ i, i < 2 → ImC I i (T i) ∧ ImO (T i)) (h2 : ¬ is1 a → K (-2) I L) (h5 : ∀ i, i < 2 → a = nI i → T i = none → K (-5) I L) (h1 : ∀ i x, i < 2 → a = nI i → T i = some x → ∀ I', CoC I' x.1 x.2 [] → RgA I' x.1 → Same reS I I' → K 0 I' L) : CI d m_W_restore [vR 0 0, vI a] I L K := by
  have z0 : (0 : Int32).toInt = 0 := rfl
  have z2 : (2 : Int32).toInt = 2 := rfl
  refine toCI (n := 10) hd (r_W_restore_0 ⟨fun q => ⟨_, rfl, h2 (fun z => ?_)⟩, fun q => ⟨fun q2 => ?_, fun q2 => ⟨_, rfl, h2 (fun z => ?_)⟩⟩⟩)
  · have := Int32.lt_iff_toInt_lt.mp q; have := z.1; omega
  · have a1 := Int32.le_iff_toInt_le.mp (Int32.not_lt.mp q)
    have a2 := Int32.lt_iff_toInt_lt.mp q2
    have e1 := ge_nI (a := a) (by omega)
    have b1 : a.toInt.toNat < 2 := by omega
    have f5 := h5 _ b1 e1
    have f1 := fun x => h1 _ x b1 e1
    obtain ⟨hC, hO⟩ := hI _ b1
    clear q q2 h1 h2 h5 a1 a2
    generalize a.toInt.toNat = i at *
    subst e1
    rw [cl_n (by omega)]
    refine ⟨vin b1 (by omega), ?_⟩
    cases e : T i with
    | none =>
      rw [e] at hC
      have hC : I 15 0 i = 0 := hC
      rw [hC]
      exact ⟨fun q => absurd rfl q, fun _ => ⟨_, rfl, f5 e⟩⟩
    | some x =>
      rw [e] at hC hO
      obtain ⟨c1, c2, c3⟩ := hC
      have hR := hO.1
      rw [c1]
      refine ⟨fun _ => ⟨vin b1 (by omega), c_Road_copy (by omega) (by omega) hR c2 (fun I1 hA1 hS1 _ => ⟨vin b1 (by omega), ?_⟩)⟩, fun q => absurd (by decide) q⟩
      have hs1 : StA I1 (19 + i) x.2 := c3.same hS1 (rd_st (by omega) (by omega)) (rd_st (by omega) (by omega)) (rd_st (by omega) (by omega)) (rd_st (by omega) (by omega))
      refine c_St_copy (by omega) (by omega) hs1 (fun I2 hs2 hS2 => ?_)
      have hA2 : RoadA I2 0 x.1 := hA1.same hS2 (fun r h1 h2 q => by rcases q.1 with y | y | y | y <;> omega)
      have he : ∃ e, e < 10 ∧ I2 576 0 1 = nI e := by
        obtain ⟨e, he, h6⟩ := hc
        refine ⟨e, he, ?_⟩
        rw [hS2 576 0 (fun q => by rcases q.1 with y | y | y | y <;> omega), hS1 576 0 (fun q => by have := q.2.1; omega)]
        exact h6
      refine toCV (n := 9) (by omega) (r_W_setOutAnew_0 (c_Pa_forget (by omega) he (fun I3 hP3 hS3 => ?_)))
      have hA3 : RoadA I3 0 x.1 := hA2.same hS3 (fun r h1 h2 => paS_road h1 h2)
      have hs3 : StA I3 0 x.2 := hs2.same hS3 (fun q => by rcases q with y | y <;> omega) (fun q => by rcases q with y | y <;> omega) (fun q => by rcases q with y | y <;> omega) (fun q => by rcases q with y | y <;> omega)
      refine c_Go_forget (by omega) hR hA3 (fun I4 hG4 hS4 => ?_)
      have hA4 : RoadA I4 0 x.1 := hA3.same hS4 (fun r h1 h2 q => by rcases q.1 with y | y | y | y <;> omega)
      have hs4 : StA I4 0 x.2 := hs3.same hS4 (fun q => by rcases q.1 with y | y | y | y <;> omega) (fun q => by rcases q.1 with y | y | y | y <;> omega) (fun q => by rcases q.1 with y | y | y | y <;> omega) (fun q => by rcases q.1 with y | y | y | y <;> omega)
      have hP4 : PaA I4 [] := hP3.same hS4 (fun q => by rcases q.1 with y | y | y | y <;> omega) (fun r a x y _ _ q => by rcases q.1 with y | y | y | y <;> omega)
      refine c_Rg_find (by omega) hR hA4 (fun I5 hr5 hS5 => ⟨rfl, _, rfl, ?_⟩)
      have hc5 : CoC I5 x.1 x.2 [] := CoC_off ⟨hA4, hs4, hG4, hP4⟩ hS5 (fun r x y => rg_road x y) (fun r b x y _ q => by rcases q.1 with z | z <;> omega) (fun r x y q => by rcases q.1 with z | z <;> omega) (fun q => by rcases q.1 with z | z <;> omega)
      refine f1 x e I5 hc5 hr5 ?_
      refine (((hS1.mono (fun _ _ q => Or.inl q)).tr (hS2.mono (fun r b q => Or.inr (Or.inl (Or.inl ⟨q.1, by have := q.2; omega⟩))))).tr (hS3.mono (fun r b q => Or.inr (Or.inl ?_)))).tr ((hS4.mono (fun r b q => ?_)).tr (hS5.mono (fun _ _ q => Or.inr (Or.inr (Or.inl q)))))
      · rcases q with q | q
        · exact Or.inr (Or.inr q)
        · exact Or.inl ⟨q.1, by omega⟩
      · rcases q.1 with y | y | y | y
        · exact Or.inr (Or.inl (Or.inr (Or.inl ⟨by simp [y], q.2⟩)))
        · exact Or.inr (Or.inr (Or.inr ⟨y, q.2⟩))
        · exact Or.inr (Or.inl (Or.inr (Or.inl ⟨by simp [y], q.2⟩)))
        · exact Or.inr (Or.inl (Or.inr (Or.inl ⟨by simp [y], q.2⟩)))
  · have := Int32.le_iff_toInt_le.mp (Int32.not_lt.mp q2); have := z.2; omega
def miF (I I' : MI) : Prop := (∀ r a, r ≠ 704 → r ≠ 706 → r ≠ 707 → I' r a = I r a) ∧ (∀ j, j ≠ 0 → I' 704 0 j = I 704 0 j) ∧ I' 704 0 0 = 0
theorem m_image {a : Int32} {K : Int32 → MI → ML → Prop} (hd : 2 ≤ d) (hO : CoO R s P) (hc : CoM I R s P) (h2 : ¬ is1 a → K (-2) (ui I 704 0 0 0) L) (h1 : ∀ i, i < 2 → a = nI i → ∀ I', ImM I' i (some (R, s)) → CoM I' R s P → (∀ j, j < 1184 * (i + 1) ∨ 1184 * (i + 2) ≤ j → I' 706 0 j = I 706 0 j) → (∀ j, j ≠ i → I' 707 0 j = I 707 0 j) → miF I I' → K 0 I' L) : CI d m_M_image [vR 704 0, vI a] I L K := by
  have hR := hO.1
  have ea := Int32.toInt_toInt64 a
  have o0 : (0 : Int64).toInt = 0 := rfl
  have o1 : (1 : Int64).toInt = 1 := rfl
  refine toCI (n := 1) hd (r_M_image_0 (c_M_within (by omega) (fun g1 g2 => ⟨fun _ => ?_, fun q => absurd (by decide) q⟩) (fun g => ⟨fun q => absurd rfl q, fun _ => ⟨_, rfl, h2 (fun z => g (by rw [ea, o0, o1]; exact z))⟩⟩)))
  rw [ea, o0] at g1
  rw [ea, o1] at g2
  have e1 := ge_nI g1
  have b1 : a.toInt.toNat < 2 := by omega
  have fin := h1 _ b1 e1
  clear g1 g2 h1 h2 ea
  generalize a.toInt.toNat = i at *
  subst e1
  have key : ∀ (f k : Nat) (J : MI), k + f = 1184 → (∀ j, j < k → J 706 0 (1184 * (i + 1) + j) = I 706 0 j) → (∀ j, j < 1184 * (i + 1) ∨ 1184 * (i + 2) ≤ j → J 706 0 j = I 706 0 j) → (∀ r a, r ≠ 704 → r ≠ 706 → J r a = I r a) → (∀ j, j ≠ 0 → J 704 0 j = I 704 0 j) → J 704 0 0 = 0 → XX (1 + 1) m_M_image (fun r I' L' => ∃ x, r = some (vI x) ∧ K x I' L') 20 [vR 704 0, vI (nI i), vI (nI k)] [] J L := by
    intro f
    induction f with
    | zero =>
      intro k J hk hj ho hr hs ht
      have ek : k = 1184 := by omega
      subst ek
      have e11 : (1 : Int32) &&& 1 = 1 := by decide
      refine r_M_image_20 ?_
      rw [cl_n (j := i) (by omega), e11]
      refine ⟨fun _ => ⟨vin b1 (by omega), _, rfl, ?_⟩, fun q => absurd (by decide) q⟩
      have n6 : ui J 707 0 i 1 706 0 = J 706 0 := ui_off (by decide)
      refine fin _ ⟨by rw [ui_s], ?_, ?_⟩ ?_ (fun j hj => by rw [n6]; exact ho j hj) (fun j hj => by rw [ui_k hj, hr 707 0 (by decide) (by decide)]) ⟨fun r b h1 h2 h3 => by rw [ui_off (fun z => h3 z.1)]; exact hr r b h1 h2, fun j hj => by rw [ui_r (by decide)]; exact hs j hj, by rw [ui_r (by decide)]; exact ht⟩
      · rw [n6]; exact MRo_c2 hR hc.1 (fun j hj' => hj j hj')
      · rw [n6]; exact MSt_cg hc.2.1 (fun j _ hj' => hj j (by omega))
      · have e6 : ∀ j, j < 1184 → ui J 707 0 i 1 706 0 j = I 706 0 j := fun j hj => by rw [n6]; exact ho j (by omega)
        exact ⟨MRo_c2 hR hc.1 e6, MSt_cg hc.2.1 (fun j _ hj' => e6 j (by omega)), MPa_cg hc.2.2 (fun j _ hj' => e6 j (by omega))⟩
    | succ f ih =>
      intro k J hk hj ho hr hs ht
      have eix : (1184 : Int32) * (nI i + (1 : Int32)) + nI k = nI (1184 * (i + 1) + k) := by
        have x1 : (1184 : Int32) * nI (i + 1) = nI (1184 * (i + 1)) := pk_mul 1184 (i + 1)
        rw [nI_1, x1, nI_add]
      refine r_M_image_20 ?_
      rw [eix, cl_n (j := k) (by omega), cl_n (j := 1184 * (i + 1) + k) (by omega), ho k (by omega), nI_1 (a := k)]
      refine ⟨fun q => absurd q (nle_c (m := 1184) (by omega) (by omega)), fun _ => ⟨vin (by omega) (by omega), vin (by omega) (by omega), ih (k + 1) _ (by omega) (fun j hj' => ?_) (fun j hj' => ?_) (fun r b h1 h2 => by rw [ui_off (fun z => h2 z.1)]; exact hr r b h1 h2) (fun j hj' => by rw [ui_r (by decide)]; exact hs j hj') (by rw [ui_r (by decide)]; exact ht)⟩⟩
      · by_cases y : j = k
        · rw [y, ui_s]
        · rw [ui_k (by omega)]; exact hj j (by omega)
      · rw [ui_k (by omega)]; exact ho j hj'
  exact key 1184 0 _ (by omega) (fun j hj => by omega) (fun j _ => by rw [ui_r (by decide)]) (fun r b h1 _ => ui_off (fun z => h1 z.1)) (fun j hj => ui_k hj) (by rw [ui_s])
theorem m_restore {T : Nat → IA} {a : Int32} {K : Int32 → MI → ML → Prop} (hd : 2 ≤ d) (hI : ∀ i, i < 2 → ImM I i (T i) ∧ ImO (T i)) (h2 : ¬ is1 a → K (-2) (ui I 704 0 0 0) L) (h5 : ∀ i, i < 2 → a = nI i → T i = none → K (-5) (ui I 704 0 0 0) L) (h1 : ∀ i x, i < 2 → a = nI i → T i = some x → ∀ I', CoM I' x.1 x.2 [] → (∀ j, 1184 ≤ j → I' 706 0 j = I 706 0 j) → I' 707 0 = I 707 0 → miF I I' → K 0 I' L) : CI d m_M_restore [vR 704 0, vI a] I L K := by
  have ea := Int32.toInt_toInt64 a
  have o0 : (0 : Int64).toInt = 0 := rfl
  have o1 : (1 : Int64).toInt = 1 := rfl
  refine toCI (n := 1) hd (r_M_restore_0 (c_M_within (by omega) (fun g1 g2 => ⟨fun _ => ?_, fun q => absurd (by decide) q⟩) (fun g => ⟨fun q => absurd rfl q, fun _ => ⟨_, rfl, h2 (fun z => g (by rw [ea, o0, o1]; exact z))⟩⟩)))
  rw [ea, o0] at g1
  rw [ea, o1] at g2
  have e1 := ge_nI g1
  have b1 : a.toInt.toNat < 2 := by omega
  have f5 := h5 _ b1 e1
  have f1 := fun x => h1 _ x b1 e1
  obtain ⟨hC, hO⟩ := hI _ b1
  clear g1 g2 h1 h2 h5 ea
  generalize a.toInt.toNat = i at *
  subst e1
  rw [cl_n (by omega), ui_r (show (707 : Nat) ≠ 704 by decide)]
  refine ⟨vin b1 (by omega), ?_⟩
  cases e : T i with
  | none =>
    rw [e] at hC
    have hC : I 707 0 i = 0 := hC
    rw [hC]
    exact ⟨fun q => absurd rfl q, fun _ => ⟨_, rfl, f5 e⟩⟩
  | some x =>
    rw [e] at hC hO
    obtain ⟨c1, c2, c3⟩ := hC
    have hR := hO.1
    rw [c1]
    refine ⟨fun _ => ?_, fun q => absurd (by decide) q⟩
    have key : ∀ (f k : Nat) (J : MI), k + f = 1184 → (∀ j, j < k → J 706 0 j = I 706 0 (1184 * (i + 1) + j)) → (∀ j, 1184 ≤ j → J 706 0 j = I 706 0 j) → (∀ r a, r ≠ 704 → r ≠ 706 → J r a = I r a) → (∀ j, j ≠ 0 → J 704 0 j = I 704 0 j) → J 704 0 0 = 0 → XX (1 + 1) m_M_restore (fun r I' L' => ∃ x, r = some (vI x) ∧ K x I' L') 32 [vR 704 0, vI (nI i), vI (nI k)] [] J L := by
      intro f
      induction f with
      | zero =>
        intro k J hk hj ho hr hs ht
        have ek : k = 1184 := by omega
        subst ek
        refine r_M_restore_32 ⟨fun _ => ⟨_, rfl, ?_⟩, fun q => absurd (by decide) q⟩
        have e6 : ∀ j, j < 1184 → j ≠ 82 → ui J 706 0 82 0 706 0 j = shf (I 706 0) i j := fun j hj' hn => by rw [ui_k hn]; exact hj j hj'
        refine f1 x e _ ⟨MRo_cg2 hR c2 e6, MSt_cg c3 (fun j _ hj' => e6 j (by omega) (by omega)), by simp, by rw [ui_s]; rfl, fun k hk => absurd hk (by simp)⟩ (fun j hj' => by rw [ui_k (by omega)]; exact ho j hj') (by rw [ui_off (by decide), hr 707 0 (by decide) (by decide)]) ⟨fun r b h1 h2 _ => by rw [ui_off (fun z => h2 z.1)]; exact hr r b h1 h2, fun j hj' => by rw [ui_r (by decide)]; exact hs j hj', by rw [ui_r (by decide)]; exact ht⟩
      | succ f ih =>
        intro k J hk hj ho hr hs ht
        have eix : (1184 : Int32) * (nI i + (1 : Int32)) + nI k = nI (1184 * (i + 1) + k) := by
          have x1 : (1184 : Int32) * nI (i + 1) = nI (1184 * (i + 1)) := pk_mul 1184 (i + 1)
          rw [nI_1, x1, nI_add]
        refine r_M_restore_32 ?_
        rw [eix, cl_n (j := k) (by omega), cl_n (j := 1184 * (i + 1) + k) (by omega), ho _ (by omega), nI_1 (a := k)]
        refine ⟨fun q => absurd q (nle_c (m := 1184) (by omega) (by omega)), fun _ => ⟨vin (by omega) (by omega), vin (by omega) (by omega), ih (k + 1) _ (by omega) (fun j hj' => ?_) (fun j hj' => ?_) (fun r b h1 h2 => by rw [ui_off (fun z => h2 z.1)]; exact hr r b h1 h2) (fun j hj' => by rw [ui_r (by decide)]; exact hs j hj') (by rw [ui_r (by decide)]; exact ht)⟩⟩
        · by_cases y : j = k
          · rw [y, ui_s]
          · rw [ui_k (by omega)]; exact hj j (by omega)
        · rw [ui_k (by omega)]; exact ho j hj'
    exact key 1184 0 _ (by omega) (fun j hj => by omega) (fun j _ => by rw [ui_r (by decide)]) (fun r b h1 _ => ui_off (fun z => h1 z.1)) (fun j hj => ui_k hj) (by rw [ui_s])
end Img2
