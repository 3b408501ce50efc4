/-! numbers, write -/
def upT (T : Nat → TA) (a : Nat) (t : TA) : Nat → TA := fun i => if i = a then t else T i
def ctO (so : Nat) (v : Int64) : Int64 := if so = 0 then ((v.toInt32).toInt8.toInt32).toInt64 else if so = 1 then ((v.toInt32).toInt16.toInt32).toInt64 else if so = 2 then (v.toInt32).toInt64 else v
def tsC (I : MI) (L : ML) (T : Nat → TA) : Prop := ∀ i, i < 4 → tOk (T i) ∧ TrC I L i (T i)
def tsM (I : MI) (L : ML) (T : Nat → TA) : Prop := ∀ i, i < 4 → tOk (T i) ∧ TrM I L i (T i)
def tcF (I : MI) (L : ML) (I' : MI) (L' : ML) : Prop := Same (fun r _ => r = 640) I I' ∧ ∀ r a, r ≠ 641 → L' r a = L r a
def tmF (I : MI) (L : ML) (I' : MI) (L' : ML) : Prop := Same (fun r a => (r = 704 ∨ r = 742 ∨ r = 743) ∧ a = 0) I I' ∧ (∀ j, j ≠ 0 → I' 704 0 j = I 704 0 j) ∧ I' 704 0 0 = 0 ∧ ∀ r a, r ≠ 744 → L' r a = L r a
theorem ul_s {L : ML} {r i k : Nat} {x : Int64} : ul L r i k x r i k = x := by simp [ul]
theorem ul_k {L : ML} {r i k j : Nat} {x : Int64} (h : j ≠ k) : ul L r i k x r i j = L r i j := by simp [ul, h]
theorem ul_o {L : ML} {r i k a b : Nat} {x : Int64} (h : ¬ (a = r ∧ b = i)) : ul L r i k x a b = L a b := by
  funext j
  simp only [ul]
  by_cases h1 : a = r
  · by_cases h2 : b = i
    · exact absurd ⟨h1, h2⟩ h
    · simp [h2]
  · simp [h1]
def wrT (x : Nat × Nat × (Nat → Int64)) (i : Nat) (v : Int64) : TA := some (x.1, x.2.1, fun k => if k = i then v else x.2.2 k)
section Wr
variable {d : Nat} {I : MI} {L : ML} {T : Nat → TA}
theorem w_numbers {a b n : Int32} {K : Int32 → MI → ML → Prop} (hd : 3 ≤ d) (hT : tsC I L T) (h2 : ¬ (is3 a ∧ is3 b) → K (-2) I L) (h3 : is3 a → is3 b → ¬ (0 ≤ n.toInt ∧ n.toInt ≤ 40) → K (-3) I L) (h1 : is3 a → is3 b → 0 ≤ n.toInt → n.toInt ≤ 40 → ∀ I' L', tsC I' L' (upT T a.toInt.toNat (some (b.toInt.toNat, n.toInt.toNat, fun _ => 0))) → tcF I L I' L' → K 0 I' L') : CI d m_W_numbers [vR 0 0, vI a, vI b, vI n] I L K := by
  have z0 : (0 : Int32).toInt = 0 := rfl
  have z3 : (3 : Int32).toInt = 3 := rfl
  have z40 : (40 : Int32).toInt = 40 := rfl
  refine toCI (n := 2) hd (r_W_numbers_0 (c_W_trayAt (by omega) (fun g => ⟨_, rfl, h2 (fun z => g z.1)⟩) (fun g1 g2 => ⟨fun q => ⟨_, rfl, h2 (fun z => ?_)⟩, fun q => ⟨fun q2 => ⟨fun q3 => ⟨_, rfl, h3 ⟨g1, g2⟩ ?_ (fun z => ?_)⟩, fun q3 => ⟨fun q4 => ?_, fun q4 => ⟨_, rfl, h3 ⟨g1, g2⟩ ?_ (fun z => ?_)⟩⟩⟩, fun q2 => ⟨_, rfl, h2 (fun z => ?_)⟩⟩⟩)))
  · have := Int32.lt_iff_toInt_lt.mp q; have := z.2.1; omega
  · have a1 := Int32.le_iff_toInt_le.mp (Int32.not_lt.mp q); have a2 := Int32.le_iff_toInt_le.mp q2; exact ⟨by omega, by omega⟩
  · have := Int32.lt_iff_toInt_lt.mp q3; omega
  · have a1 := Int32.le_iff_toInt_le.mp (Int32.not_lt.mp q)
    have a2 := Int32.le_iff_toInt_le.mp q2
    have a3 := Int32.le_iff_toInt_le.mp (Int32.not_lt.mp q3)
    have a4 := Int32.le_iff_toInt_le.mp q4
    have eb := ge_nI (a := b) (by omega)
    have en := ge_nI (a := n) (by omega)
    refine toCV (n := 1) (by omega) (r_Tr_renew_0 (c_fillT (by omega) (fun L' hv ho => ⟨rfl, _, rfl, ?_⟩)))
    refine h1 ⟨g1, g2⟩ ⟨by omega, by omega⟩ (by omega) (by omega) _ L' (fun i hi => ?_) ⟨Same.ui (S := fun r _ => r = 640) (Same.ui (S := fun r _ => r = 640) Same.rf rfl) rfl, fun r x hr => ho r x (fun q => hr q.1)⟩
    unfold upT
    by_cases e : i = a.toInt.toNat
    · rw [if_pos e, e]
      refine ⟨⟨by show b.toInt.toNat ≤ 3; omega, by show n.toInt.toNat ≤ 40; omega⟩, ?_, ?_, fun k hk => hv k (by have : k < n.toInt.toNat := hk; omega)⟩
      · rw [ui_k (by decide), ui_s]; exact eb
      · rw [ui_s]; exact en
    · rw [if_neg e]
      refine ⟨(hT i hi).1, ?_⟩
      have nI' : ∀ J : MI, ∀ k x, ui J 640 a.toInt.toNat k x 640 i = J 640 i := fun J k x => ui_off (fun q => e q.2)
      have nL : L' 641 i = L 641 i := ho 641 i (fun q => e q.2)
      have hTr := (hT i hi).2
      unfold TrC at hTr ⊢
      rw [nI', nI', nL]
      exact hTr
  · have a1 := Int32.le_iff_toInt_le.mp (Int32.not_lt.mp q); have a2 := Int32.le_iff_toInt_le.mp q2; exact ⟨by omega, by omega⟩
  · have := Int32.lt_iff_toInt_lt.mp (Int32.not_le.mp q4); omega
  · have := Int32.lt_iff_toInt_lt.mp (Int32.not_le.mp q2); have := z.2.2; omega
theorem m_numbers {a b n : Int32} {K : Int32 → MI → ML → Prop} (hd : 2 ≤ d) (hT : tsM I L T) (h2 : ¬ (is3 a ∧ is3 b) → K (-2) (ui I 704 0 0 0) L) (h3 : is3 a → is3 b → ¬ (0 ≤ n.toInt ∧ n.toInt ≤ 40) → K (-3) (ui I 704 0 0 0) L) (h1 : is3 a → is3 b → 0 ≤ n.toInt → n.toInt ≤ 40 → ∀ I' L', tsM I' L' (upT T a.toInt.toNat (some (b.toInt.toNat, n.toInt.toNat, fun _ => 0))) → tmF I L I' L' → K 0 I' L') : CI d m_M_numbers [vR 704 0, vI a, vI b, vI n] I L K := by
  have ea := Int32.toInt_toInt64 a
  have eb := Int32.toInt_toInt64 b
  have en := Int32.toInt_toInt64 n
  have c0 : (0 : Int64).toInt = 0 := rfl
  have c3 : (3 : Int64).toInt = 3 := rfl
  have c40 : (40 : Int64).toInt = 40 := rfl
  refine toCI (n := 1) hd (r_M_numbers_0 (c_M_within (by omega) (fun g1 g2 => ⟨fun q => absurd q (by decide), fun _ => ?_⟩) (fun g => ⟨fun _ => ⟨_, rfl, h2 (fun z => g (by rw [ea, c0, c3]; exact z.1))⟩, fun q => absurd rfl q⟩)))
  rw [ea, c0] at g1
  rw [ea, c3] at g2
  refine c_M_within (by omega) (fun g3 g4 => ⟨fun _ => ?_, fun q => absurd (by decide) q⟩) (fun g => ⟨fun q => absurd rfl q, fun _ => ⟨_, rfl, h2 (fun z => g (by rw [eb, c0, c3]; exact z.2))⟩⟩)
  rw [eb, c0] at g3
  rw [eb, c3] at g4
  refine c_M_within (by omega) (fun g5 g6 => ⟨fun _ => ?_, fun q => absurd (by decide) q⟩) (fun g => ⟨fun q => absurd rfl q, fun _ => ⟨_, rfl, h3 ⟨g1, g2⟩ ⟨g3, g4⟩ (fun z => g (by rw [en, c0, c40]; exact z))⟩⟩)
  rw [en, c0] at g5
  rw [en, c40] at g6
  have fin := h1 ⟨g1, g2⟩ ⟨g3, g4⟩ g5 g6
  have e1 := ge_nI g1
  have e2 := ge_nI g3
  have e3 := ge_nI g5
  have b1 : a.toInt.toNat < 4 := by omega
  have b2 : b.toInt.toNat ≤ 3 := by omega
  have b3 : n.toInt.toNat ≤ 40 := by omega
  clear g1 g2 g3 g4 g5 g6 h1 h2 h3 ea eb en
  generalize a.toInt.toNat = a' at *
  generalize b.toInt.toNat = b' at *
  generalize n.toInt.toNat = n' at *
  subst e1 e2 e3
  rw [cl_n (by omega)]
  refine ⟨vin b1 (by omega), vin b1 (by omega), ?_⟩
  have key : ∀ (l k : Nat) (M : ML), k + l = n' → (∀ j, j < k → M 744 0 (40 * a' + j) = 0) → (∀ r i, r ≠ 744 → M r i = L r i) → (∀ j, ¬ (40 * a' ≤ j ∧ j < 40 * a' + 40) → M 744 0 j = L 744 0 j) → XX (1 + 1) m_M_numbers (fun r I' L' => ∃ x, r = some (vI x) ∧ K x I' L') 64 [vR 704 0, vI (nI a'), vD, vI (nI n'), vI (nI k)] [] (ui (ui (ui I 704 0 0 0) 742 0 a' (nI b')) 743 0 a' (nI n')) M := by
    intro l
    induction l with
    | zero =>
      intro k M hk hz ho hi
      refine r_M_numbers_64 ⟨fun _ => ⟨_, rfl, ?_⟩, fun q => absurd (nI_le (show n' ≤ k by omega) (by omega)) q⟩
      refine fin _ M (fun i hi4 => ?_) ⟨((Same.rf.ui ⟨Or.inl rfl, rfl⟩).ui ⟨Or.inr (Or.inl rfl), rfl⟩).ui ⟨Or.inr (Or.inr rfl), rfl⟩, fun j hj => by rw [ui_r (by decide), ui_r (by decide), ui_k hj], by rw [ui_r (by decide), ui_r (by decide), ui_s], ho⟩
      unfold upT
      by_cases e : i = a'
      · subst e
        rw [if_pos rfl]
        exact ⟨⟨b2, b3⟩, by rw [ui_r (by decide), ui_s], by rw [ui_s], fun j hj => hz j (by have : j < n' := hj; omega)⟩
      · rw [if_neg e]
        refine ⟨(hT i hi4).1, ?_⟩
        have hTr := (hT i hi4).2
        have hok := (hT i hi4).1
        revert hTr hok
        cases T i with
        | none =>
          intro hTr _
          show (ui (ui (ui I 704 0 0 0) 742 0 a' (nI b')) 743 0 a' (nI n')) 742 0 i = -1
          rw [ui_r (by decide), ui_k e, ui_r (by decide)]; exact hTr
        | some x =>
          intro hTr hok
          have hx : x.2.1 ≤ 40 := hok.2
          refine ⟨?_, ?_, fun j hj => ?_⟩
          · rw [ui_r (by decide), ui_k e, ui_r (by decide)]; exact hTr.1
          · rw [ui_k e, ui_r (by decide), ui_r (by decide)]; exact hTr.2.1
          · rw [hi _ (by omega)]; exact hTr.2.2 j hj
    | succ l ih =>
      intro k M hk hz ho hi
      have eix : ((40 : Int32) * nI a') + nI k = nI (40 * a' + k) := by
        have x1 : (40 : Int32) * nI a' = nI (40 * a') := pk_mul 40 a'
        rw [x1, nI_add]
      refine r_M_numbers_64 ?_
      rw [eix, cl_n (by omega), nI_1]
      refine ⟨fun q => absurd q (nI_ge (show k < n' by omega) (by omega)), fun _ => ⟨vin (by omega) (by omega), ih (k + 1) _ (by omega) (fun j hj => ?_) (fun r i hr => ?_) (fun j hj => ?_)⟩⟩
      · by_cases e : j = k
        · subst e; rw [ul_s]
        · rw [ul_k (by omega)]; exact hz j (by omega)
      · rw [ul_o (fun q => hr q.1)]; exact ho r i hr
      · rw [ul_k (by omega)]; exact hi j hj
  exact key n' 0 L (by omega) (fun j hj => by omega) (fun _ _ _ => rfl) (fun _ _ => rfl)
theorem c_Tr_cut {so j : Nat} {v : Int64} {K : Int64 → MI → ML → Prop} (hd : 1 ≤ d) (hso : so ≤ 3) (e : I 640 j 1 = nI so) (h : K (ctO so v) I L) : CJ d m_Tr_cut [vR 640 j, vL v] I L K := by
  refine toCJ (n := 0) hd (r_Tr_cut_0 ?_)
  rw [e]
  unfold ctO at h
  refine ⟨fun q => ⟨_, rfl, ?_⟩, fun q => ⟨_, rfl, ?_⟩, fun q => ⟨_, rfl, ?_⟩, fun q => ⟨_, rfl, ?_⟩⟩
  · have : so = 0 := (nI_eq (b := 0) (by omega) (by omega)).mp q
    subst this; exact h
  · have : so = 1 := (nI_eq (b := 1) (by omega) (by omega)).mp q
    subst this; exact h
  · have : so = 2 := (nI_eq (b := 2) (by omega) (by omega)).mp q
    subst this; exact h
  · rw [if_neg (fun z => q.1 (by rw [z]; rfl)), if_neg (fun z => q.2.1 (by rw [z]; rfl)), if_neg (fun z => q.2.2 (by rw [z]; rfl))] at h; exact h
theorem c_M_cut {so : Nat} {v : Int64} {K : Int64 → MI → ML → Prop} (hd : 1 ≤ d) (hso : so ≤ 3) (h : K (ctO so v) I L) : CJ d m_M_cut [vL v, vI (nI so)] I L K := by
  refine toCJ (n := 0) hd (r_M_cut_0 ?_)
  unfold ctO at h
  refine ⟨fun q0 => ⟨fun q1 => ⟨fun q2 => ⟨_, rfl, ?_⟩, fun q2 => ⟨_, rfl, ?_⟩⟩, fun q1 => ⟨_, rfl, ?_⟩⟩, fun q0 => ⟨_, rfl, ?_⟩⟩
  · rw [if_neg (fun z => q0 (by rw [z]; rfl)), if_neg (fun z => q1 (by rw [z]; rfl)), if_neg (fun z => q2 (by rw [z]; rfl))] at h; exact h
  · have : so = 2 := (nI_eq (b := 2) (by omega) (by omega)).mp (Classical.not_not.mp q2)
    subst this; exact h
  · have : so = 1 := (nI_eq (b := 1) (by omega) (by omega)).mp (Classical.not_not.mp q1)
    subst this; exact h
  · have : so = 0 := (nI_eq (b := 0) (by omega) (by omega)).mp (Classical.not_not.mp q0)
    subst this; exact h
theorem w_write {a p : Int32} {v : Int64} {K : Int64 → MI → ML → Prop} (hd : 3 ≤ d) (hT : tsC I L T) (h2 : ¬ is3 a → K (-2) I L) (h6 : is3 a → T a.toInt.toNat = none → K (-6) I L) (h7 : ∀ x, is3 a → T a.toInt.toNat = some x → ¬ (0 ≤ p.toInt ∧ p.toInt < x.2.1) → K (-7) I L) (h1 : ∀ x, is3 a → T a.toInt.toNat = some x → 0 ≤ p.toInt → p.toInt < x.2.1 → ∀ I' L', tsC I' L' (upT T a.toInt.toNat (wrT x p.toInt.toNat (ctO x.1 v))) → tcF I L I' L' → K (ctO x.1 v) I' L') : CJ d m_W_write [vR 0 0, vI a, vI p, vL v] I L K := by
  have z0 : (0 : Int32).toInt = 0 := rfl
  refine toCJ (n := 2) hd (r_W_write_0 (c_W_trayAt (by omega) (fun g => ⟨_, rfl, h2 g⟩) (fun g1 g2 => ?_)))
  obtain ⟨ht, hTr⟩ := hT a.toInt.toNat (by omega)
  refine c_Tr_isMissing (by omega) ht hTr (fun e => ⟨fun z => absurd z (by decide), fun _ => ⟨_, rfl, h6 ⟨g1, g2⟩ e⟩⟩) (fun so n f e hso hn => ⟨fun _ => ⟨fun q => ⟨_, rfl, h7 _ ⟨g1, g2⟩ e (fun z => ?_)⟩, fun q => c_Tr_size (by omega) ?_⟩, fun z => absurd rfl z⟩)
  · have := Int32.lt_iff_toInt_lt.mp q; omega
  rw [e] at hTr
  obtain ⟨t1, t2, t3⟩ := hTr
  have t2 : I 640 a.toInt.toNat 2 = nI n := t2
  rw [t2]
  have ez := nI_toInt (n := n) (by omega)
  have a1 := Int32.le_iff_toInt_le.mp (Int32.not_lt.mp q)
  refine ⟨fun q2 => ?_, fun q2 => ⟨_, rfl, h7 _ ⟨g1, g2⟩ e (fun z => ?_)⟩⟩
  · have a2 := Int32.lt_iff_toInt_lt.mp q2
    have fin := h1 _ ⟨g1, g2⟩ e (by omega) (show p.toInt < n by omega)
    have ep := ge_nI (a := p) (by omega)
    have hp : p.toInt.toNat < n := by omega
    clear a1 a2 q q2 h1 h2 h6 h7
    generalize p.toInt.toNat = p' at *
    subst ep
    refine toCV (n := 1) (by omega) (r_Tr_put_0 ⟨fun q => absurd q (nlt0 (by omega)), fun _ => ⟨fun q => absurd q (nle_c (m := 40) (by omega) (by omega)), fun _ => c_Tr_cut (by omega) hso t1 ⟨vin (by omega) (by omega), rfl, ?_⟩⟩⟩)
    rw [cl_n (by omega)]
    refine c_Tr_at (by omega) (by omega) ⟨_, rfl, ?_⟩
    rw [ul_s]
    refine fin I _ (fun i hi => ?_) ⟨Same.rf, fun r x hr => ul_o (fun q => hr q.1)⟩
    unfold upT
    by_cases e1 : i = a.toInt.toNat
    · rw [if_pos e1, e1]
      refine ⟨⟨hso, hn⟩, t1, t2, fun k hk => ?_⟩
      show ul L 641 a.toInt.toNat p' (ctO so v) 641 a.toInt.toNat k = if k = p' then ctO so v else f k
      by_cases e2 : k = p'
      · rw [if_pos e2, e2, ul_s]
      · rw [if_neg e2, ul_k e2]; exact t3 k hk
    · rw [if_neg e1]
      refine ⟨(hT i hi).1, ?_⟩
      have hTi := (hT i hi).2
      unfold TrC at hTi ⊢
      rw [ul_o (fun q => e1 q.2)]
      exact hTi
  · have := Int32.le_iff_toInt_le.mp (Int32.not_lt.mp q2)
    have := z.2
    have : p.toInt < n := this
    omega
theorem m_write {a p : Int32} {v : Int64} {K : Int64 → MI → ML → Prop} (hd : 3 ≤ d) (hT : tsM I L T) (h2 : ¬ is3 a → K (-2) (ui I 704 0 0 0) L) (h6 : is3 a → T a.toInt.toNat = none → K (-6) (ui I 704 0 0 0) L) (h7 : ∀ x, is3 a → T a.toInt.toNat = some x → ¬ (0 ≤ p.toInt ∧ p.toInt < x.2.1) → K (-7) (ui I 704 0 0 0) L) (h1 : ∀ x, is3 a → T a.toInt.toNat = some x → 0 ≤ p.toInt → p.toInt < x.2.1 → ∀ I' L', tsM I' L' (upT T a.toInt.toNat (wrT x p.toInt.toNat (ctO x.1 v))) → tmF I L I' L' → K (ctO x.1 v) I' L') : CJ d m_M_write [vR 704 0, vI a, vI p, vL v] I L K := by
  have c0 : (0 : Int64).toInt = 0 := rfl
  have ep := Int32.toInt_toInt64 p
  refine toCJ (n := 2) hd (r_M_write_0 (c_M_noTray (t := T a.toInt.toNat) (by omega) (fun z => ?_) (fun g => ⟨fun q => absurd q (by decide), fun _ => ⟨_, rfl, h2 g⟩⟩) (fun g e => ⟨fun q => absurd q (by decide), fun _ => ⟨_, rfl, h6 g e⟩⟩) (fun so n f g e hso hn => ⟨fun _ => ?_, fun q => absurd rfl q⟩)))
  · have := hT a.toInt.toNat (by have := z.1; have := z.2; omega)
    exact ⟨this.1, TrM_F this.2 t0_F⟩
  have ha4 : a.toInt.toNat < 4 := by have := g.1; have := g.2; omega
  have hTr := TrM_F (hT a.toInt.toNat ha4).2 (t0_F (I := I))
  rw [e] at hTr
  obtain ⟨t1, t2, t3⟩ := hTr
  have t2 : ui I 704 0 0 0 743 0 a.toInt.toNat = nI n := t2
  have t1 : ui I 704 0 0 0 742 0 a.toInt.toNat = nI so := t1
  have ec : a.toNatClampNeg = a.toInt.toNat := rfl
  have ea := ge_nI g.1
  have va : vp_in a 4 := by rw [ea]; exact vin ha4 (by omega)
  have o1 : (1 : Int32).toInt = 1 := rfl
  have eN : (nI n - (1 : Int32)).toInt64.toInt = n - 1 := by
    rw [Int32.toInt_toInt64, Jvm.Kit.i32_sub (by rw [nI_toInt (by omega)]; omega) (by rw [nI_toInt (by omega)]; omega), nI_toInt (by omega), o1]
  rw [ec, t2]
  refine ⟨va, c_M_within (by omega) (fun g3 g4 => ⟨fun _ => ⟨va, ?_⟩, fun q => absurd (by decide) q⟩) (fun g' => ⟨fun q => absurd rfl q, fun _ => ⟨_, rfl, h7 _ g e (fun z => g' ?_)⟩⟩)⟩
  · rw [ep, c0] at g3
    rw [ep, eN] at g4
    have fin := h1 _ g e g3 (show p.toInt < n by omega)
    have e2 := ge_nI g3
    have hp : p.toInt.toNat < n := by omega
    rw [t1]
    refine c_M_cut (by omega) hso ?_
    have eix : ((40 : Int32) * a) + p = nI (40 * a.toInt.toNat + p.toInt.toNat) := by
      have x1 : (40 : Int32) * nI a.toInt.toNat = nI (40 * a.toInt.toNat) := pk_mul 40 _
      rw [← nI_add, ← x1, ← ea, ← e2]
    rw [eix, cl_n (by omega), ul_s]
    refine ⟨vin (by omega) (by omega), vin (by omega) (by omega), _, rfl, ?_⟩
    refine fin _ _ (fun i hi => ?_) ⟨Same.rf.ui ⟨Or.inl rfl, rfl⟩, fun j hj => ui_k hj, ui_s, fun r x hr => ul_o (fun q => hr q.1)⟩
    unfold upT
    by_cases e1 : i = a.toInt.toNat
    · rw [if_pos e1, e1]
      refine ⟨⟨hso, hn⟩, t1, t2, fun k hk => ?_⟩
      have hk : k < n := hk
      show ul L 744 0 (40 * a.toInt.toNat + p.toInt.toNat) (ctO so v) 744 0 (40 * a.toInt.toNat + k) = if k = p.toInt.toNat then ctO so v else f k
      by_cases e3 : k = p.toInt.toNat
      · rw [if_pos e3, e3, ul_s]
      · rw [if_neg e3, ul_k (by omega)]; exact t3 k hk
    · rw [if_neg e1]
      refine ⟨(hT i hi).1, ?_⟩
      have hTi := TrM_F (hT i hi).2 (t0_F (I := I))
      have hok := (hT i hi).1
      revert hTi hok
      cases T i with
      | none => intro hTi _; exact hTi
      | some x =>
        intro hTi hok
        have hx : x.2.1 ≤ 40 := hok.2
        refine ⟨hTi.1, hTi.2.1, fun j hj => ?_⟩
        rw [ul_k (by omega)]; exact hTi.2.2 j hj
  · rw [ep, c0, eN]
    have := z.2
    have : p.toInt < n := this
    exact ⟨z.1, by omega⟩
end Wr
