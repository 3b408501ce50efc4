/-! THE LAW'S INVARIANT -/
def Wc (I : MI) (L : ML) (R : RD) (s : SA) (P : List SA) (T : Nat → TA) (t : Nat → Int32) (N : Nat) (M : Nat → IA) : Prop := CoC I R s P ∧ RgA I R ∧ tsC I L T ∧ TpC I t N ∧ ∀ i, i < 2 → ImC I i (M i)
def Wm (I : MI) (L : ML) (R : RD) (s : SA) (P : List SA) (T : Nat → TA) (t : Nat → Int32) (N : Nat) (M : Nat → IA) : Prop := CoM I R s P ∧ tsM I L T ∧ TpM I t N ∧ ∀ i, i < 2 → ImM I i (M i)
def Wo (R : RD) (s : SA) (P : List SA) (t : Nat → Int32) (N : Nat) (M : Nat → IA) : Prop := CoO R s P ∧ TpO t N ∧ ∀ i, i < 2 → ImO (M i)
def LI (xs : Nat → Int32) (Ls : Nat) (I : MI) (L : ML) (R : RD) (s : SA) (P : List SA) (T : Nat → TA) (t : Nat → Int32) (N : Nat) (M : Nat → IA) : Prop := Wc I L R s P T t N M ∧ Wm I L R s P T t N M ∧ Wo R s P t N M ∧ I 192 0 2 = I 704 0 13 ∧ I 192 0 3 = I 704 0 14 ∧ I 4002 0 = xs ∧ I 4003 0 0 = nI Ls
def SC : Nat → Nat → Prop := fun r a => cdS r a ∨ (r = 16 ∨ r = 453 ∨ r = 454 ∨ r = 516)
def SM : Nat → Nat → Prop := fun r _ => 704 ≤ r ∧ r < 768
def avo (S : Nat → Nat → Prop) : Prop := ¬ S 64 0 ∧ ¬ S 65 0 ∧ (∀ i, ¬ S 640 i) ∧ ¬ S 15 0 ∧ (∀ r i, 128 ≤ r → r ≤ 135 → 2 ≤ i → ¬ S r i) ∧ (∀ r i, 256 ≤ r → r ≤ 259 → 19 ≤ i → ¬ S r i)
section Inv
variable {xs : Nat → Int32} {Ls : Nat} {I I' I1 I2 : MI} {L L' L2 : ML} {R R' : RD} {s s' : SA} {P P' : List SA} {T T' : Nat → TA} {t : Nat → Int32} {N : Nat} {M : Nat → IA}
theorem av_SC : avo SC := by
  refine ⟨?_, ?_, ?_, ?_, ?_, ?_⟩ <;> intros <;> intro q <;> unfold SC cdS goS at q <;> omega
theorem av_SM : avo SM := by
  refine ⟨?_, ?_, ?_, ?_, ?_, ?_⟩ <;> intros <;> intro q <;> unfold SM at q <;> omega
theorem ImC_S {S : Nat → Nat → Prop} {i : Nat} {o : IA} (h : ImC I i o) (hS : Same S I I') (h15 : ¬ S 15 0) (h1 : ∀ r, 128 ≤ r → r ≤ 135 → ¬ S r (2 + i)) (h2 : ∀ r, 256 ≤ r → r ≤ 259 → ¬ S r (19 + i)) : ImC I' i o := by
  cases o with
  | none =>
    show I' 15 0 i = 0
    rw [hS 15 0 h15]
    exact h
  | some x =>
    obtain ⟨a1, a2, a3⟩ := h
    exact ⟨by rw [hS 15 0 h15]; exact a1, a2.same hS h1, a3.same hS (h2 _ (by omega) (by omega)) (h2 _ (by omega) (by omega)) (h2 _ (by omega) (by omega)) (h2 _ (by omega) (by omega))⟩
theorem tsC_S (h : tsC I L T) (e : ∀ i, I' 640 i = I 640 i) (eL : ∀ i, L' 641 i = L 641 i) : tsC I' L' T := by
  intro i hi
  obtain ⟨a1, a2⟩ := h i hi
  refine ⟨a1, ?_⟩
  unfold TrC at a2 ⊢
  rw [e i, eL i]
  exact a2
theorem TpC_S (h : TpC I t N) (e1 : I' 64 0 1 = I 64 0 1) (e2 : I' 65 0 = I 65 0) : TpC I' t N := ⟨by rw [e1]; exact h.1, fun i hi => by rw [e2]; exact h.2 i hi⟩
theorem tsM_S (h : tsM I L T) (e : I' 742 0 = I 742 0) (e1 : I' 743 0 = I 743 0) (eL : L' 744 0 = L 744 0) : tsM I' L' T := by
  intro i hi
  obtain ⟨a1, a2⟩ := h i hi
  refine ⟨a1, ?_⟩
  unfold TrM at a2 ⊢
  rw [e, e1, eL]
  exact a2
theorem TpM_S (h : TpM I t N) (e1 : I' 704 0 5 = I 704 0 5) (e2 : I' 708 0 = I 708 0) : TpM I' t N := ⟨by rw [e1]; exact h.1, fun i hi => by rw [e2]; exact h.2 i hi⟩
theorem ImM_S {i : Nat} {o : IA} (h : ImM I i o) (e1 : I' 707 0 i = I 707 0 i) (e2 : ∀ j, j < 1184 → I' 706 0 (1184 * (i + 1) + j) = I 706 0 (1184 * (i + 1) + j)) (hO : ImO o) : ImM I' i o := by
  cases o with
  | none =>
    show I' 707 0 i = 0
    rw [e1]
    exact h
  | some x =>
    obtain ⟨a1, a2, a3⟩ := h
    exact ⟨by rw [e1]; exact a1, MRo_c2 hO.1 a2 e2, MSt_cg a3 (fun j _ hj => e2 j (by omega))⟩
theorem Wc_S {S : Nat → Nat → Prop} (h : Wc I L R s P T t N M) (hS : Same S I I') (ha : avo S) (eL : ∀ i, L' 641 i = L 641 i) (hc : CoC I' R' s' P') (hr : RgA I' R') : Wc I' L' R' s' P' T t N M := by
  obtain ⟨c1, r1, t1, p1, m1⟩ := h
  obtain ⟨b1, b2, b3, b4, b5, b6⟩ := ha
  exact ⟨hc, hr, tsC_S t1 (fun i => hS 640 i (b3 i)) eL, TpC_S p1 (by rw [hS 64 0 b1]) (hS 65 0 b2), fun i hi => ImC_S (m1 i hi) hS b4 (fun r x y => b5 r _ x y (by omega)) (fun r x y => b6 r _ x y (by omega))⟩
theorem Wm_S (h : Wm I L R s P T t N M) (e : ∀ r, 704 ≤ r → r < 768 → I' r 0 = I r 0) (eL : L' 744 0 = L 744 0) : Wm I' L' R s P T t N M := by
  obtain ⟨c1, t1, p1, m1⟩ := h
  refine ⟨?_, tsM_S t1 (e 742 (by omega) (by omega)) (e 743 (by omega) (by omega)) eL, TpM_S p1 (by rw [e 704 (by omega) (by omega)]) (e 708 (by omega) (by omega)), fun i hi => ?_⟩
  · unfold CoM
    rw [e 706 (by omega) (by omega)]
    exact c1
  · have h := m1 i hi
    unfold ImM at h ⊢
    rw [e 706 (by omega) (by omega), e 707 (by omega) (by omega)]
    exact h
theorem Wm_F (h : Wm I L R s P T t N M) (hO : ∀ i, i < 2 → ImO (M i)) (f : mF0 I I') (c : CoM I' R' s' P') (eL : L' 744 0 = L 744 0) : Wm I' L' R' s' P' T t N M := by
  obtain ⟨c1, t1, p1, m1⟩ := h
  obtain ⟨f1, f2, f3⟩ := f
  refine ⟨c, tsM_S t1 (f1 742 0 ?_) (f1 743 0 ?_) eL, TpM_S p1 (f3 5 (by omega) (by omega)) (f1 708 0 ?_), fun i hi => ImM_S (m1 i hi) ?_ (fun j hj => f2 _ (Or.inr (by omega))) (hO i hi)⟩
  · intro q; unfold mdS at q; omega
  · intro q; unfold mdS at q; omega
  · intro q; unfold mdS at q; omega
  · rw [f1 707 0 (by intro q; unfold mdS at q; omega)]
/-- a program's frame keeps the reference -/
theorem sc_m (h : Same SC I I') : ∀ r a, 704 ≤ r → I' r a = I r a := fun r a hr => h r a (by intro q; unfold SC cdS goS at q; omega)
theorem cSC (h : Same cdS I I') : Same SC I I' := h.mono (fun _ _ q => Or.inl q)
theorem cSL (h : Same cdL I I') : Same SC I I' := h.mono (fun r a q => q.elim Or.inl (fun z => Or.inr (Or.inl z.1)))
theorem cSR (h : Same cdR I I') : Same SC I I' := h.mono (fun r a q => by unfold cdR at q; unfold SC; rcases q with q | q; exact Or.inl q; right; omega)
theorem cSB (h : Same cbS I I') : Same SC I I' := h.mono (fun r a q => by unfold cbS at q; unfold SC; rcases q with q | q; exact Or.inl q; right; omega)
theorem k3 (h : Same SC I I') : I' 4003 0 = I 4003 0 := sc_m h _ _ (by omega)
theorem k2 (h : Same SC I I') : I' 4002 0 = I 4002 0 := sc_m h _ _ (by omega)
theorem k7 (h : Same SC I I') (c : CoM I R s P) : CoM I' R s P := by
  unfold CoM
  rw [sc_m h 706 0 (by omega)]
  exact c
theorem RgA_SC (h : RgA I R) (hS : Same SC I I') : RgA I' R := RgA_same h hS (by intro q; unfold SC cdS goS at q; omega) (by intro q; unfold SC cdS goS at q; omega)
theorem md_SM (f : mF0 I I') : Same SM I I' := f.1.mono (fun r a q => by unfold mdS at q; unfold SM; omega)
theorem CoC_SM (hc : CoC I R s P) (hS : Same SM I I') : CoC I' R s P := CoC_off hc hS (fun r x y q => by unfold SM at q; omega) (fun r a x y _ q => by unfold SM at q; omega) (fun r x y q => by unfold SM at q; omega) (fun q => by unfold SM at q; omega)
theorem RgA_SM (h : RgA I R) (hS : Same SM I I') : RgA I' R := RgA_same h hS (by intro q; unfold SM at q; omega) (by intro q; unfold SM at q; omega)
theorem oL_rf : oL L L := fun _ _ _ => rfl
theorem LI_on (h : LI xs Ls I L R s P T t N M) (c1 : CoC I1 R s' P') (s1 : Same SC I I1) (c2 : CoM I2 R s' P') (f2 : mFr I1 I2) (hL : oL L L2) (hO : CoO R s' P') : LI xs Ls I2 L2 R s' P' T t N M := by
  obtain ⟨hw, hm, ho, e2, e3, e4, e5⟩ := h
  have hS := md_SM f2.1
  have r1 := RgA_SC hw.2.1 s1
  have w1 : Wc I1 L R s' P' T t N M := Wc_S hw s1 av_SC (fun _ => rfl) c1 r1
  have w2 : Wc I2 L2 R s' P' T t N M := Wc_S w1 hS av_SM (fun i => by rw [hL 641 i (by omega)]) (CoC_SM c1 hS) (RgA_SM r1 hS)
  have m1 : Wm I1 L R s P T t N M := Wm_S hm (fun r x _ => sc_m s1 r 0 x) rfl
  have m2 : Wm I2 L2 R s' P' T t N M := Wm_F m1 ho.2.2 f2.1 c2 (by rw [hL 744 0 (by omega)])
  have a1 : I2 192 0 = I 192 0 := (hS 192 0 (by intro q; unfold SM at q; omega)).trans (s1 192 0 (by intro q; unfold SC cdS goS at q; omega))
  have a2 : ∀ j, j ≠ 0 → j < 21 → I2 704 0 j = I 704 0 j := fun j x y => (f2.1.2.2 j x y).trans (by rw [sc_m s1 704 0 (by omega)])
  refine ⟨w2, m2, ⟨hO, ho.2.1, ho.2.2⟩, ?_, ?_, ?_, ?_⟩
  · rw [a1, a2 13 (by omega) (by omega)]; exact e2
  · rw [a1, a2 14 (by omega) (by omega)]; exact e3
  · rw [hS 4002 0 (by intro q; unfold SM at q; omega), k2 s1]; exact e4
  · rw [hS 4003 0 (by intro q; unfold SM at q; omega), k3 s1]; exact e5
theorem mFr_0 : mFr I (ui I 704 0 0 0) := ⟨⟨fun r a q => ui_off (fun z => q ⟨Or.inl z.1, z.2⟩), fun j _ => ui_r (by omega), fun j hj _ => ui_k hj⟩, ui_s⟩
theorem LI_0 (h : LI xs Ls I L R s P T t N M) : LI xs Ls (ui I 704 0 0 0) L R s P T t N M := LI_on h h.1.1 Same.rf (CoM_7 (I' := I) h.2.2.1.1.1 h.2.1.1) mFr_0 oL_rf h.2.2.1.1
def V5 (x : Int32) (n : Nat) : Prop := vp_in (x + 1) n ∧ vp_in (x + 2) n ∧ vp_in (x + 3) n ∧ vp_in (x + 4) n ∧ vp_in (x + 5) n
def KL (d : Nat) (Ls : Nat) (xs : Nat → Int32) (Q : QT) (x : Int32) : Prop := ∀ (I' : MI) (L' : ML), (∃ R s P T t N M, LI xs Ls I' L' R s P T t N M) → XX (d + 1) m_Lw_law Q 18 [vR 4002 0, vR 0 0, vR 704 0, vI (x + 6)] [] I' L'
theorem fin {d : Nat} {Q : QT} {x v v' : Int32} (hk : KL d Ls xs Q x) (h : LI xs Ls I L R s P T t N M) (e : v = v') : (v = v' → XX (d + 1) m_Lw_law Q 18 [vR 4002 0, vR 0 0, vR 704 0, vI (x + 6)] [] I L) ∧ (¬ (v = v') → Q (some (vI 0)) I L) := ⟨fun _ => hk I L ⟨R, s, P, T, t, N, M, h⟩, fun q => absurd e q⟩
theorem lg_0 (v : Int64) : lg_cmp v v = 0 := by
  unfold lg_cmp
  simp
theorem finJ {d : Nat} {Q : QT} {x : Int32} {v : Int64} (hk : KL d Ls xs Q x) (h : LI xs Ls I L R s P T t N M) : (lg_cmp v v = 0 → XX (d + 1) m_Lw_law Q 18 [vR 4002 0, vR 0 0, vR 704 0, vI (x + 6)] [] I L) ∧ (¬ (lg_cmp v v = 0) → Q (some (vI 0)) I L) := ⟨fun _ => hk I L ⟨R, s, P, T, t, N, M, h⟩, fun q => absurd (lg_0 v) q⟩
end Inv
