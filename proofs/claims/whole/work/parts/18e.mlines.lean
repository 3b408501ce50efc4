/-! the reference reads a line -/
def frG (I I' : MI) : Prop := (∀ r a, ¬ (r = 704 ∧ a = 0) → ¬ (r = 709 ∧ a = 0) → I' r a = I r a) ∧ ∀ j, j < 6 ∨ 12 < j ∨ j = 8 → j ≠ 15 → I' 704 0 j = I 704 0 j
theorem frG.rf {I : MI} : frG I I := ⟨fun _ _ _ _ => rfl, fun _ _ _ => rfl⟩
theorem frG.tr {I I' I'' : MI} (h : frG I I') (h' : frG I' I'') : frG I I'' := ⟨fun r a x y => (h'.1 r a x y).trans (h.1 r a x y), fun j x y => (h'.2 j x y).trans (h.2 j x y)⟩
theorem frN_G {I I' : MI} (h : frN I I') : frG I I' := ⟨fun r a x _ => h.1 r a x, fun j x _ => h.2 j x⟩
theorem frL_G {I I' : MI} (h : frL I I') : frG I I' := ⟨fun r a x y => h.1 r a x y, fun j x _ => h.2.1 j x⟩
theorem frG_9 {I : MI} {j : Nat} {x : Int32} : frG I (ui I 709 0 j x) := ⟨fun r a _ y => by rw [ui_off y], fun i _ _ => by rw [ui_r (by decide)]⟩
theorem frG_15 {I : MI} {x : Int32} : frG I (ui I 704 0 15 x) := ⟨fun r a y _ => by rw [ui_off y], fun i _ y => by rw [ui_k y]⟩
theorem FtM_9 {I : MI} {k pl j : Nat} {x : Int32} (h : FtM I k pl) : FtM (ui I 709 0 j x) k pl := by
  unfold FtM
  rw [ui_off (by omega)]
  exact h
theorem FtM_15 {I : MI} {k pl : Nat} {x : Int32} (h : FtM I k pl) : FtM (ui I 704 0 15 x) k pl := by
  unfold FtM
  rw [ui_k (by omega), ui_k (by omega)]
  exact h
theorem PsM_9 {I : MI} {B : Nat → Nat} {n p j : Nat} {x : Int32} (h : PsM I B n p) : PsM (ui I 709 0 j x) B n p := by
  unfold PsM TxM TkM
  rw [ui_off (by omega), ui_off (by omega)]
  exact h
theorem PsM_15 {I : MI} {B : Nat → Nat} {n p : Nat} {x : Int32} (h : PsM I B n p) : PsM (ui I 704 0 15 x) B n p := by
  unfold PsM TxM TkM
  rw [ui_k (by omega), ui_off (by omega), ui_k (by omega), ui_k (by omega), ui_k (by omega), ui_k (by omega), ui_k (by omega)]
  exact h
def lawE (f : Nat → Int32) (j m : Nat) (o : Option DN) : Prop := match o with
  | none => f (4 + j) = 0
  | some g => f (4 + j) = 1 ∧ ∃ (b : Nat) (cs : List Nat), f (6 + j) = nI b ∧ f (8 + j) = nI cs.length ∧ b + cs.length ≤ m ∧ (∀ q, q < cs.length → f (284 + b + q) = nI (cs.getD q 0)) ∧ ∀ nm wd, Bd nm → agW j nm wd → mgo wd cs [] [g nm]
/-- the fresh road is R, its first mud mu, its codes m -/
def DrM (f : Nat → Int32) (R : RD) (mu m : Nat) : Prop := (f 2 = nI (rC R) ∧ f 3 = nI (rW R) ∧ f 1 = rP R ∧ f 0 = rN R ∧ (∀ c, c < rC R → f (10 + c) = rh R c ∧ f (16 + c) = rp R c) ∧
  (∀ w, w < rW R → f (22 + 4 * w) = nI (rf R w) ∧ f (22 + 4 * w + 1) = nI (rt R w) ∧ f (22 + 4 * w + 2) = rk R w ∧ f (22 + 4 * w + 3) = nI (rl R w))) ∧ lawE f 0 m (rT R) ∧ lawE f 1 m (rU R) ∧ f 283 = nI m ∧ f 80 = nI mu ∧ ∀ j, 62 ≤ j → j < 83 → j ≠ 80 → f j = 0
theorem lawE_k {f g : Nat → Int32} {j m m' : Nat} {o : Option DN} (h : lawE f j m o) (e4 : g (4 + j) = f (4 + j)) (e6 : g (6 + j) = f (6 + j)) (e8 : g (8 + j) = f (8 + j)) (e : ∀ q, q < m → g (284 + q) = f (284 + q)) (hm : m ≤ m') : lawE g j m' o := by
  cases o with
  | none => show g (4 + j) = 0; rw [e4]; exact h
  | some y =>
    obtain ⟨h1, b, cs, h6, h8, hl, hc, hg⟩ := h
    exact ⟨by rw [e4]; exact h1, b, cs, by rw [e6]; exact h6, by rw [e8]; exact h8, by omega, fun q hq => by rw [show 284 + b + q = 284 + (b + q) by omega, e (b + q) (by omega), show 284 + (b + q) = 284 + b + q by omega]; exact hc q hq, hg⟩
def rsM (B : Nat → Nat) (n : Nat) (I : MI) (p mu : Nat) (o : LO (Nat × RD)) (I' : MI) : Prop := match o with
  | Sum.inl x => FtM I' x.1 x.2 ∧ frG I I'
  | Sum.inr y => PsM I' B n y.1 ∧ frG I I' ∧ p ≤ y.1 ∧ WF y.2 ∧ ∃ m, m ≤ y.1 ∧ DrM (I' 709 0) y.2 mu m
section TakeM2
variable {d : Nat} {J : MI} {L : ML} {B : Nat → Nat} {n p : Nat} {α : Type} {o : LO α}
theorem eatM {j : Nat} {r : Nat → LO α} {A Z : MI → ML → Prop} (hd : 7 ≤ d) (hP : PsM J B n p) (hj : j ≤ 100) (h24 : j ≠ 24) (h : tw B n p j r = o) (h1 : ∀ J', PsM J' B n (tkn B n p).2.2.1 → frN J J' → p < (tkn B n p).2.2.1 → r (tkn B n p).2.2.1 = o → A J' L) (h0 : ∀ J' x, FtM J' x.1 x.2 → frN J J' → o = Sum.inl x → Z J' L) : CI d m_M_eats [vR 704 0, vI (nI j)] J L (fun x I' L' => (¬ x = 0 → A I' L') ∧ (¬ (¬ x = 0) → CV d m_M_fails [vR 704 0, vI 2] I' L' Z)) := by
  have hf := tk_f (B := B) hP.2.2.1
  have hf1 := hf.1
  refine c_M_eats hd hP hj (fun e I' hP' hF' => ⟨fun _ => ?_, fun q => absurd (by decide) q⟩) (fun e => ⟨fun q => absurd rfl q, fun _ => c_M_fails (w := 2) (by omega) hP (by omega) (by omega) (fun I' hF' hN => ?_)⟩)
  · rcases tw_cs h with ⟨_, hk⟩ | ⟨hx, _⟩
    · have hlt := hf.2.2.2.2.2.1 (by omega)
      exact h1 I' hP' (frW_N hF') (by omega) hk
    · exact absurd e hx
  · rcases tw_cs h with ⟨hx, _⟩ | ⟨_, hr⟩
    · exact absurd hx e
    · exact h0 I' _ hF' hN hr
theorem tnM {a b : Nat} {y : Int32} {r : Nat → Nat → LO α} {K : Int32 → MI → ML → Prop} (hd : 7 ≤ d) (hP : PsM J B n p) (ha : a ≤ 999) (hy : ∀ v, v ≤ 999 → (nI v ≤ y ↔ v < b)) (h : tn B n p a b r = o) (h1 : ∀ J' v, PsM J' B n (tkn B n p).2.2.1 → frN J J' → p < (tkn B n p).2.2.1 → a ≤ v → v < b → r (tkn B n p).2.2.1 v = o → K (nI v) J' L) (h0 : ∀ z J' x, FtM J' x.1 x.2 → frN J J' → o = Sum.inl x → K z J' L) : CI d m_M_takes [vR 704 0, vI (nI a), vI y] J L K := by
  have hf := tk_f (B := B) hP.2.2.1
  have hf1 := hf.1
  have hv := hf.2.2.2.2.2.2.2.1
  refine c_M_takes hd hP ha (fun e q1 q2 I' hP' hF' => ?_) (fun e q z I' hF' hR => ?_) (fun e z I' hF' hR => ?_)
  · have hlt := hf.2.2.2.2.2.1 (by omega)
    have q2 := (hy _ (hv e)).mp q2
    rcases tn_cs h with ⟨_, _, _, hk⟩ | ⟨_, hx, _⟩ | ⟨hx, _⟩
    · exact h1 I' _ hP' hF' (by omega) q1 q2 hk
    · exact absurd ⟨q1, q2⟩ hx
    · exact absurd e hx
  · rcases tn_cs h with ⟨_, q1, q2, _⟩ | ⟨_, _, hr⟩ | ⟨hx, _⟩
    · exact absurd ⟨q1, (hy _ (hv e)).mpr q2⟩ q
    · exact h0 z I' _ hF' hR hr
    · exact absurd e hx
  · rcases tn_cs h with ⟨hx, _⟩ | ⟨hx, _⟩ | ⟨_, hr⟩
    · exact absurd hx e
    · exact absurd hx e
    · exact h0 z I' _ hF' hR hr
theorem nmM {j a b : Nat} {y : Int32} {r : Nat → Nat → LO α} {K : Int32 → MI → ML → Prop} (hd : 8 ≤ d) (hP : PsM J B n p) (hj : j ≤ 20) (ha : a ≤ 999) (hy : ∀ v, v ≤ 999 → (nI v ≤ y ↔ v < b)) (h : tw B n p j (fun p1 => tn B n p1 a b r) = o) (h1 : ∀ J' p2 v, PsM J' B n p2 → frN J J' → p < p2 → a ≤ v → v < b → r p2 v = o → K (nI v) J' L) (h0 : ∀ z J' x, FtM J' x.1 x.2 → frN J J' → o = Sum.inl x → K z J' L) : CI d m_M_named [vR 704 0, vI (nI j), vI (nI a), vI y] J L K := by
  have hf := tk_f (B := B) hP.2.2.1
  have hf1 := hf.1
  refine c_M_named hd hP (by omega) (fun e I' hP' hF' => ?_) (fun e x I' hF' hN => ?_)
  · rcases tw_cs h with ⟨_, hk⟩ | ⟨hx, _⟩
    · have hlt := hf.2.2.2.2.2.1 (by omega)
      exact tnM (by omega) hP' ha hy hk (fun J' v P' F' l' a1 a2 k' => h1 J' _ v P' ((frW_N hF').tr F') (by omega) a1 a2 k') (fun z J' x F' N' er => h0 z J' x F' ((frW_N hF').tr N') er)
    · exact absurd e hx
  · rcases tw_cs h with ⟨hx, _⟩ | ⟨_, hr⟩
    · exact absurd hx e
    · exact h0 x I' _ hF' hN hr
end TakeM2
section LineM
variable {d : Nat} {I : MI} {L : ML} {B : Nat → Nat} {n p mu m : Nat} {R : RD}
theorem c_M_readCoach {K : MI → ML → Prop} (hd : 9 ≤ d) (hW : WF R) (hP : PsM I B n p) (hk : (tkn B n p).1 = 3) (hD : DrM (I 709 0) R mu m) (hm : m ≤ p) (h : ∀ I', rsM B n I p mu (coachO B n R p) I' → K I' L) : CV d m_M_readCoach [vR 704 0] I L K := by
  generalize ho : coachO B n R p = o at h
  unfold coachO tw at ho
  rw [if_pos hk] at ho
  have hC := hW.1
  have hf := tk_f (B := B) hP.2.2.1
  have hlt := hf.2.2.2.2.2.1 (by omega)
  have hf1 := hf.1
  obtain ⟨⟨h2, h3, h1, h0, hcs, hws⟩, hT, hU, h283, h80, h6⟩ := hD
  have e10 : (10 : Int32) + nI (rC R) = nI (10 + rC R) := nI_add 10 _
  have e16 : (16 : Int32) + nI (rC R) = nI (16 + rC R) := nI_add 16 _
  refine toCV (n := 8) hd (r_M_readCoach_0 ?_)
  rw [h2, e10, e16, cl_n (by omega), cl_n (by omega)]
  have q10 : vp_in (nI (10 + rC R)) 1184 := vin (by omega) (by omega)
  have q16 : vp_in (nI (16 + rC R)) 1184 := vin (by omega) (by omega)
  have bad : ∀ J x y, FtM J x.1 x.2 → frG I J → o = Sum.inl x → (¬ ((ui J 709 0 (16 + rC R) y) 704 0 11) = 0 → ((none : Option MV) = none ∧ K (ui J 709 0 (16 + rC R) y) L)) ∧ (¬ (¬ ((ui J 709 0 (16 + rC R) y) 704 0 11) = 0) → ((none : Option MV) = none ∧ K (ui (ui J 709 0 (16 + rC R) y) 709 0 2 (((ui J 709 0 (16 + rC R) y) 709 0 2) + (1 : Int32))) L)) := fun J x y hF hG er => ⟨fun _ => ⟨rfl, h _ (by rw [er]; exact ⟨FtM_9 hF, hG.tr frG_9⟩)⟩, fun z => absurd (FtM_ne (FtM_9 hF)) z⟩
  by_cases lt : rC R < 6
  · rw [if_pos lt] at ho
    refine ⟨fun _ => ⟨fun _ => ?_, fun z => absurd hP.2.2.2 z⟩, fun z => absurd (fun y => by have := (nI_eq (b := 6) (by omega) (by omega)).mp y; omega) z⟩
    refine c_M_next (by omega) hP (fun J1 P1 F1 => ?_)
    have G1 := frN_G (frW_N F1)
    refine nmM (j := 4) (a := 0) (b := 100) (by omega) P1 (by omega) (by omega) (hy_c (b := 99) (by omega)) ho (fun J2 p2 a P2 F2 l2 _ a2 k2 => ⟨q10, ?_⟩) (fun z J x hF hN er => ⟨q10, c_M_namedF (by omega) (FtM_9 hF) (fun y => ⟨q16, bad _ x y (FtM_9 hF) ((G1.tr (frN_G hN)).tr frG_9) er⟩)⟩)
    have G2 := (G1.tr (frN_G F2)).tr (frG_9 (I := J2) (j := 10 + rC R) (x := nI a))
    refine nmM (j := 5) (a := 0) (b := 100) (by omega) (PsM_9 P2) (by omega) (by omega) (hy_c (b := 99) (by omega)) k2 (fun J3 p3 b P3 F3 l3 _ b3 k3 => ⟨q16, ?_⟩) (fun z J x hF hN er => ⟨q16, bad J x z hF (G2.tr (frN_G hN)) er⟩)
    have z11 : ui J3 709 0 (16 + rC R) (nI b) 704 0 11 = 0 := by rw [ui_r (by decide)]; exact P3.2.2.2
    refine ⟨fun z => absurd z11 z, fun _ => ⟨rfl, h _ ?_⟩⟩
    rw [← k3]
    have v3 : J3 709 0 = ui J2 709 0 (10 + rC R) (nI a) 709 0 := F3.1 709 0 (by omega)
    have v2 : J2 709 0 = I 709 0 := by rw [F2.1 709 0 (by omega), F1.1 709 0 (by omega)]
    have vv : ∀ y j, j ≠ 2 → j ≠ 16 + rC R → j ≠ 10 + rC R → ui (ui J3 709 0 (16 + rC R) (nI b)) 709 0 2 y 709 0 j = I 709 0 j := fun y j y1 y2 y3 => by rw [ui_k y1, ui_k y2, v3, ui_k y3, v2]
    have v22 : ui J3 709 0 (16 + rC R) (nI b) 709 0 2 = nI (rC R) := by rw [ui_k (by omega), v3, ui_k (by omega), v2]; exact h2
    refine ⟨PsM_9 (PsM_9 P3), ((G2.tr (frN_G F3)).tr frG_9).tr frG_9, by show p ≤ p3; omega, WF_C hW lt a2 b3, m, by show m ≤ p3; omega, ?_⟩
    rw [v22, nI_1]
    refine ⟨⟨by rw [ui_s]; rfl, by rw [vv _ _ (by omega) (by omega) (by omega)]; exact h3, by rw [vv _ _ (by omega) (by omega) (by omega)]; exact h1, by rw [vv _ _ (by omega) (by omega) (by omega)]; exact h0, fun c hc => ?_, fun w hw => ?_⟩, lawE_k hT (vv _ _ (by omega) (by omega) (by omega)) (vv _ _ (by omega) (by omega) (by omega)) (vv _ _ (by omega) (by omega) (by omega)) (fun q _ => vv _ _ (by omega) (by omega) (by omega)) (Nat.le_refl _), lawE_k hU (vv _ _ (by omega) (by omega) (by omega)) (vv _ _ (by omega) (by omega) (by omega)) (vv _ _ (by omega) (by omega) (by omega)) (fun q _ => vv _ _ (by omega) (by omega) (by omega)) (Nat.le_refl _), by rw [vv _ _ (by omega) (by omega) (by omega)]; exact h283, by rw [vv _ _ (by omega) (by omega) (by omega)]; exact h80, fun j y1 y2 y3 => by rw [vv _ _ (by omega) (by omega) (by omega)]; exact h6 j y1 y2 y3⟩
    · have hc : c < rC R + 1 := hc
      show _ = (if c = rC R then nI a else rh R c) ∧ _ = (if c = rC R then nI b else rp R c)
      by_cases e : c = rC R
      · rw [if_pos e, if_pos e, e]
        refine ⟨?_, ?_⟩
        · rw [ui_k (by omega), ui_k (by omega), v3, ui_s]
        · rw [ui_k (by omega), ui_s]
      · rw [if_neg e, if_neg e, vv _ _ (by omega) (by omega) (by omega), vv _ _ (by omega) (by omega) (by omega)]
        exact hcs c (by omega)
    · have hW2 := hW.2.1
      have hw : w < rW R := hw
      rw [vv _ _ (by omega) (by omega) (by omega), vv _ _ (by omega) (by omega) (by omega), vv _ _ (by omega) (by omega) (by omega), vv _ _ (by omega) (by omega) (by omega)]
      exact hws w hw
  · rw [if_neg lt] at ho
    refine ⟨fun z => absurd (by rw [show rC R = 6 by omega]; rfl) z, fun _ => c_M_fails (w := 4) (by omega) hP (by omega) (by omega) (fun J hF hN => ⟨fun z => absurd z (FtM_ne hF), fun _ => ⟨rfl, h J ?_⟩⟩)⟩
    rw [← ho]
    exact ⟨hF, frN_G hN⟩
end LineM
