/-! the program reads a law as it is to be read -/
def dpC (nt deep : Nat) : Nat := 10 * (6 - deep) + [2, 3, 4, 6, 7, 8].getD nt 0 + 8
def wN (nt deep : Nat) : Nat := 6 * (6 - deep) + [1, 2, 3, 4, 5, 6].getD nt 0
theorem dc_0 {deep : Nat} : dpC 0 deep = 10 * (6 - deep) + 10 := rfl
theorem dc_1 {deep : Nat} : dpC 1 deep = 10 * (6 - deep) + 11 := rfl
theorem dc_2 {deep : Nat} : dpC 2 deep = 10 * (6 - deep) + 12 := rfl
theorem dc_3 {deep : Nat} : dpC 3 deep = 10 * (6 - deep) + 14 := rfl
theorem dc_4 {deep : Nat} : dpC 4 deep = 10 * (6 - deep) + 15 := rfl
theorem dc_5 {deep : Nat} : dpC 5 deep = 10 * (6 - deep) + 16 := rfl
theorem wn_0 {deep : Nat} : wN 0 deep = 6 * (6 - deep) + 1 := rfl
theorem wn_1 {deep : Nat} : wN 1 deep = 6 * (6 - deep) + 2 := rfl
theorem wn_2 {deep : Nat} : wN 2 deep = 6 * (6 - deep) + 3 := rfl
theorem wn_3 {deep : Nat} : wN 3 deep = 6 * (6 - deep) + 4 := rfl
theorem wn_4 {deep : Nat} : wN 4 deep = 6 * (6 - deep) + 5 := rfl
theorem wn_5 {deep : Nat} : wN 5 deep = 6 * (6 - deep) + 6 := rfl
def cRd (nt : Nat) : MTy := match nt with
  | 0 => m_Rd_atom
  | 1 => m_Rd_term
  | 2 => m_Rd_sum
  | 3 => m_Rd_unit
  | 4 => m_Rd_both
  | _ => m_Rd_truth
section ReadC2
variable {B : Nat → Nat} {n rd : Nat}
def cOut (B : Nat → Nat) (n : Nat) (I : MI) (b p W : Nat) (r : PR) (I' : MI) : Prop := match r with
  | Sum.inl x => FtC I' x.1 x.2 ∧ frP I I'
  | Sum.inr x => ∃ e, PsC I' B n x.1 ∧ frP I I' ∧ I' 128 1 7 = nI e ∧ e + p ≤ b + x.1 ∧ sgP (I' 135 1) b e x.2.2 W ∧ ∀ q, q < b → I' 135 1 q = I 135 1 q
def rcA (B : Nat → Nat) (n rd f : Nat) : Prop := ∀ (nt deep p b : Nat) (r : PR) (d : Nat) (I : MI) (L : ML) (K : MI → ML → Prop), nt ≤ 5 → deep ≤ 6 → prs B n rd f nt deep p [] d0 = some r → PsC I B n p → I 192 0 4 = nI rd → I 128 1 7 = nI b → b ≤ p → dpC nt deep ≤ d → (∀ I', cOut B n I b p (wN nt deep) r I' → K I' L) → CV d (cRd nt) [vR 192 0, vI (nI deep)] I L K
def cS (B : Nat → Nat) (n rd : Nat) (I0 : MI) (b e w p : Nat) (J : MI) : Prop := PsC J B n p ∧ J 192 0 4 = nI rd ∧ J 128 1 7 = nI e ∧ e + w ≤ p ∧ frP I0 J ∧ ∀ q, q < b → J 135 1 q = I0 135 1 q
def rcL (B : Nat → Nat) (n rd f self nt : Nat) (mt : MTy) (ls : Nat → Nat → List MV) : Prop := ∀ (deep p p0 b e i : Nat) (ac : List Nat) (ag : DN) (r : PR) (d : Nat) (I0 J : MI) (L : ML) (Q : QT), deep ≤ 6 → prs B n rd f self deep p ac ag = some r → cS B n rd I0 b e 0 p J → e + p0 ≤ b + p → i ≤ p → sgP (J 135 1) b e ag (wN nt deep) → dpC nt deep ≤ d + 1 → (∀ I', cOut B n I0 b p0 (wN nt deep) r I' → Q none I' L) → XX (d + 1) mt Q 7 (ls deep i) [] J L
theorem PsC_ui {J : MI} {p e : Nat} {x y : Int32} (h : PsC J B n p) : PsC (ui (ui J 135 1 e x) 128 1 7 y) B n p := by
  unfold PsC TxC TkC
  rw [ui_off (by omega), ui_off (by omega), ui_off (by omega), ui_off (by omega), ui_off (by omega), ui_off (by omega)]
  exact h
theorem PsC_uc {J : MI} {p e : Nat} {x : Int32} (h : PsC J B n p) : PsC (ui J 135 1 e x) B n p := by
  unfold PsC TxC TkC
  rw [ui_off (by omega), ui_off (by omega), ui_off (by omega)]
  exact h
theorem cS_0 {I : MI} {b p : Nat} (hP : PsC I B n p) (h4 : I 192 0 4 = nI rd) (h7 : I 128 1 7 = nI b) (hb : b ≤ p) : cS B n rd I b b 0 p I := ⟨hP, h4, h7, by omega, frP.rf, fun _ _ => rfl⟩
theorem cS_R {I0 J J' : MI} {b e w p p2 : Nat} (h : cS B n rd I0 b e w p J) (hP : PsC J' B n p2) (hF : frR J J') (hp : p < p2) : cS B n rd I0 b e (w + 1) p2 J' ∧ J' 135 1 = J 135 1 := by
  have e5 : J' 135 1 = J 135 1 := hF.1 135 1 (by omega) (by omega)
  obtain ⟨a1, a2, a3, a4, a5, a6⟩ := h
  exact ⟨⟨hP, by rw [hF.2.2 4 (by omega) (by omega)]; exact a2, by rw [hF.1 128 1 (by omega) (by omega)]; exact a3, by omega, a5.tr (frR_P hF), fun q hq => by rw [e5]; exact a6 q hq⟩, e5⟩
/-- a part is read -/
theorem subC {f sub deep p b e w d : Nat} {I0 J : MI} {L : ML} {r : PR} {k : Nat → List Nat → DN → Option PR} {K : MI → ML → Prop} (hA : rcA B n rd f) (hs : sub ≤ 5) (hdp : deep ≤ 6) (hS : cS B n rd I0 b e w p J) (hbe : b ≤ e) (hd : dpC sub deep ≤ d) (h : bnd (prs B n rd f sub deep p [] d0) k = some r)
    (h0 : ∀ J' x, FtC J' x.1 x.2 → frP I0 J' → r = Sum.inl x → K J' L)
    (h1 : ∀ J' p2 e2 c g, cS B n rd I0 b e2 w p2 J' → p < p2 → e2 + p ≤ e + p2 → sgP (J' 135 1) e e2 g (wN sub deep) → (∀ q, q < e → J' 135 1 q = J 135 1 q) → k p2 c g = some r → K J' L) : CV d (cRd sub) [vR 192 0, vI (nI deep)] J L K := by
  obtain ⟨hP, h4, h7, hw, hF, hlo⟩ := hS
  rcases bnd_cs h with ⟨x, ex, er⟩ | ⟨p2, c, g, ex, hk⟩
  · exact hA sub deep p e _ d J L _ hs hdp ex hP h4 h7 (by omega) hd (fun I' hO => h0 I' x hO.1 (hF.tr hO.2) er)
  · obtain ⟨a1, a2, a3, a4, a5, a6⟩ := prs_ok (B := B) (n := n) (rd := rd) f sub deep p [] d0 _ (by omega) hP.2.2.1 (fun _ => rfl) (fun z => by omega) ex
    have a3 : p < p2 := a3 hs
    refine hA sub deep p e _ d J L _ hs hdp ex hP h4 h7 (by omega) hd (fun I' hO => ?_)
    obtain ⟨e2, b1, b2, b3, b4, b5, b6⟩ := hO
    have b4 : e2 + p ≤ e + p2 := b4
    exact h1 I' p2 e2 c g ⟨b1, by rw [b2.2.2.1 4 (by omega) (by omega)]; exact h4, b3, by omega, hF.tr b2, fun q hq => by rw [b6 q (by omega)]; exact hlo q hq⟩ a3 b4 b5 b6 hk
theorem emC {p b e w d o a : Nat} {I0 J : MI} {L : ML} {K : Int32 → MI → ML → Prop} (hd : 1 ≤ d) (hS : cS B n rd I0 b e (w + 1) p J) (hbe : b ≤ e) (h : ∀ J', cS B n rd I0 b (e + 1) w p J' → (∀ q, q < e → J' 135 1 q = J 135 1 q) → J' 135 1 e = nI (16 * a + o) → K (nI e) J' L) : CI d m_Road_emit [vR 128 1, vI (nI o), vI (nI a)] J L K := by
  obtain ⟨hP, h4, h7, hw, hF, hlo⟩ := hS
  have hp := hP.2.2.1
  have hn := hP.1.2.1
  refine toCI (n := 0) hd (r_Road_emit_0 ?_)
  rw [h7, cl_n (by omega)]
  refine ⟨fun q => absurd q (nlt0 (by omega)), fun _ => ⟨fun q => absurd q (nle_c (m := 900) (by omega) (by omega)), fun _ => ⟨vin (by omega) (by omega), _, rfl, ?_⟩⟩⟩
  have e16 : nI a * (16 : Int32) + nI o = nI (16 * a + o) := by
    have em : nI a * (16 : Int32) = nI (a * 16) := (Int32.ofNat_mul a 16).symm
    rw [em, nI_add, Nat.mul_comm]
  rw [e16, ui_r (by decide), h7, nI_1]
  refine h _ ⟨PsC_ui hP, ?_, by rw [ui_s], by omega, hF.tr frP_7, fun q hq => ?_⟩ (fun q hq => ?_) ?_
  · rw [ui_r (by decide), ui_r (by decide)]; exact h4
  · rw [ui_off (by omega), ui_k (by omega)]; exact hlo q hq
  · rw [ui_off (by omega), ui_k (by omega)]
  · rw [ui_off (by omega), ui_s]
theorem stC {p b e w d : Nat} {I0 J : MI} {L : ML} {K : MI → ML → Prop} (hd : 6 ≤ d) (hS : cS B n rd I0 b e w p J) (h24 : (tkn B n p).1 ≠ 24) (h25 : (tkn B n p).1 ≠ 25) (h : ∀ J', cS B n rd I0 b e (w + 1) (tkn B n p).2.2.1 J' → J' 135 1 = J 135 1 → K J' L) : CV d m_Tok_step [vR 64 0] J L K := by
  have hf := tk_f (B := B) hS.1.2.2.1
  have hlt := hf.2.2.2.2.2.1 h24
  have hf1 := hf.1
  refine c_Tok_step hd hS.1 h25 (fun I' hP' hF' => ?_)
  have := cS_R hS hP' (frT_R hF') (by omega)
  exact h I' this.1 this.2
theorem twC {p b e w d j : Nat} {I0 J : MI} {L : ML} {K : MI → ML → Prop} {R : Nat → Option PR} {r : PR} (hd : 7 ≤ d) (hS : cS B n rd I0 b e w p J) (hj : j < 21) (h : exq B n p j R = some r) (h1 : ∀ J', cS B n rd I0 b e (w + 1) (tkn B n p).2.2.1 J' → J' 135 1 = J 135 1 → R (tkn B n p).2.2.1 = some r → p < (tkn B n p).2.2.1 → K J' L) (h0 : ∀ J' x, FtC J' x.1 x.2 → frP I0 J' → r = Sum.inl x → K J' L) : CV d m_Rd_takeWord [vR 192 0, vR 4000 (kwC j)] J L K := by
  have hf := tk_f (B := B) hS.1.2.2.1
  have hf1 := hf.1
  refine c_Rd_takeWord hd hS.1 hj (fun ee I' hP' hF' => ?_) (fun ee I' hF' hR => ?_)
  · rcases exq_cs h with ⟨_, hk⟩ | ⟨hx, _⟩
    · have hlt := hf.2.2.2.2.2.1 (by omega)
      have := cS_R hS hP' hF' (by omega)
      exact h1 I' this.1 this.2 hk (by omega)
    · exact absurd ee hx
  · rcases exq_cs h with ⟨hx, _⟩ | ⟨_, hr⟩
    · exact absurd hx ee
    · exact h0 I' _ hF' (hS.2.2.2.2.1.tr (frR_P hR)) hr
theorem tsC2 {p b e w d j : Nat} {x : Int32} {I0 J : MI} {L : ML} {K : MI → ML → Prop} {R : Nat → Option PR} {r : PR} (hd : 7 ≤ d) (hS : cS B n rd I0 b e w p J) (hj : j < 12) (hx : x = sBy 0 j) (h : exq B n p (30 + j) R = some r) (h1 : ∀ J', cS B n rd I0 b e (w + 1) (tkn B n p).2.2.1 J' → J' 135 1 = J 135 1 → R (tkn B n p).2.2.1 = some r → p < (tkn B n p).2.2.1 → K J' L) (h0 : ∀ J' x, FtC J' x.1 x.2 → frP I0 J' → r = Sum.inl x → K J' L) : CV d m_Rd_takeSign [vR 192 0, vI x] J L K := by
  have hf := tk_f (B := B) hS.1.2.2.1
  have hf1 := hf.1
  refine c_Rd_takeSign hd hS.1 hj hx (fun ee I' hP' hF' => ?_) (fun ee I' hF' hR => ?_)
  · rcases exq_cs h with ⟨_, hk⟩ | ⟨hx, _⟩
    · have hlt := hf.2.2.2.2.2.1 (by omega)
      have := cS_R hS hP' hF' (by omega)
      exact h1 I' this.1 this.2 hk (by omega)
    · exact absurd ee hx
  · rcases exq_cs h with ⟨hx, _⟩ | ⟨_, hr⟩
    · exact absurd hx ee
    · exact h0 I' _ hF' (hS.2.2.2.2.1.tr (frR_P hR)) hr
theorem opC {p b e w d deep : Nat} {I0 J : MI} {L : ML} {A Z : MI → ML → Prop} {R : Nat → Option PR} {r : PR} (hd : 7 ≤ d) (hS : cS B n rd I0 b e w p J) (hdp : deep ≤ 6) (h24 : (tkn B n p).1 ≠ 24) (h25 : (tkn B n p).1 ≠ 25) (h : opn B n deep p R = some r) (h1 : ∀ J', deep < 6 → cS B n rd I0 b e (w + 1) (tkn B n p).2.2.1 J' → J' 135 1 = J 135 1 → R (tkn B n p).2.2.1 = some r → p < (tkn B n p).2.2.1 → A J' L) (h0 : ∀ J' x, FtC J' x.1 x.2 → frP I0 J' → r = Sum.inl x → Z J' L) : CI d m_Rd_opens [vR 192 0, vI (nI deep)] J L (fun x I' L' => (x = 0 → Z I' L') ∧ (¬ (x = 0) → A I' L')) := by
  have hf := tk_f (B := B) hS.1.2.2.1
  have hf1 := hf.1
  have hlt := hf.2.2.2.2.2.1 h24
  refine toCI (n := 6) hd (r_Rd_opens_0 ⟨fun q => ?_, fun q => ?_⟩)
  · have lt : deep < 6 := by
      rcases Nat.lt_or_ge deep 6 with z | z
      · exact z
      · have : deep = 6 := by omega
        rw [this] at q
        exact absurd q (by decide)
    rcases opn_cs h with ⟨_, hk⟩ | ⟨hx, _⟩
    · exact stC (by omega) hS h24 h25 (fun J' h' e5 => ⟨_, rfl, fun z => absurd z (by decide), fun _ => h1 J' lt h' e5 hk (by omega)⟩)
    · exact absurd lt hx
  · have nlt : ¬ deep < 6 := fun z => q (nI_lt (a := deep) (b := 6) z (by omega))
    rcases opn_cs h with ⟨hx, _⟩ | ⟨_, hr⟩
    · exact absurd hx nlt
    · exact c_Rd_refuse (w := 4) (by omega) hS.1 (by omega) (by omega) (fun I' hF' hR => ⟨_, rfl, fun _ => h0 I' _ hF' (hS.2.2.2.2.1.tr (frR_P hR)) hr, fun z => absurd rfl z⟩)
/-- one more of a row, and on -/
theorem lpC {f self sub cd o deep p p0 nt i : Nat} {mt : MTy} {ls : Nat → Nat → List MV} {ac : List Nat} {ag : DN} {r : PR} {d b e : Nat} {I0 J : MI} {L : ML} {Q : QT} (hA : rcA B n rd f) (hL : rcL B n rd f self nt mt ls) (hsub : sub ≤ 5) (ho1 : 2 ≤ o) (ho2 : o ≤ 9) (hdp : deep ≤ 6) (hd2 : dpC sub deep ≤ d) (hd3 : dpC nt deep ≤ d + 1) (hwN : wN sub deep + 1 ≤ wN nt deep) (h24 : (tkn B n p).1 ≠ 24) (h25 : (tkn B n p).1 ≠ 25)
    (h : bnd (prs B n rd f sub deep (tkn B n p).2.2.1 [] d0) (fun p2 c g => prs B n rd f self deep p2 (ac ++ c ++ [cd]) (fun nm => of2 o (ag nm) (g nm))) = some r) (hS : cS B n rd I0 b e 0 p J) (hp0 : e + p0 ≤ b + p) (hi : i ≤ p) (hg : sgP (J 135 1) b e ag (wN nt deep))
    (hend : ∀ I' k pl, FtC I' k pl → Q none I' L → XX (d + 1) mt Q 7 (ls deep (i + 1)) [] I' L) (hK : ∀ I', cOut B n I0 b p0 (wN nt deep) r I' → Q none I' L) : CV d m_Tok_step [vR 64 0] J L (fun I5 L5 => CV d (cRd sub) [vR 192 0, vI (nI deep)] I5 L5 (fun I6 L7 => CI d m_Road_emit [vR 128 1, vI (nI o), vI (nI 0)] I6 L7 (fun x I8 L9 => XX (d + 1) mt Q 7 (ls deep (i + 1)) [] I8 L9))) := by
  have hd12 : 8 ≤ d := by unfold dpC at hd2; omega
  have hbe := hg.1
  have hf := tk_f (B := B) hS.1.2.2.1
  have hlt := hf.2.2.2.2.2.1 h24
  have hf1 := hf.1
  refine stC (by omega) hS h24 h25 (fun J1 h1 e1 => subC (sub := sub) hA hsub hdp h1 (by omega) hd2 h (fun J' x hF hR er => ?_) (fun J2 p2 e2 c g h2 lt le g2 lo2 hk => ?_))
  · exact c_Road_emitF (by omega) hF (fun _ I' hF' hR' => hend I' _ _ hF' (hK I' (by rw [er]; exact ⟨hF', hR.tr hR'⟩)))
  · have l2 := g2.1
    refine emC (o := o) (a := 0) (by omega) h2 (by omega) (fun J3 h3 lo3 c3 => ?_)
    refine hL deep p2 p0 b (e2 + 1) (i + 1) _ _ r d I0 J3 L Q hdp hk h3 (by omega) (by omega) ?_ hd3 hK
    refine sg_op (m := e) (W1 := wN nt deep) (W2 := wN sub deep) (sg_mono hg (fun q _ hq => ?_) (Nat.le_refl _)) (sg_mono g2 (fun q _ hq => lo3 q hq) (Nat.le_refl _)) ho1 ho2 ?_ (Nat.le_refl _) hwN
    · rw [lo3 q (by omega), lo2 q hq, e1]
    · rw [c3, Nat.mul_zero, Nat.zero_add]
theorem rcL_of {f self sub tk cd o nt : Nat} {mt tm : MTy} {ta : List MV} (hA : rcA B n rd f) (hL : rcL B n rd f self nt mt (fun deep i => [vR 192 0, vI (nI deep), vI (nI i)])) (hsub : sub ≤ 5) (h24 : tk ≠ 24) (h25 : tk ≠ 25) (ho1 : 2 ≤ o) (ho2 : o ≤ 9) (hwN : ∀ deep, wN sub deep + 1 ≤ wN nt deep) (hdn : ∀ deep, dpC sub deep + 1 ≤ dpC nt deep)
    (hbd : ∀ deep p ac ag, prs B n rd (f + 1) self deep p ac ag = lop B n (prs B n rd f) self sub tk cd o deep p ac ag)
    (tst : ∀ (d : Nat) (J : MI) (L : ML) (p : Nat) (K : Int32 → MI → ML → Prop), 5 ≤ d → PsC J B n p → ((tkn B n p).1 = tk → K 1 J L) → ((tkn B n p).1 ≠ tk → K 0 J L) → CI d tm ta J L K)
    (rule : ∀ (d deep i : Nat) (Q : QT) (J : MI) (L : ML), (900 ≤ nI i → (Q none J L)) ∧ (¬ (900 ≤ nI i) → (CI d m_Rd_isSound [vR 192 0] J L (fun x5 I3 L4 => (x5 = 0 → (Q none I3 L4)) ∧ (¬ (x5 = 0) → (CI d tm ta I3 L4 (fun x8 I6 L7 => (x8 = 0 → (Q none I6 L7)) ∧ (¬ (x8 = 0) → (CV d m_Tok_step [vR 64 0] I6 L7 (fun I9 L10 => CV d (cRd sub) [vR 192 0, vI (nI deep)] I9 L10 (fun I11 L12 => CI d m_Road_emit [vR 128 1, vI (nI o), vI (nI 0)] I11 L12 (fun x15 I13 L14 => XX (d + 1) mt Q 7 [vR 192 0, vI (nI deep), vI (nI (i + 1))] [] I13 L14))))))))))) → XX (d + 1) mt Q 7 [vR 192 0, vI (nI deep), vI (nI i)] [] J L) : rcL B n rd (f + 1) self nt mt (fun deep i => [vR 192 0, vI (nI deep), vI (nI i)]) := by
  intro deep p p0 b e i ac ag r d I0 J L Q hdp h hS hp0 hi hg hd hK
  have hdn := hdn deep
  have hd12 : 8 ≤ d := by unfold dpC at hd hdn; omega
  rw [hbd] at h
  unfold lop at h
  have hP := hS.1
  have hp := hP.2.2.1
  have hn := hP.1.2.1
  have hf := tk_f (B := B) hp
  have hend : ∀ I' k pl, FtC I' k pl → Q none I' L → XX (d + 1) mt Q 7 [vR 192 0, vI (nI deep), vI (nI (i + 1))] [] I' L := fun I' k pl hFt hq => rule d deep (i + 1) Q I' L ⟨fun _ => hq, fun _ => snd_F (by omega) hFt hq⟩
  have fin : (tkn B n p).1 ≠ tk → Q none J L := fun z => by
    rw [if_neg z] at h
    injection h with h
    exact hK J (by rw [← h]; exact ⟨e, hP, hS.2.2.2.2.1, hS.2.2.1, hp0, hg, hS.2.2.2.2.2⟩)
  refine rule d deep i Q J L ⟨fun q => fin (fun z => ?_), fun _ => c_Rd_isSound (by omega) (fun _ => ⟨fun z => absurd z (by decide), fun _ => tst d J L p _ (by omega) hP (fun ee => ⟨fun z => absurd z (by decide), fun _ => ?_⟩) (fun ee => ⟨fun _ => fin ee, fun z => absurd rfl z⟩)⟩) (fun z => absurd hP.2.2.2.1 z)⟩
  · have : ¬ i < 900 := fun y => nle_c (m := 900) y (by omega) q
    have : (tkn B n p).1 = 24 := hf.2.2.2.2.1.mpr (by have := hf.1; have := hf.2.1; omega)
    omega
  · rw [if_pos ee] at h
    exact lpC (ls := fun deep i => [vR 192 0, vI (nI deep), vI (nI i)]) hA hL hsub ho1 ho2 hdp (by omega) hd (hwN deep) (by omega) (by omega) h hS hp0 hi hg hend hK
theorem sumC_of {f : Nat} (hA : rcA B n rd f) (hL : rcL B n rd f 7 2 m_Rd_sum (fun deep i => [vR 192 0, vI (nI deep), vI (nI i), vD])) : rcL B n rd (f + 1) 7 2 m_Rd_sum (fun deep i => [vR 192 0, vI (nI deep), vI (nI i), vD]) := by
  intro deep p p0 b e i ac ag r d I0 J L Q hdp h hS hp0 hi hg hd hK
  have hd12 : 11 ≤ d := by rw [dc_2] at hd; omega
  have h : (if (tkn B n p).1 = 33 then lop B n (prs B n rd f) 7 1 33 3001 3 deep p ac ag else lop B n (prs B n rd f) 7 1 32 3000 2 deep p ac ag) = some r := h
  have hP := hS.1
  have hp := hP.2.2.1
  have hn := hP.1.2.1
  have hf := tk_f (B := B) hp
  have eD : nI i + 1 = nI (i + 1) := nI_1 i
  have hend : ∀ I' k pl, FtC I' k pl → Q none I' L → XX (d + 1) m_Rd_sum Q 7 [vR 192 0, vI (nI deep), vI (nI (i + 1)), vD] [] I' L := fun I' k pl hFt hq => r_Rd_sum_7 ⟨fun _ => hq, fun _ => snd_F (by omega) hFt hq⟩
  have fin : (tkn B n p).1 ≠ 32 → (tkn B n p).1 ≠ 33 → Q none J L := fun z2 z3 => by
    rw [if_neg z3] at h
    unfold lop at h
    rw [if_neg z2] at h
    injection h with h
    exact hK J (by rw [← h]; exact ⟨e, hP, hS.2.2.2.2.1, hS.2.2.1, hp0, hg, hS.2.2.2.2.2⟩)
  have e24 : ¬ i < 900 → (tkn B n p).1 = 24 := fun z => hf.2.2.2.2.1.mpr (by have := hf.1; have := hf.2.1; omega)
  refine r_Rd_sum_7 ?_
  rw [eD]
  refine ⟨fun q => ?_, fun _ => c_Rd_isSound (by omega) (fun _ => ⟨fun z => absurd z (by decide), fun _ => ?_⟩) (fun z => absurd hP.2.2.2.1 z)⟩
  · have := e24 (fun y => nle_c (m := 900) y (by omega) q)
    exact fin (by omega) (by omega)
  · refine toCI (n := d - 1) (by omega) (r_Rd_isPlusOrMinus_0 (c_Tok_isSign (j := 2) (by omega) hP.2.1 hp (by omega) rfl (fun ee => ⟨fun _ => ⟨_, rfl, fun z => absurd z (by decide), fun _ => ?_⟩, fun z => absurd (by decide) z⟩) (fun ee => ⟨fun z => absurd rfl z, fun _ => c_Tok_isSign (j := 3) (by omega) hP.2.1 hp (by omega) rfl (fun e2 => ⟨fun z => absurd z (by decide), fun _ => ⟨_, rfl, fun z => absurd z (by decide), fun _ => ?_⟩⟩) (fun e2 => ⟨fun _ => ⟨_, rfl, fun _ => fin (by omega) (by omega), fun z => absurd rfl z⟩, fun z => absurd rfl z⟩)⟩)))
    · refine c_Tok_isSign (j := 2) (by omega) hP.2.1 hp (by omega) rfl (fun _ => ⟨fun z => absurd z (by decide), fun _ => ?_⟩) (fun z => absurd ee z)
      rw [if_neg (by omega)] at h
      unfold lop at h
      rw [if_pos ee] at h
      exact lpC (sub := 1) (o := 2) (ls := fun deep i => [vR 192 0, vI (nI deep), vI (nI i), vD]) hA hL (by omega) (by omega) (by omega) hdp (by rw [dc_1]; rw [dc_2] at hd; omega) hd (by rw [wn_1, wn_2]; omega) (by omega) (by omega) h hS hp0 hi hg hend hK
    · refine c_Tok_isSign (j := 2) (by omega) hP.2.1 hp (by omega) rfl (fun z => absurd z ee) (fun _ => ⟨fun _ => ?_, fun z => absurd rfl z⟩)
      rw [if_pos (by omega)] at h
      unfold lop at h
      rw [if_pos e2] at h
      exact lpC (sub := 1) (o := 3) (ls := fun deep i => [vR 192 0, vI (nI deep), vI (nI i), vD]) hA hL (by omega) (by omega) (by omega) hdp (by rw [dc_1]; rw [dc_2] at hd; omega) hd (by rw [wn_1, wn_2]; omega) (by omega) (by omega) h hS hp0 hi hg hend hK
/-- one, and the row behind it -/
theorem seqC {f sub self nt : Nat} {mt : MTy} {ls : Nat → Nat → List MV} {deep p b : Nat} {r : PR} {d : Nat} {I : MI} {L : ML} {Q : QT} (hA : rcA B n rd f) (hL : rcL B n rd f self nt mt ls) (hsub : sub ≤ 5) (hdp : deep ≤ 6) (h : bnd (prs B n rd f sub deep p [] d0) (fun p1 c g => prs B n rd f self deep p1 c g) = some r) (hP : PsC I B n p) (h4 : I 192 0 4 = nI rd) (h7 : I 128 1 7 = nI b) (hb : b ≤ p) (hd2 : dpC sub deep ≤ d) (hd3 : dpC nt deep ≤ d + 1) (hwN : wN sub deep ≤ wN nt deep)
    (hend : ∀ I' k pl, FtC I' k pl → Q none I' L → XX (d + 1) mt Q 7 (ls deep 0) [] I' L) (hK : ∀ I', cOut B n I b p (wN nt deep) r I' → Q none I' L) : CV d (cRd sub) [vR 192 0, vI (nI deep)] I L (fun I1 L2 => XX (d + 1) mt Q 7 (ls deep 0) [] I1 L2) := by
  refine subC (sub := sub) hA hsub hdp (cS_0 hP h4 h7 hb) (Nat.le_refl _) hd2 h (fun J' x hF hR er => hend J' _ _ hF (hK J' (by rw [er]; exact ⟨hF, hR⟩))) (fun J2 p2 e2 c g h2 lt le g2 lo2 hk => ?_)
  exact hL deep p2 p b e2 0 c g r d I J2 L Q hdp hk h2 le (by omega) (sg_mono g2 (fun _ _ _ => rfl) hwN) hd3 hK
end ReadC2
