/-! the program reads a law's line, a line's end, all lines -/
theorem sg_L {c : Nat → Int32} {b e W : Nat} {g : DN} (h : sgP c b e g W) (hW : W ≤ 64) (he : e ≤ 900) : LwA c b e g := by
  refine ⟨h.1, he, fun nm hb => ?_⟩
  obtain ⟨N, hN, hg⟩ := h.2 nm hb [] (by show 0 + W ≤ 64; omega)
  exact ⟨N, by omega, hg⟩
section LineC2
variable {d : Nat} {I : MI} {L : ML} {B : Nat → Nat} {n p mu m : Nat} {R : RD}
theorem cRdF {rd k pl : Nat} {x : Int32} {K : MI → ML → Prop} (hd : 4 ≤ d) (hF : FtC I k pl) (h : K I L) : CV d (cRd (if rd = 0 then 2 else 5)) [vR 192 0, vI x] I L K := by
  by_cases e : rd = 0
  · rw [if_pos e]; exact c_sumF hd hF h
  · rw [if_neg e]; exact c_truthF hd hF h
theorem PsC_4 {x : Int32} (h : PsC I B n p) : PsC (ui I 192 0 4 x) B n p := by
  unfold PsC TxC TkC
  rw [ui_off (by omega), ui_off (by omega), ui_k (by omega), ui_k (by omega)]
  exact h
theorem DrC_4 {x : Int32} (h : DrC I R mu m) : DrC (ui I 192 0 4 x) R mu m := by
  unfold DrC lawD
  rw [ui_off (by omega), ui_off (by omega), ui_off (by omega), ui_off (by omega), ui_off (by omega), ui_off (by omega), ui_off (by omega), ui_off (by omega)]
  exact h
theorem frD_4 {x : Int32} : frD I (ui I 192 0 4 x) := ⟨fun r a _ y _ => by rw [ui_off y], fun j _ => by rw [ui_r (by decide)]⟩
theorem lnLaw {rd : Nat} {mt : MTy} {Q : QT} (hr : rd ≤ 1) (hd : 76 ≤ d)
    (rule : CV d m_Rd_takeWord [vR 192 0, vR 4000 (kwC (7 + 2 * rd))] (ui I 192 0 4 (nI rd)) L (fun I1 L2 => CV d m_Rd_takeSign [vR 192 0, vI 58] I1 L2 (fun I3 L4 => CV d (cRd (if rd = 0 then 2 else 5)) [vR 192 0, vI (nI 0)] (ui I3 128 1 (13 + 2 * rd) (I3 128 1 7)) L4 (fun I5 L6 => Q none (ui I5 128 1 (14 + 2 * rd) (I5 128 1 7)) L6))) → XX (d + 1) mt Q 0 [vR 192 0] [] I L)
    (hW : WF R) (hP : PsC I B n p) (hD : DrC I R mu m) (hm : m ≤ p) (h : ∀ I', rsC B n I p mu (lawO B n rd R p) I' → Q none I' L) : XX (d + 1) mt Q 0 [vR 192 0] [] I L := by
  generalize ho : lawO B n rd R p = o at h
  unfold lawO at ho
  have bad : ∀ J x y, FtC J x.1 x.2 → frD I J → o = Sum.inl x → Q none (ui J 128 1 (14 + 2 * rd) y) L := fun J x y hF hR er => h _ (by rw [er]; exact ⟨hF.oD (oD.rf.ui (by omega) (by omega)), hR.tr (oD_D (oD.rf.ui (by omega) (by omega)))⟩)
  refine rule (twP (j := 7 + 2 * rd) (by omega) (PsC_4 hP) (by omega) ho (fun J1 P1 F1 l1 k1 => ?_) (fun J x hF hR er => c_Rd_takeSignF (by omega) hF (cRdF (by omega) (hF.oD (oD.rf.ui (by omega) (by omega))) (bad _ x _ (hF.oD (oD.rf.ui (by omega) (by omega))) ((frD_4.tr (frR_D hR)).tr (oD_D (oD.rf.ui (by omega) (by omega)))) er))))
  refine tsP (j := 1) (by omega) P1 (by omega) rfl k1 (fun J2 P2 F2 l2 k2 => ?_) (fun J x hF hR er => cRdF (by omega) (hF.oD (oD.rf.ui (by omega) (by omega))) (bad _ x _ (hF.oD (oD.rf.ui (by omega) (by omega))) ((frD_4.tr (frR_D (F1.tr hR))).tr (oD_D (oD.rf.ui (by omega) (by omega)))) er))
  have G2 := F1.tr F2
  have D2 := (DrC_4 (x := nI rd) hD).R G2
  have e4 : J2 192 0 4 = nI rd := by rw [G2.2.2 4 (by omega) (by omega), ui_s]
  have hp2 := P2.2.2.1
  have hn := P2.1.2.1
  have hs := lawR_s (B := B) (n := n) (rd := rd) hp2 hn
  rw [D2.2.2.2.1]
  have o3 : oD J2 (ui J2 128 1 (13 + 2 * rd) (nI m)) := oD.rf.ui (by omega) (by omega)
  have f3 := (frD_4 (I := I) (x := nI rd)).tr ((frR_D G2).tr (oD_D o3))
  generalize ep2 : (tkn B n (tkn B n p).2.2.1).2.2.1 = p2 at *
  refine (rcAll hr 20000).1 (if rd = 0 then 2 else 5) 0 p2 m _ d _ L _ (by split <;> omega) (by omega) hs (P2.oD o3) (by rw [ui_r (by decide)]; exact e4) (by rw [ui_k (by omega)]; exact D2.2.2.2.1) (by omega) ?_ (fun J4 hO => ?_)
  · have a1 : dpC 2 0 = 72 := rfl
    have a2 : dpC 5 0 = 76 := rfl
    split <;> omega
  rcases bnL_cs k2 with ⟨x, ex, er⟩ | ⟨y, ey, k3⟩
  · rw [ex] at hO
    exact bad J4 x _ hO.1 (f3.tr (frP_D hO.2)) er
  · rw [ey] at hO hs
    obtain ⟨a1, a2, a3, a4, a5, a6⟩ := prs_ok (B := B) (n := n) (rd := rd) 20000 _ 0 p2 [] d0 _ (by split <;> omega) hp2 (fun _ => rfl) (fun z => by split at z <;> omega) hs
    obtain ⟨e, b1, b2, b3, b4, b5, b6⟩ := hO
    have b4 : e + p2 ≤ m + y.1 := b4
    have a2 : y.1 ≤ n := a2
    rw [b3]
    refine h _ ?_
    have o5 : oD J4 (ui J4 128 1 (14 + 2 * rd) (nI e)) := oD.rf.ui (by omega) (by omega)
    have me := b5.1
    rw [← k3]
    refine ⟨b1.oD o5, (f3.tr (frP_D b2)).tr (oD_D o5), by show p ≤ y.1; omega, WF_L hW a6, e, by show e ≤ y.1; omega, ?_⟩
    have v8 : ∀ j, j ≠ 7 → j ≠ 13 + 2 * rd → j ≠ 14 + 2 * rd → ui J4 128 1 (14 + 2 * rd) (nI e) 128 1 j = J2 128 1 j := fun j x1 x2 x3 => by rw [ui_k x3, b2.2.2.2 j x1, ui_k x2]
    have v7 : ui J4 128 1 (14 + 2 * rd) (nI e) 128 1 7 = nI e := by rw [ui_k (by omega)]; exact b3
    have vb : ui J4 128 1 (14 + 2 * rd) (nI e) 128 1 (13 + 2 * rd) = nI m := by rw [ui_k (by omega), b2.2.2.2 _ (by omega), ui_s]
    have ve : ui J4 128 1 (14 + 2 * rd) (nI e) 128 1 (14 + 2 * rd) = nI e := ui_s
    have vr : ∀ r, 129 ≤ r → r ≤ 134 → ui J4 128 1 (14 + 2 * rd) (nI e) r 1 = J2 r 1 := fun r x1 x2 => by rw [ui_off (by omega), b2.1 r 1 (by omega) (by omega) (by omega) (by omega), ui_off (by omega)]
    have vc : ui J4 128 1 (14 + 2 * rd) (nI e) 135 1 = J4 135 1 := ui_off (by omega)
    have vq : ∀ q, q < m → J4 135 1 q = J2 135 1 q := fun q hq => by rw [b6 q hq, ui_off (by omega)]
    have law : lawD (ui J4 128 1 (14 + 2 * rd) (nI e)) (13 + 2 * rd) (14 + 2 * rd) e (some y.2.2) := by
      refine ⟨m, e, vb, ve, Nat.le_refl _, ?_⟩
      rw [vc]
      exact sg_L b5 (by have w1 : wN 2 0 = 39 := rfl; have w2 : wN 5 0 = 42 := rfl; split <;> omega) (by omega)
    obtain ⟨⟨h10, h11, h8, h12, hcs, hws⟩, hT, hU, h7, h9⟩ := D2
    have top : ui J4 128 1 (14 + 2 * rd) (nI e) 128 1 10 = nI (rC R) ∧ ui J4 128 1 (14 + 2 * rd) (nI e) 128 1 11 = nI (rW R) ∧ ui J4 128 1 (14 + 2 * rd) (nI e) 128 1 8 = rP R ∧ ui J4 128 1 (14 + 2 * rd) (nI e) 128 1 12 = rN R ∧ (∀ c, c < rC R → ui J4 128 1 (14 + 2 * rd) (nI e) 129 1 c = rh R c ∧ ui J4 128 1 (14 + 2 * rd) (nI e) 130 1 c = rp R c) ∧ (∀ w, w < rW R → ui J4 128 1 (14 + 2 * rd) (nI e) 131 1 w = nI (rf R w) ∧ ui J4 128 1 (14 + 2 * rd) (nI e) 132 1 w = nI (rt R w) ∧ ui J4 128 1 (14 + 2 * rd) (nI e) 133 1 w = rk R w ∧ ui J4 128 1 (14 + 2 * rd) (nI e) 134 1 w = nI (rl R w)) := by
      refine ⟨by rw [v8 _ (by omega) (by omega) (by omega)]; exact h10, by rw [v8 _ (by omega) (by omega) (by omega)]; exact h11, by rw [v8 _ (by omega) (by omega) (by omega)]; exact h8, by rw [v8 _ (by omega) (by omega) (by omega)]; exact h12, fun c hc => ?_, fun w hw => ?_⟩
      · rw [vr 129 (by omega) (by omega), vr 130 (by omega) (by omega)]; exact hcs c hc
      · rw [vr 131 (by omega) (by omega), vr 132 (by omega) (by omega), vr 133 (by omega) (by omega), vr 134 (by omega) (by omega)]; exact hws w hw
    have k9 : ui J4 128 1 (14 + 2 * rd) (nI e) 128 1 9 = nI mu := by rw [v8 _ (by omega) (by omega) (by omega)]; exact h9
    rcases (by omega : rd = 0 ∨ rd = 1) with z | z
    · subst z
      exact ⟨top, law, lawD_k hU (v8 _ (by omega) (by omega) (by omega)) (v8 _ (by omega) (by omega) (by omega)) (fun q hq => by rw [vc]; exact vq q hq) (by omega), v7, k9⟩
    · subst z
      exact ⟨top, lawD_k hT (v8 _ (by omega) (by omega) (by omega)) (v8 _ (by omega) (by omega) (by omega)) (fun q hq => by rw [vc]; exact vq q hq) (by omega), law, v7, k9⟩
theorem c_Rd_line {K : MI → ML → Prop} (hd : 79 ≤ d) (hW : WF R) (hP : PsC I B n p) (hD : DrC I R mu m) (hm : m ≤ p) (h : ∀ I', rsC B n I p mu (lineO B n R p) I' → K I' L) : CV d m_Rd_line [vR 192 0] I L K := by
  have hp := hP.2.2.1
  unfold lineO at h
  refine toCV (n := 78) hd (r_Rd_line_0 ?_)
  refine c_Tok_isWord (j := 3) (by omega) hP.1 hP.2.1 hp (by omega) (fun e => ⟨fun z => absurd z (by decide), fun _ => ?_⟩) (fun e => ⟨fun _ => ?_, fun z => absurd rfl z⟩)
  · rw [if_pos e] at h
    exact c_Rd_coachLine (by omega) hW hP hD hm (fun I' hO => ⟨rfl, h I' hO⟩)
  rw [if_neg e] at h
  refine c_Tok_isWord (j := 6) (by omega) hP.1 hP.2.1 hp (by omega) (fun e => ⟨fun z => absurd z (by decide), fun _ => ?_⟩) (fun e => ⟨fun _ => ?_, fun z => absurd rfl z⟩)
  · rw [if_pos e] at h
    exact c_Rd_waitLine (by omega) hW hP hD hm (fun I' hO => ⟨rfl, h I' hO⟩)
  rw [if_neg e] at h
  refine c_Tok_isWord (j := 7) (by omega) hP.1 hP.2.1 hp (by omega) (fun e => ⟨fun z => absurd z (by decide), fun _ => ?_⟩) (fun e => ⟨fun _ => ?_, fun z => absurd rfl z⟩)
  · rw [if_pos e] at h
    exact toCV (n := 77) (by omega) (lnLaw (rd := 0) (by omega) (by omega) (fun h => r_Rd_takesLine_0 h) hW hP hD hm (fun I' hO => ⟨rfl, rfl, h I' hO⟩))
  rw [if_neg e] at h
  refine c_Tok_isWord (j := 9) (by omega) hP.1 hP.2.1 hp (by omega) (fun e => ⟨fun z => absurd z (by decide), fun _ => ?_⟩) (fun e => ⟨fun _ => ?_, fun z => absurd rfl z⟩)
  · rw [if_pos e] at h
    exact toCV (n := 77) (by omega) (lnLaw (rd := 1) (by omega) (by omega) (fun h => r_Rd_waitsLine_0 h) hW hP hD hm (fun I' hO => ⟨rfl, rfl, h I' hO⟩))
  rw [if_neg e] at h
  exact c_Rd_refuse (w := 2) (by omega) hP (by omega) (by omega) (fun J hF hR => ⟨rfl, h J ⟨hF, frR_D hR⟩⟩)
theorem c_Rd_endLine {K : MI → ML → Prop} (hd : 8 ≤ d) (hW : WF R) (hP : PsC I B n p) (hD : DrC I R mu m) (hm : m ≤ p) (h : ∀ I', rsC B n I p mu (clsO B n R p) I' → K I' L) : CV d m_Rd_endLine [vR 192 0] I L K := by
  generalize ho : clsO B n R p = o at h
  unfold clsO at ho
  refine toCV (n := 7) hd (r_Rd_endLine_0 (tsP (j := 0) (by omega) hP (by omega) rfl ho (fun J1 P1 F1 l1 k1 => ⟨rfl, h _ ?_⟩) (fun J x hF hR er => ⟨rfl, h _ (by rw [er]; exact ⟨hF.oD (oD.rf.ui (by omega) (by omega)), (frR_D hR).tr (oD_D (oD.rf.ui (by omega) (by omega)))⟩)⟩)))
  rw [← k1]
  have D1 := hD.R F1
  obtain ⟨⟨h10, h11, h8, h12, hcs, hws⟩, hT, hU, h7, h9⟩ := D1
  rw [h12]
  have o5 : oD J1 (ui J1 128 1 12 (rN R + 1)) := oD.rf.ui (by omega) (by omega)
  refine ⟨P1.oD o5, (frR_D F1).tr (oD_D o5), by show p ≤ (tkn B n p).2.2.1; omega, WF_N hW, m, by show m ≤ (tkn B n p).2.2.1; omega, ⟨by rw [ui_k (by omega)]; exact h10, by rw [ui_k (by omega)]; exact h11, by rw [ui_k (by omega)]; exact h8, by rw [ui_s]; rfl, fun c hc => ?_, fun w hw => ?_⟩, lawD_k hT (ui_k (by omega)) (ui_k (by omega)) (fun q _ => by rw [ui_r (by decide)]) (Nat.le_refl _), lawD_k hU (ui_k (by omega)) (ui_k (by omega)) (fun q _ => by rw [ui_r (by decide)]) (Nat.le_refl _), by rw [ui_k (by omega)]; exact h7, by rw [ui_k (by omega)]; exact h9⟩
  · rw [ui_off (by omega), ui_off (by omega)]; exact hcs c hc
  · rw [ui_off (by omega), ui_off (by omega), ui_off (by omega), ui_off (by omega)]; exact hws w hw
theorem c_Rd_endLineF {k pl : Nat} {K : MI → ML → Prop} (hd : 4 ≤ d) (hF : FtC I k pl) (h : ∀ I', FtC I' k pl → frD I I' → K I' L) : CV d m_Rd_endLine [vR 192 0] I L K := toCV (n := 3) hd (r_Rd_endLine_0 (c_Rd_takeSignF (by omega) hF ⟨rfl, h _ (hF.oD (oD.rf.ui (by omega) (by omega))) (oD_D (oD.rf.ui (by omega) (by omega)))⟩))
theorem cls_lt {y : Nat × RD} (hp : p ≤ n) (h : clsO B n R p = Sum.inr y) : p < y.1 := by
  unfold clsO at h
  rcases tw_cs h with ⟨e, hk⟩ | ⟨_, hr⟩
  · have hf := tk_f (B := B) hp
    have hlt := hf.2.2.2.2.2.1 (by omega)
    have hf1 := hf.1
    injection hk with hk
    rw [← hk]
    show p < (tkn B n p).2.2.1
    omega
  · exact absurd hr (by simp)
def rzC (I0 : MI) (mu : Nat) (o : LO RD) (I' : MI) : Prop := match o with
  | Sum.inl x => FtC I' x.1 x.2 ∧ frD I0 I'
  | Sum.inr R => WF R ∧ I' 192 0 2 = 0 ∧ I' 192 0 3 = -1 ∧ frD I0 I' ∧ ∃ m, DrC I' R mu m
theorem lpsC {I0 : MI} {Q : QT} (hd : 79 ≤ d) : ∀ (f : Nat) (R : RD) (p i m : Nat) (J : MI) (o : LO RD), n - p < f → i ≤ p → WF R → PsC J B n p → DrC J R mu m → m ≤ p → frD I0 J → lpsO B n f R p = o → (∀ I', rzC I0 mu o I' → Q none I' L) → XX (d + 1) m_Rd_read Q 31 [vR 192 0, vD, vI (nI i)] [] J L := by
  intro f
  induction f with
  | zero => intro R p i m J o h; omega
  | succ f ih =>
    intro R p i m J o hf hi hW hP hD hm hF ho h
    have hp := hP.2.2.1
    have hn := hP.1.2.1
    have htf := tk_f (B := B) hp
    have ho : (if (tkn B n p).1 = 24 then Sum.inr R else bnL (lineO B n R p) (fun x => bnL (clsO B n x.2 x.1) (fun y => lpsO B n f y.2 y.1))) = o := ho
    have fin : (tkn B n p).1 = 24 → Q none J L := fun z => by
      rw [if_pos z] at ho
      exact h J (by rw [← ho]; exact ⟨hW, hP.2.2.2.1, hP.2.2.2.2, hF, m, hD⟩)
    have hend : ∀ J' k pl j, FtC J' k pl → Q none J' L → XX (d + 1) m_Rd_read Q 31 [vR 192 0, vD, vI (nI j)] [] J' L := fun J' k pl j hFt hq => r_Rd_read_31 ⟨fun _ => hq, fun _ => snd_F (by omega) hFt hq⟩
    refine r_Rd_read_31 ?_
    rw [nI_1]
    refine ⟨fun q => fin (htf.2.2.2.2.1.mpr ?_), fun _ => c_Rd_isSound (by omega) (fun _ => ⟨fun z => absurd z (by decide), fun _ => c_Tok_isEnd (by omega) hP.2.1 hp (fun e => ⟨fun _ => fin e, fun z => absurd (by decide) z⟩) (fun e => ⟨fun z => absurd rfl z, fun _ => ?_⟩)⟩) (fun z => absurd hP.2.2.2.1 z)⟩
    · have : ¬ i < 900 := fun y => nle_c (m := 900) y (by omega) q
      have := htf.1
      have := htf.2.1
      omega
    · rw [if_neg e] at ho
      refine c_Rd_line hd hW hP hD hm (fun J1 h1 => ?_)
      rcases bnL_cs ho with ⟨x, ex, er⟩ | ⟨y, ey, k1⟩
      · rw [ex] at h1
        exact c_Rd_endLineF (by omega) h1.1 (fun J2 f2 r2 => hend J2 _ _ _ f2 (h J2 (by rw [er]; exact ⟨f2, (hF.tr h1.2).tr r2⟩)))
      · rw [ey] at h1
        obtain ⟨P1, F1, l1, W1, m1, hm1, D1⟩ := h1
        refine c_Rd_endLine (by omega) W1 P1 D1 hm1 (fun J2 h2 => ?_)
        rcases bnL_cs k1 with ⟨x, ex, er⟩ | ⟨z, ez, k2⟩
        · rw [ex] at h2
          exact hend J2 _ _ _ h2.1 (h J2 (by rw [er]; exact ⟨h2.1, (hF.tr F1).tr h2.2⟩))
        · have lt := cls_lt P1.2.2.1 ez
          rw [ez] at h2
          obtain ⟨P2, F2, l2, W2, m2, hm2, D2⟩ := h2
          have l2n := P2.2.2.1
          exact ih z.2 z.1 (i + 1) m2 J2 o (by omega) (by omega) W2 P2 D2 hm2 ((hF.tr F1).tr F2) k2 h
end LineC2
