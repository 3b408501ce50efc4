/-! the reference reads a law as it is to be read -/
theorem bnd_cs {o : Option PR} {k : Nat → List Nat → DN → Option PR} {r : PR} (h : bnd o k = some r) : (∃ x, o = some (Sum.inl x) ∧ r = Sum.inl x) ∨ ∃ p c g, o = some (Sum.inr (p, c, g)) ∧ k p c g = some r := by
  cases o with
  | none => exact absurd h (by simp [bnd])
  | some z =>
    cases z with
    | inl x =>
      have h : some (Sum.inl x) = some r := h
      injection h with h
      exact Or.inl ⟨x, rfl, h.symm⟩
    | inr x => exact Or.inr ⟨x.1, x.2.1, x.2.2, rfl, h⟩
theorem exq_cs {B : Nat → Nat} {n p k : Nat} {R : Nat → Option PR} {r : PR} (h : exq B n p k R = some r) : ((tkn B n p).1 = k ∧ R (tkn B n p).2.2.1 = some r) ∨ ((tkn B n p).1 ≠ k ∧ r = Sum.inl (fkN (tkn B n p).1 2, (tkn B n p).2.1)) := by
  unfold exq at h
  by_cases e : (tkn B n p).1 = k
  · rw [if_pos e] at h; exact Or.inl ⟨e, h⟩
  · rw [if_neg e] at h
    unfold flt at h
    injection h with h
    exact Or.inr ⟨e, h.symm⟩
theorem opn_cs {B : Nat → Nat} {n deep p : Nat} {R : Nat → Option PR} {r : PR} (h : opn B n deep p R = some r) : (deep < 6 ∧ R (tkn B n p).2.2.1 = some r) ∨ (¬ deep < 6 ∧ r = Sum.inl (fkN (tkn B n p).1 4, (tkn B n p).2.1)) := by
  unfold opn at h
  by_cases e : deep < 6
  · rw [if_pos e] at h; exact Or.inl ⟨e, h⟩
  · rw [if_neg e] at h
    unfold flt at h
    injection h with h
    exact Or.inr ⟨e, h.symm⟩
def dpM (nt deep : Nat) : Nat := 10 * (6 - deep) + [1, 3, 4, 6, 7, 8].getD nt 0 + 12
theorem dp_0 {deep : Nat} : dpM 0 deep = 10 * (6 - deep) + 13 := rfl
theorem dp_1 {deep : Nat} : dpM 1 deep = 10 * (6 - deep) + 15 := rfl
theorem dp_2 {deep : Nat} : dpM 2 deep = 10 * (6 - deep) + 16 := rfl
theorem dp_3 {deep : Nat} : dpM 3 deep = 10 * (6 - deep) + 18 := rfl
theorem dp_4 {deep : Nat} : dpM 4 deep = 10 * (6 - deep) + 19 := rfl
theorem dp_5 {deep : Nat} : dpM 5 deep = 10 * (6 - deep) + 20 := rfl
section ReadM2
variable {B : Nat → Nat} {n rd : Nat}
def rdA (B : Nat → Nat) (n rd f : Nat) : Prop := ∀ (nt deep p m : Nat) (r : PR) (d : Nat) (I : MI) (L : ML) (K : MI → ML → Prop), nt ≤ 5 → deep ≤ 6 → prs B n rd f nt deep p [] d0 = some r → PsM I B n p → I 704 0 15 = nI rd → I 709 0 283 = nI m → m ≤ p → dpM nt deep ≤ d → (∀ I', mOut B n I m r I' → K I' L) → CV d (mRd nt) [vR 704 0, vI (nI deep)] I L K
def rdL (B : Nat → Nat) (n rd f self nt : Nat) (mt : MTy) (ls : Nat → List MV) : Prop := ∀ (deep p m : Nat) (ac : List Nat) (ag : DN) (r : PR) (d : Nat) (I0 J : MI) (L : ML) (Q : QT), deep ≤ 6 → prs B n rd f self deep p ac ag = some r → cOk rd self ac ag → PsM J B n p → J 704 0 15 = nI rd → cdA I0 J m ac → frL I0 J → m + ac.length ≤ p → dpM nt deep ≤ d + 1 → (∀ I', mOut B n I0 m r I' → Q none I' L) → XX (d + 1) mt Q 5 (ls deep) [] J L
theorem mO_tr {I I1 I' : MI} {m : Nat} {c : List Nat} {r : PR} (hc : cdA I I1 m c) (hF : frL I I1) (h : mOut B n I1 (m + c.length) r I') : (∃ x, r = Sum.inl x ∧ FtM I' x.1 x.2 ∧ frL I I') ∨ ∃ p c2 g, r = Sum.inr (p, c2, g) ∧ PsM I' B n p ∧ cdA I I' m (c ++ c2) ∧ frL I I' := by
  cases r with
  | inl x => exact Or.inl ⟨x, rfl, h.1, hF.tr h.2⟩
  | inr x => exact Or.inr ⟨x.1, x.2.1, x.2.2, rfl, h.1, cdA_app hc h.2.1, hF.tr h.2.2⟩
/-- one more of a row, and on -/
theorem lp_on {f self sub cd o deep p nt : Nat} {mt : MTy} {ls : Nat → List MV} {ac : List Nat} {ag : DN} {r : PR} {d m : Nat} {I0 J : MI} {L : ML} {Q : QT} (hA : rdA B n rd f) (hL : rdL B n rd f self nt mt ls) (hs6 : 6 ≤ self) (hs9 : self ≤ 9) (hsub : sub ≤ 5) (hop : (cd, o) ∈ opL) (hst : ∀ x y, rgN self x → rgN sub y → rgN self (of2 o x y)) (hdp : deep ≤ 6) (hp : p ≤ n) (hd2 : dpM sub deep ≤ d) (hd3 : dpM nt deep ≤ d + 1) (h24 : (tkn B n p).1 ≠ 24)
    (h : bnd (prs B n rd f sub deep (tkn B n p).2.2.1 [] d0) (fun p2 c g => prs B n rd f self deep p2 (ac ++ c ++ [cd]) (fun nm => of2 o (ag nm) (g nm))) = some r) (hok : cOk rd self ac ag) (hc : cdA I0 J m ac) (hF : frL I0 J) (hm : m + ac.length ≤ p) (hPe : PsM J B n (tkn B n p).2.2.1) (h15 : J 704 0 15 = nI rd)
    (hend : ∀ I' k pl, FtM I' k pl → Q none I' L → XX (d + 1) mt Q 5 (ls deep) [] I' L) (hK : ∀ I', mOut B n I0 m r I' → Q none I' L) : CV d (mRd sub) [vR 704 0, vI (nI deep)] J L (fun I6 L7 => CV d m_M_codes [vR 704 0, vI (nI cd)] I6 L7 (fun I8 L9 => XX (d + 1) mt Q 5 (ls deep) [] I8 L9)) := by
  have hf := tk_f (B := B) hp
  have hlt := hf.2.2.2.2.2.1 h24
  have hf1 := hf.1
  have hd12 : 12 ≤ d := by unfold dpM at hd2; omega
  have hn : n ≤ 900 := hPe.1.2.1
  rcases bnd_cs h with ⟨x, e, er⟩ | ⟨p2, c, g, e, hk⟩
  · refine hA sub deep _ (m + ac.length) _ d J L _ hsub hdp e hPe h15 hc.1 (by omega) hd2 (fun I' hO => ?_)
    obtain ⟨hFt, hFr⟩ := hO
    exact c_M_codesF (by omega) hFt (hend I' _ _ hFt (hK I' (by rw [er]; exact ⟨hFt, hF.tr hFr⟩)))
  · have hr := prs_ok (B := B) (n := n) (rd := rd) f sub deep _ [] d0 _ (by omega) hf.2.2.1 (fun _ => rfl) (fun z => by omega) e
    obtain ⟨a1, a2, a3, a4, a5, a6⟩ := hr
    have a1 : (tkn B n p).2.2.1 ≤ p2 := a1
    have a5 : c.length ≤ 0 + (p2 - (tkn B n p).2.2.1) := a5
    refine hA sub deep _ (m + ac.length) _ d J L _ hsub hdp e hPe h15 hc.1 (by omega) hd2 (fun I' hO => ?_)
    obtain ⟨hP2, hc2, hF2⟩ := hO
    have hcc := cdA_app hc hc2
    refine c_M_codes (by omega) hP2 hcc (hF.tr hF2) (by rw [List.length_append]; show m + (ac.length + c.length) < 900; have a2 : p2 ≤ n := a2; omega) (fun I3 hP3 hc3 hF3 => ?_)
    refine hL deep p2 m _ _ r d I0 I3 L Q hdp hk ⟨fun nm wd hb hw s => mgo_op hop (hok.1 nm wd hb hw s) (a6.1 nm wd hb hw _) (rgN_rg (hok.2 nm hb)) (rgN_rg (a6.2 nm hb)), fun nm hb => hst _ _ (hok.2 nm hb) (a6.2 nm hb)⟩ hP3 ?_ hc3 hF3 (by simp only [List.length_append, List.length_cons, List.length_nil]; omega) hd3 hK
    have q1 : J 704 0 15 = I0 704 0 15 := hF.2.1 15 (by omega)
    rw [hF3.2.1 15 (by omega), ← q1]; exact h15
theorem rdL_of {f self sub tk cd o nt : Nat} {mt : MTy} (hA : rdA B n rd f) (hL : rdL B n rd f self nt mt (fun deep => [vR 704 0, vI (nI deep)])) (hs6 : 6 ≤ self) (hs9 : self ≤ 9) (hsub : sub ≤ 5) (htk : tk ≠ 24) (ht9 : tk ≤ 100) (hop : (cd, o) ∈ opL) (hst : ∀ x y, rgN self x → rgN sub y → rgN self (of2 o x y)) (hdn : ∀ deep, dpM sub deep + 1 ≤ dpM nt deep)
    (hbd : ∀ deep p ac ag, prs B n rd (f + 1) self deep p ac ag = lop B n (prs B n rd f) self sub tk cd o deep p ac ag)
    (rule : ∀ (d deep : Nat) (Q : QT) (J : MI) (L : ML), CI d m_M_eats [vR 704 0, vI (nI tk)] J L (fun x5 I3 L4 => (x5 = 0 → (Q none I3 L4)) ∧ (¬ (x5 = 0) → (CV d (mRd sub) [vR 704 0, vI (nI deep)] I3 L4 (fun I6 L7 => CV d m_M_codes [vR 704 0, vI (nI cd)] I6 L7 (fun I8 L9 => XX (d + 1) mt Q 5 [vR 704 0, vI (nI deep)] [] I8 L9))))) → XX (d + 1) mt Q 5 [vR 704 0, vI (nI deep)] [] J L) : rdL B n rd (f + 1) self nt mt (fun deep => [vR 704 0, vI (nI deep)]) := by
  intro deep p m ac ag r d I0 J L Q hdp h hok hP h15 hc hF hm hd hK
  have hdn := hdn deep
  have hd12 : 12 ≤ d := by unfold dpM at hd hdn; omega
  rw [hbd] at h
  unfold lop at h
  have hend : ∀ I' k pl, FtM I' k pl → Q none I' L → XX (d + 1) mt Q 5 [vR 704 0, vI (nI deep)] [] I' L := fun I' k pl hFt hq => rule d deep Q I' L (c_M_eatsF (by omega) hFt ⟨fun _ => hq, fun z => absurd rfl z⟩)
  refine rule d deep Q J L (c_M_eats (by omega) hP ht9 (fun e I' hP' hF' => ⟨fun z => absurd z (by decide), fun _ => ?_⟩) (fun e => ⟨fun _ => hK J ?_, fun z => absurd rfl z⟩))
  · rw [if_pos e] at h
    have hN := frW_N hF'
    exact lp_on hA hL hs6 hs9 hsub hop hst hdp hP.2.2.1 (by omega) hd (by omega) h hok (cdA_fr hc hN) (hF.tr (frN_L hN)) hm hP' (by rw [hF'.2 15 (by omega)]; exact h15) hend hK
  · rw [if_neg e] at h
    injection h with h
    subst h
    exact ⟨hP, hc, hF⟩
theorem sumL_of {f : Nat} (hA : rdA B n rd f) (hL : rdL B n rd f 7 2 m_M_readSum (fun deep => [vR 704 0, vI (nI deep), vD])) : rdL B n rd (f + 1) 7 2 m_M_readSum (fun deep => [vR 704 0, vI (nI deep), vD]) := by
  intro deep p m ac ag r d I0 J L Q hdp h hok hP h15 hc hF hm hd hK
  have hd12 : 15 ≤ d := by rw [dp_2] at hd; omega
  have hl := tk_lt (B := B) hP.2.2.1
  have hend : ∀ I' k pl, FtM I' k pl → Q none I' L → XX (d + 1) m_M_readSum Q 5 [vR 704 0, vI (nI deep), vD] [] I' L := fun I' k pl hFt hq => r_M_readSum_5 (c_M_isF (by omega) hFt ⟨fun z => absurd rfl z, fun _ => c_M_isF (by omega) hFt ⟨fun _ => hq, fun z => absurd rfl z⟩⟩)
  have h : (if (tkn B n p).1 = 33 then lop B n (prs B n rd f) 7 1 33 3001 3 deep p ac ag else lop B n (prs B n rd f) 7 1 32 3000 2 deep p ac ag) = some r := h
  have e9 : J 704 0 9 = nI (tkn B n p).1 := hP.2.1.2.2.1
  refine r_M_readSum_5 (c_M_is (j := 32) (by omega) hP (by omega) (fun e => ⟨fun _ => ?_, fun z => absurd (by decide) z⟩) (fun e => ⟨fun z => absurd rfl z, fun _ => c_M_is (j := 33) (by omega) hP (by omega) (fun e2 => ⟨fun z => absurd z (by decide), fun _ => ?_⟩) (fun e2 => ⟨fun _ => hK J ?_, fun z => absurd rfl z⟩)⟩))
  · rw [if_neg (by omega)] at h
    unfold lop at h
    rw [if_pos e] at h
    rw [e9, e]
    refine ⟨fun z => absurd rfl z, fun _ => c_M_next (by omega) hP (fun I' hP' hF' => ?_)⟩
    have hN := frW_N hF'
    exact lp_on hA hL (by omega) (by omega) (by omega) (by decide) (fun _ _ _ _ => of2_rg (Or.inl rfl)) hdp hP.2.2.1 (by rw [dp_1]; rw [dp_2] at hd; omega) hd (by omega) h hok (cdA_fr hc hN) (hF.tr (frN_L hN)) hm hP' (by rw [hF'.2 15 (by omega)]; exact h15) hend hK
  · rw [if_pos e2] at h
    unfold lop at h
    rw [if_pos e2] at h
    rw [e9, e2]
    refine ⟨fun _ => c_M_next (by omega) hP (fun I' hP' hF' => ?_), fun z => absurd (by decide) z⟩
    have hN := frW_N hF'
    exact lp_on hA hL (by omega) (by omega) (by omega) (by decide) (fun _ _ _ _ => of2_rg (Or.inr (Or.inl rfl))) hdp hP.2.2.1 (by rw [dp_1]; rw [dp_2] at hd; omega) hd (by omega) h hok (cdA_fr hc hN) (hF.tr (frN_L hN)) hm hP' (by rw [hF'.2 15 (by omega)]; exact h15) hend hK
  · rw [if_neg e2] at h
    unfold lop at h
    rw [if_neg e] at h
    injection h with h
    subst h
    exact ⟨hP, hc, hF⟩
/-- one, and the row behind it -/
theorem seqM {f sub self nt : Nat} {mt : MTy} {ls : Nat → List MV} {deep p m : Nat} {r : PR} {d : Nat} {I : MI} {L : ML} {Q : QT} (hA : rdA B n rd f) (hL : rdL B n rd f self nt mt ls) (hsub : sub ≤ 5) (hs6 : 6 ≤ self) (hs9 : self ≤ 9) (ht : ∀ c g, cOk rd sub c g → cOk rd self c g) (hdp : deep ≤ 6) (h : bnd (prs B n rd f sub deep p [] d0) (fun p1 c g => prs B n rd f self deep p1 c g) = some r) (hP : PsM I B n p) (h15 : I 704 0 15 = nI rd) (h283 : I 709 0 283 = nI m) (hm : m ≤ p) (hd2 : dpM sub deep ≤ d) (hd3 : dpM nt deep ≤ d + 1)
    (hend : ∀ I' k pl, FtM I' k pl → Q none I' L → XX (d + 1) mt Q 5 (ls deep) [] I' L) (hK : ∀ I', mOut B n I m r I' → Q none I' L) : CV d (mRd sub) [vR 704 0, vI (nI deep)] I L (fun I1 L2 => XX (d + 1) mt Q 5 (ls deep) [] I1 L2) := by
  rcases bnd_cs h with ⟨x, e, er⟩ | ⟨p2, c, g, e, hk⟩
  · refine hA sub deep p m _ d I L _ hsub hdp e hP h15 h283 hm hd2 (fun I' hO => ?_)
    obtain ⟨hFt, hFr⟩ := hO
    exact hend I' _ _ hFt (hK I' (by rw [er]; exact ⟨hFt, hFr⟩))
  · obtain ⟨a1, a2, a3, a4, a5, a6⟩ := prs_ok (B := B) (n := n) (rd := rd) f sub deep p [] d0 _ (by omega) hP.2.2.1 (fun _ => rfl) (fun z => by omega) e
    have a1 : p ≤ p2 := a1
    have a5 : c.length ≤ 0 + (p2 - p) := a5
    refine hA sub deep p m _ d I L _ hsub hdp e hP h15 h283 hm hd2 (fun I' hO => ?_)
    obtain ⟨hP2, hc2, hF2⟩ := hO
    exact hL deep p2 m c g r d I I' L Q hdp hk (ht _ _ a6) hP2 (by rw [hF2.2.1 15 (by omega)]; exact h15) hc2 hF2 (by omega) hd3 hK
end ReadM2
