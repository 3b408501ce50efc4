/-! the rules of the small machine -/
theorem XX_clo (d : Nat) (m : MTy) (Q : QT) : Clo (CC d) m Q (XX (d + 1) m Q) := by
  refine ⟨?_, ?_, ?_, ?_, ?_, ?_, ?_, ?_, ?_, ?_, ?_, ?_, ?_, ?_, ?_⟩
  · intro pc q ls st I L ls' st' I' L' P h1 h2 h3 h4 R hR
    exact hR.1 pc q ls st I L ls' st' I' L' P h1 h2 h3 (h4 R hR)
  · intro pc tgt off ls st I L h1 h2 h3 R hR
    exact hR.2.1 pc tgt off ls st I L h1 h2 (h3 R hR)
  · intro pc tgt k off x ls st I L h1 h2 h3 h4 R hR
    exact hR.2.2.1 pc tgt k off x ls st I L h1 h2 (fun c => h3 c R hR) (fun c => h4 c R hR)
  · intro pc tgt k off x y ls st I L h1 h2 h3 h4 R hR
    exact hR.2.2.2.1 pc tgt k off x y ls st I L h1 h2 (fun c => h3 c R hR) (fun c => h4 c R hR)
  · intro pc tgt off v ls st I L h1 h2 h0 h3 h4 R hR
    exact hR.2.2.2.2.1 pc tgt off v ls st I L h1 h2 h0 (fun c => h3 c R hR) (fun c => h4 c R hR)
  · intro pc tgt off v ls st I L h1 h2 h0 h3 h4 R hR
    exact hR.2.2.2.2.2.1 pc tgt off v ls st I L h1 h2 h0 (fun c => h3 c R hR) (fun c => h4 c R hR)
  · intro pc len i ks dd x ls st I L h1 h2 h3 h4 R hR
    exact hR.2.2.2.2.2.2.1 pc len i ks dd x ls st I L h1 h2 (fun k t hk e => ⟨(h3 k t hk e).1, (h3 k t hk e).2 R hR⟩) (fun c => ⟨(h4 c).1, (h4 c).2 R hR⟩)
  · intro pc x ls I L h1 h2 h3 R hR
    exact hR.2.2.2.2.2.2.2.1 pc x ls I L h1 h2 h3
  · intro pc x ls I L h1 h2 h3 R hR
    exact hR.2.2.2.2.2.2.2.2.1 pc x ls I L h1 h2 h3
  · intro pc v ls I L h1 h2 h3 h4 R hR
    exact hR.2.2.2.2.2.2.2.2.2.1 pc v ls I L h1 h2 h3 h4
  · intro pc ls I L h1 h2 h3 R hR
    exact hR.2.2.2.2.2.2.2.2.2.2.1 pc ls I L h1 h2 h3
  · intro pc idx n y v a rest ls I L Q' h1 h2 h3 h4 h5 h8 h6 h7 R hR
    exact hR.2.2.2.2.2.2.2.2.2.2.2.1 pc idx n y v a rest ls I L Q' h1 h2 h3 h4 h5 h8 h6 (fun r I' L' hq => h7 r I' L' hq R hR)
  · intro pc idx n y a rest ls I L Q' h1 h2 h3 h5 h8 h6 h7 R hR
    exact hR.2.2.2.2.2.2.2.2.2.2.2.2.1 pc idx n y a rest ls I L Q' h1 h2 h3 h5 h8 h6 (fun r I' L' hq => h7 r I' L' hq R hR)
  · intro pc ls ls' st I L h1 h2 R hR
    exact hR.2.2.2.2.2.2.2.2.2.2.2.2.2.1 pc ls ls' st I L h1 (h2 R hR)
  · intro pc k ls st I L h1 h2 h3 R hR
    exact hR.2.2.2.2.2.2.2.2.2.2.2.2.2.2 pc k ls st I L h1 h2 (fun v hv => h3 v hv R hR)
theorem Clo_mono {CJ CJ' : CJT} {m : MTy} {Q Q' : QT} {R : RT} (hC : ∀ y a I L Q, CJ y a I L Q → CJ' y a I L Q) (hQ : ∀ r I L, Q r I L → Q' r I L) (h : Clo CJ' m Q' R) : Clo CJ m Q R := by
  obtain ⟨a1, a2, a3, a4, a5, a6, a7, a8, a9, a10, a11, a12, a13, a14, a15⟩ := h
  exact ⟨a1, a2, a3, a4, a5, a6, a7, fun pc x ls I L h1 h2 h3 => a8 pc x ls I L h1 h2 (hQ _ _ _ h3), fun pc x ls I L h1 h2 h3 => a9 pc x ls I L h1 h2 (hQ _ _ _ h3), fun pc v ls I L h1 h2 h3 h4 => a10 pc v ls I L h1 h2 h3 (hQ _ _ _ h4), fun pc ls I L h1 h2 h3 => a11 pc ls I L h1 h2 (hQ _ _ _ h3),
    fun pc idx n y v a rest ls I L Q' h1 h2 h3 h4 h5 h8 h6 h7 => a12 pc idx n y v a rest ls I L Q' h1 h2 h3 h4 h5 h8 (hC _ _ _ _ _ h6) h7, fun pc idx n y a rest ls I L Q' h1 h2 h3 h5 h8 h6 h7 => a13 pc idx n y a rest ls I L Q' h1 h2 h3 h5 h8 (hC _ _ _ _ _ h6) h7, a14, a15⟩
theorem XX_up (d : Nat) : ∀ (m : MTy) (Q : QT) (pc : Nat) (ls st : List MV) (I : MI) (L : ML), XX d m Q pc ls st I L → XX (d + 1) m Q pc ls st I L := by
  induction d with
  | zero => intro m Q pc ls st I L h; exact False.elim h
  | succ d ih =>
    intro m Q pc ls st I L h R hR
    exact h R (Clo_mono (fun y a I L Q' hc => ih y Q' _ _ _ I L hc) (fun _ _ _ q => q) hR)
theorem XX_le {d d' : Nat} (hd : d ≤ d') {m : MTy} {Q : QT} {pc : Nat} {ls st : List MV} {I : MI} {L : ML} (h : XX d m Q pc ls st I L) : XX d' m Q pc ls st I L := by
  induction hd with
  | refl => exact h
  | step _ ih => exact XX_up _ _ _ _ _ _ _ _ ih
theorem CC_le {d d' : Nat} (hd : d ≤ d') {m : MTy} {Q : QT} {a : List MV} {I : MI} {L : ML} (h : CC d m a I L Q) : CC d' m a I L Q := XX_le hd h
theorem XX_post {d : Nat} {m : MTy} {Q Q' : QT} {pc : Nat} {ls st : List MV} {I : MI} {L : ML} (h : XX d m Q pc ls st I L) (hQ : ∀ r I L, Q r I L → Q' r I L) : XX d m Q' pc ls st I L := by
  cases d with
  | zero => exact False.elim h
  | succ d => exact fun R hR => h R (Clo_mono (fun _ _ _ _ _ q => q) hQ hR)
theorem CC_post {d : Nat} {m : MTy} {Q Q' : QT} {a : List MV} {I : MI} {L : ML} (h : CC d m a I L Q) (hQ : ∀ r I L, Q r I L → Q' r I L) : CC d m a I L Q' := XX_post h hQ
section Rules
variable {d : Nat} {m : MTy} {Q : QT} {pc tgt : Nat} {off : Int} {ls st rest : List MV} {I : MI} {L : ML}
theorem X_seg : ∀ (qs : List RI) {pc pc' : Nat} {ls st ls' st' : List MV} {I I' : MI} {L L' : ML} {P : Prop}, cks m.1 m.2.1 pc qs pc' = true → exs qs ls st I L = some (ls', st', I', L', P) → P → XX (d + 1) m Q pc' ls' st' I' L' → XX (d + 1) m Q pc ls st I L := by
  intro qs
  induction qs with
  | nil =>
    intro pc pc' ls st ls' st' I I' L L' P h1 h2 hp hk
    have e : pc = pc' := by simpa [cks] using h1
    have h2 : some (ls, st, I, L, True) = some (ls', st', I', L', P) := h2
    cases h2
    rw [e]
    exact hk
  | cons q r ih =>
    intro pc pc' ls st ls' st' I I' L L' P h1 h2 hp hk
    simp only [cks, Bool.and_eq_true] at h1
    simp only [exs] at h2
    split at h2
    · rename_i ls1 st1 I1 L1 P1 e1
      split at h2
      · rename_i ls2 st2 I2 L2 P2 e2
        cases h2
        exact (XX_clo d m Q).1 pc q ls st I L _ _ _ _ _ h1.1 e1 hp.1 (ih h1.2 e2 hp.2 hk)
      · cases h2
    · cases h2
theorem X_goto (h1 : decode m.2.1 pc = .ok (.goto off, 3)) (h2 : (pc : Int) + off = (tgt : Int)) (h3 : XX (d + 1) m Q tgt ls st I L) : XX (d + 1) m Q pc ls st I L := (XX_clo d m Q).2.1 pc tgt off ls st I L h1 h2 h3
theorem X_if {k : Jvm.ClassFile.Cond} {x : Int32} (h1 : decode m.2.1 pc = .ok (.ifCond k off, 3)) (h2 : (pc : Int) + off = (tgt : Int)) (h3 : cz k x → XX (d + 1) m Q tgt ls st I L) (h4 : ¬ cz k x → XX (d + 1) m Q (pc + 3) ls st I L) : XX (d + 1) m Q pc ls (vI x :: st) I L := (XX_clo d m Q).2.2.1 pc tgt k off x ls st I L h1 h2 h3 h4
theorem X_icmp {k : Jvm.ClassFile.Cond} {x y : Int32} (h1 : decode m.2.1 pc = .ok (.if_icmp k off, 3)) (h2 : (pc : Int) + off = (tgt : Int)) (h3 : cy k x y → XX (d + 1) m Q tgt ls st I L) (h4 : ¬ cy k x y → XX (d + 1) m Q (pc + 3) ls st I L) : XX (d + 1) m Q pc ls (vI y :: vI x :: st) I L := (XX_clo d m Q).2.2.2.1 pc tgt k off x y ls st I L h1 h2 h3 h4
theorem X_null {v : MV} (h1 : decode m.2.1 pc = .ok (.ifnull off, 3)) (h2 : (pc : Int) + off = (tgt : Int)) (h0 : v = vN ∨ ∃ r i, v = vR r i) (h3 : v = vN → XX (d + 1) m Q tgt ls st I L) (h4 : v ≠ vN → XX (d + 1) m Q (pc + 3) ls st I L) : XX (d + 1) m Q pc ls (v :: st) I L := (XX_clo d m Q).2.2.2.2.1 pc tgt off v ls st I L h1 h2 h0 h3 h4
theorem X_nonnull {v : MV} (h1 : decode m.2.1 pc = .ok (.ifnonnull off, 3)) (h2 : (pc : Int) + off = (tgt : Int)) (h0 : v = vN ∨ ∃ r i, v = vR r i) (h3 : v ≠ vN → XX (d + 1) m Q tgt ls st I L) (h4 : v = vN → XX (d + 1) m Q (pc + 3) ls st I L) : XX (d + 1) m Q pc ls (v :: st) I L := (XX_clo d m Q).2.2.2.2.2.1 pc tgt off v ls st I L h1 h2 h0 h3 h4
theorem X_sw {len : Nat} {i : Instr} {ks : List (Int × Int)} {dd : Int} {x : Int32} (h1 : decode m.2.1 pc = .ok (i, len)) (h2 : swK i pc = some (ks, dd)) (h3 : ∀ k t : Int, (k, t) ∈ ks → x.toInt = k → 0 ≤ t ∧ XX (d + 1) m Q t.toNat ls st I L) (h4 : (∀ k t : Int, (k, t) ∈ ks → x.toInt ≠ k) → 0 ≤ dd ∧ XX (d + 1) m Q dd.toNat ls st I L) : XX (d + 1) m Q pc ls (vI x :: st) I L := (XX_clo d m Q).2.2.2.2.2.2.1 pc len i ks dd x ls st I L h1 h2 h3 h4
theorem X_iret {x : Int32} (h1 : decode m.2.1 pc = .ok (.ireturn, 1)) (h2 : rtO m.2.2.2.1 x) (h3 : Q (some (vI x)) I L) : XX (d + 1) m Q pc ls [vI x] I L := (XX_clo d m Q).2.2.2.2.2.2.2.1 pc x ls I L h1 h2 h3
theorem X_lret {x : Int64} (h1 : decode m.2.1 pc = .ok (.lreturn, 1)) (h2 : m.2.2.2.1 = some .long) (h3 : Q (some (vL x)) I L) : XX (d + 1) m Q pc ls [vL x] I L := (XX_clo d m Q).2.2.2.2.2.2.2.2.1 pc x ls I L h1 h2 h3
theorem X_aret {v : MV} (h1 : decode m.2.1 pc = .ok (.areturn, 1)) (h2 : ∃ n, m.2.2.2.1 = some (.object n)) (h0 : v = vN ∨ ∃ r i, v = vR r i) (h3 : Q (some v) I L) : XX (d + 1) m Q pc ls [v] I L := (XX_clo d m Q).2.2.2.2.2.2.2.2.2.1 pc v ls I L h1 h2 h0 h3
theorem X_vret (h1 : decode m.2.1 pc = .ok (.return_, 1)) (h2 : m.2.2.2.1 = none) (h3 : Q none I L) : XX (d + 1) m Q pc ls [] I L := (XX_clo d m Q).2.2.2.2.2.2.2.2.2.2.1 pc ls I L h1 h2 h3
theorem X_callv {idx n : Nat} {y : MTy} {v : MV} (a : List MV) {Q' : QT} (h1 : okCT m.1 idx false n y) (h2 : decode m.2.1 pc = .ok (.invokevirtual idx, 3)) (h3 : a.length = n) (h4 : rcvOk y v) (h5 : wsum rest ≤ 8) (h8 : (enL (v :: a)).length ≤ y.2.2.1) (hs : st = a.reverse ++ v :: rest) (h6 : CC d y (v :: a) I L Q') (h7 : ∀ r I' L', Q' r I' L' → XX (d + 1) m Q (pc + 3) ls (r.toList ++ rest) I' L') : XX (d + 1) m Q pc ls st I L := by
  subst hs
  exact (XX_clo d m Q).2.2.2.2.2.2.2.2.2.2.2.1 pc idx n y v a rest ls I L Q' h1 h2 h3 h4 h5 h8 h6 h7
theorem X_calls {idx n : Nat} {y : MTy} (a : List MV) {Q' : QT} (h1 : okCT m.1 idx true n y) (h2 : decode m.2.1 pc = .ok (.invokestatic idx, 3)) (h3 : a.length = n) (h5 : wsum rest ≤ 8) (h8 : (enL a).length ≤ y.2.2.1) (hs : st = a.reverse ++ rest) (h6 : CC d y a I L Q') (h7 : ∀ r I' L', Q' r I' L' → XX (d + 1) m Q (pc + 3) ls (r.toList ++ rest) I' L') : XX (d + 1) m Q pc ls st I L := by
  subst hs
  exact (XX_clo d m Q).2.2.2.2.2.2.2.2.2.2.2.2.1 pc idx n y a rest ls I L Q' h1 h2 h3 h5 h8 h6 h7
theorem X_wk {ls' : List MV} (h1 : wk ls' ls) (h2 : XX (d + 1) m Q pc ls' st I L) : XX (d + 1) m Q pc ls st I L := (XX_clo d m Q).2.2.2.2.2.2.2.2.2.2.2.2.2.1 pc ls ls' st I L h1 h2
theorem X_gets {k : Nat} (h1 : decode m.2.1 pc = .ok (.getstatic k, 3)) (h2 : GZl.contains (m.1, k) = true) (h3 : ∀ v : MV, v = vN ∨ v = vR 4004 0 → XX (d + 1) m Q (pc + 3) ls (v :: st) I L) : XX (d + 1) m Q pc ls st I L := (XX_clo d m Q).2.2.2.2.2.2.2.2.2.2.2.2.2.2 pc k ls st I L h1 h2 h3
end Rules
