/-! what both sides keep: road, stand, past -/
def Zr (R : RD) (s : SA) : Prop := ∀ c, rC R ≤ c → c < 6 → s.1 c = 0 ∧ s.2.1 c = 0 ∧ s.2.2.1 c = 0
def OkS (R : RD) (s : SA) : Prop := SR R s 9 ∧ Zr R s
theorem trn_Zr {R : RD} {s : SA} {out : Int32} (h : Zr R s) : Zr R (trn R s out) := fun c h1 h2 => ⟨by show frO R s out c = 0; unfold frO; rw [if_neg (by omega)], (h c h1 h2).1, rfl⟩
theorem trn_Ok {R : RD} (hR : WF R) {s : SA} {out : Int32} (h : OkS R s) : OkS R (trn R s out) := ⟨(trn_SR hR (by omega) h.1).mono (by omega), trn_Zr h.2⟩
theorem itN_Ok {R : RD} (hR : WF R) {s : SA} (h : OkS R s) : ∀ n, OkS R (itN R s n)
  | 0 => h
  | n + 1 => trn_Ok hR (itN_Ok hR h n)
def CoC (I : MI) (R : RD) (s : SA) (P : List SA) : Prop := RoadA I 0 R ∧ StA I 0 s ∧ GoA I R ∧ PaA I P
def CoM (I : MI) (R : RD) (s : SA) (P : List SA) : Prop := MRo (I 706 0) R ∧ MSt (I 706 0) s ∧ MPa (I 706 0) P
def CoO (R : RD) (s : SA) (P : List SA) : Prop := WF R ∧ OkS R s ∧ ∀ p ∈ P, OkS R p
theorem pusL_mem {P : List SA} {s p : SA} (h : p ∈ pusL P s) : p ∈ P ∨ p = s := by
  unfold pusL at h
  by_cases q : P.length < 10
  · rw [if_pos q] at h
    rcases List.mem_append.mp h with z | z
    · exact Or.inl z
    · exact Or.inr (by simpa using z)
  · rw [if_neg q] at h
    rcases List.mem_append.mp h with z | z
    · exact Or.inl (List.mem_of_mem_tail z)
    · exact Or.inr (by simpa using z)
theorem CoO.push {R : RD} {s t : SA} {P : List SA} (h : CoO R s P) (ht : OkS R t) : CoO R t (pusL P s) := ⟨h.1, ht, fun p hp => (pusL_mem hp).elim (h.2.2 p) (fun z => z ▸ h.2.1)⟩
/-- cells that the program may change when it goes on -/
def cdS : Nat → Nat → Prop := fun r a => ((r = 256 ∨ r = 257 ∨ r = 258 ∨ r = 259) ∧ a < 19) ∨ goS r a ∨ (r = 576 ∧ a = 0)
theorem tu_cd {i : Nat} (hi : i < 19) {I I' : MI} (h : Same (tuS i) I I') : Same cdS I I' := h.mono (fun r a q => q.elim (fun z => Or.inr (Or.inl z)) (fun z => Or.inl ⟨z.1, by rw [z.2]; exact hi⟩))
theorem st_cd {i : Nat} (hi : i < 19) {I I' : MI} (h : Same (stS i) I I') : Same cdS I I' := h.mono (fun r a z => Or.inl ⟨z.1, by rw [z.2]; exact hi⟩)
theorem pa_cd {I I' : MI} (h : Same paS I I') : Same cdS I I' := h.mono (fun r a q => q.elim (fun z => Or.inr (Or.inr z)) (fun z => Or.inl ⟨z.1, z.2.2⟩))
theorem bk_cd {i : Nat} (hi : i < 19) {I I' : MI} (h : Same (bkS i) I I') : Same cdS I I' := h.mono (fun r a q => q.elim (fun z => Or.inr (Or.inr z)) (fun z => Or.inl ⟨z.1, by rw [z.2]; exact hi⟩))
theorem rm_cd {I I' : MI} (h : Same rmS I I') : Same cdS I I' := h.mono (fun r a q => Or.inr (Or.inl ⟨by rcases q.1 with z | z | z | z | z | z <;> simp [z], q.2⟩))
theorem tuS_pa {i : Nat} (hi : i < 9) : ¬ tuS i 576 0 ∧ ∀ r a, 256 ≤ r → r ≤ 259 → 9 ≤ a → a < 19 → ¬ tuS i r a := by
  refine ⟨fun q => ?_, fun r a h1 h2 h3 h4 q => ?_⟩
  · rcases q with z | z
    · rcases z.1 with y | y | y | y | y | y | y | y | y <;> omega
    · rcases z.1 with y | y | y | y <;> omega
  · rcases q with z | z
    · exact goS_st h1 h2 z
    · have := z.2; omega
theorem GoA_pa {I I' : MI} {R : RD} (h : GoA I R) (hs : Same paS I I') : GoA I' R := by
  have n : ∀ r, 320 ≤ r → r ≤ 328 → I' r 0 = I r 0 := fun r h1 h2 => hs r 0 (fun q => by rcases q with z | z <;> omega)
  have e8 : I' 320 0 8 = I 320 0 8 := by rw [n 320 (by omega) (by omega)]
  have ek : knA I' R := fun w hw k hk => by rw [n 328 (by omega) (by omega)]; exact h.2.2.2 w hw k hk
  exact GoA_of h (n 325 (by omega) (by omega)) (fun c _ _ => by rw [n 326 (by omega) (by omega)]) e8 (n 323 (by omega) (by omega)) (n 324 (by omega) (by omega)) ek
theorem paS_road {r k : Nat} (h1 : 128 ≤ r) (h2 : r ≤ 135) : ¬ paS r k := fun q => by rcases q with z | z <;> omega
theorem stS_road {i r k : Nat} (h1 : 128 ≤ r) (h2 : r ≤ 135) : ¬ stS i r k := fun q => by rcases q.1 with z | z | z | z <;> omega
theorem stS_pa {i : Nat} (hi : i < 9) : ¬ stS i 576 0 ∧ ∀ r a, 256 ≤ r → r ≤ 259 → 9 ≤ a → a < 19 → ¬ stS i r a := ⟨fun q => by rcases q.1 with y | y | y | y <;> omega, fun r a _ _ h3 _ q => by have := q.2; omega⟩
/-! how many are late -/
theorem whoN_lt (f : Nat → Int32) : ∀ n, n ≤ 6 → ∃ k, k < 2 ^ n ∧ whoN f n = nI k := by
  have step : ∀ n, n < 6 → ∀ k, k < 2 ^ n → ∃ k', k' < 2 ^ (n + 1) ∧ nI k ||| ((1 : Int32) <<< (nI n &&& 31)) = nI k' := by
    have ck : ((List.range 6).all fun n => (List.range (2 ^ n)).all fun k => decide (k + 2 ^ n < 2 ^ (n + 1)) && decide (nI k ||| ((1 : Int32) <<< (nI n &&& 31)) = nI (k + 2 ^ n))) = true := by decide +kernel
    intro n hn k hk
    have h1 := List.all_eq_true.mp (List.all_eq_true.mp ck n (List.mem_range.mpr hn)) k (List.mem_range.mpr hk)
    simp only [Bool.and_eq_true, decide_eq_true_eq] at h1
    exact ⟨k + 2 ^ n, h1.1, h1.2⟩
  intro n
  induction n with
  | zero => intro _; exact ⟨0, by decide, rfl⟩
  | succ n ih =>
    intro hn
    obtain ⟨k, hk, e⟩ := ih (by omega)
    simp only [whoN]
    by_cases q : 0 < f n
    · rw [if_pos q, e]
      exact step n (by omega) k hk
    · rw [if_neg q, e]
      exact ⟨k, by have := Nat.pow_lt_pow_right (a := 2) (by omega) (show n < n + 1 by omega); omega, rfl⟩
theorem whoN_z {f : Nat → Int32} {C : Nat} : ∀ j, (∀ c, C ≤ c → c < C + j → f c = 0) → whoN f (C + j) = whoN f C
  | 0, _ => rfl
  | j + 1, h => by
    show (if 0 < f (C + j) then _ else whoN f (C + j)) = _
    rw [h (C + j) (by omega) (by omega), if_neg (by decide)]
    exact whoN_z j (fun c h1 h2 => h c h1 (by omega))
theorem sumN_z {f : Nat → Int32} {C : Nat} : ∀ j, (∀ c, C ≤ c → c < C + j → f c = 0) → sumN f (C + j) = sumN f C
  | 0, _ => rfl
  | j + 1, h => by
    show sumN f (C + j) + f (C + j) = _
    rw [h (C + j) (by omega) (by omega), Int32.add_zero]
    exact sumN_z j (fun c h1 h2 => h c h1 (by omega))
def cntW (x : Int32) : Int32 := nI (popc 10 x.toNatClampNeg)
theorem who6 {R : RD} (hR : WF R) {s : SA} (h : Zr R s) : whoN s.1 6 = whoN s.1 (rC R) := by
  have hC := hR.1
  have := whoN_z (f := s.1) (C := rC R) (6 - rC R) (fun c h1 h2 => (h c h1 (by omega)).1)
  rw [show rC R + (6 - rC R) = 6 by omega] at this
  exact this
theorem sum6 {R : RD} (hR : WF R) {s : SA} (h : Zr R s) : sumN s.1 6 = sumN s.1 (rC R) := by
  have hC := hR.1
  have := sumN_z (f := s.1) (C := rC R) (6 - rC R) (fun c h1 h2 => (h c h1 (by omega)).1)
  rw [show rC R + (6 - rC R) = 6 by omega] at this
  exact this
section Core
variable {d i : Nat} {I : MI} {L : ML} {R : RD} {s : SA}
theorem c_St_cnt {K : Int32 → MI → ML → Prop} (hd : 2 ≤ d) (hs : StA I i s) (h : K (cntW (whoN s.1 6)) I L) : CI d m_St_lateCount [vR 256 i] I L K := by
  refine c_St_lateCount hd (fun y hy => ?_)
  have e : whoN (I 257 i) 6 = whoN s.1 6 := whoN_eq 6 (fun c hc => hs.1 c hc)
  obtain ⟨k, hk, e2⟩ := whoN_lt s.1 6 (by omega)
  have := hy k (by omega) (e.trans e2)
  rw [this]
  unfold cntW at h
  rw [e2, cl_n (by omega)] at h
  exact h
theorem c_M_whoNow {K : Int32 → MI → ML → Prop} (hd : 1 ≤ d) (hR : WF R) (hM : MRo (I 706 0) R) (hs : MSt (I 706 0) s) (hz : Zr R s) (h : K (whoN s.1 6) I L) : CI d m_M_whoNow [vR 704 0] I L K := by
  refine toCI (n := 0) hd (r_M_whoNow_0 ?_)
  have hC := hR.1
  have key : ∀ (n c : Nat), c + n = rC R → XX (0 + 1) m_M_whoNow (fun r I' L' => ∃ x, r = some (vI x) ∧ K x I' L') 4 [vR 704 0, vI (whoN s.1 c), vI (nI c)] [] I L := by
    intro n
    induction n with
    | zero =>
      intro c hc
      refine r_M_whoNow_4 ?_
      rw [hM.1]
      refine ⟨fun _ => ⟨_, rfl, by rw [show c = rC R by omega, ← who6 hR hz]; exact h⟩, fun q => absurd (nI_le (show rC R ≤ c by omega) (by omega)) q⟩
    | succ n ih =>
      intro c hc
      have e62 : (62 : Int32) + nI c = nI (62 + c) := nI_add 62 c
      refine r_M_whoNow_4 ?_
      rw [hM.1, e62, cl_n (by omega), (hs.1 c (by omega)).1, nI_1]
      have := ih (c + 1) (by omega)
      simp only [whoN] at this
      refine ⟨fun q => absurd q (nI_ge (show c < rC R by omega) (by omega)), fun _ => ⟨vin (by omega) (by omega), fun q => ?_, fun q => ?_⟩⟩
      · rw [if_neg (Int32.not_lt.mpr q)] at this
        rw [or0]
        exact this
      · rw [if_pos (Int32.not_le.mp q)] at this
        exact this
  exact key (rC R) 0 (by omega)
theorem c_M_sumNow {K : Int32 → MI → ML → Prop} (hd : 1 ≤ d) (hR : WF R) (hM : MRo (I 706 0) R) (hs : MSt (I 706 0) s) (hz : Zr R s) (h : K (sumN s.1 6) I L) : CI d m_M_sumNow [vR 704 0] I L K := by
  refine toCI (n := 0) hd (r_M_sumNow_0 ?_)
  have hC := hR.1
  have key : ∀ (n c : Nat), c + n = rC R → XX (0 + 1) m_M_sumNow (fun r I' L' => ∃ x, r = some (vI x) ∧ K x I' L') 4 [vR 704 0, vI (sumN s.1 c), vI (nI c)] [] I L := by
    intro n
    induction n with
    | zero =>
      intro c hc
      refine r_M_sumNow_4 ?_
      rw [hM.1]
      refine ⟨fun _ => ⟨_, rfl, by rw [show c = rC R by omega, ← sum6 hR hz]; exact h⟩, fun q => absurd (nI_le (show rC R ≤ c by omega) (by omega)) q⟩
    | succ n ih =>
      intro c hc
      have e62 : (62 : Int32) + nI c = nI (62 + c) := nI_add 62 c
      refine r_M_sumNow_4 ?_
      rw [hM.1, e62, cl_n (by omega), (hs.1 c (by omega)).1, nI_1]
      exact ⟨fun q => absurd q (nI_ge (show c < rC R by omega) (by omega)), fun _ => ⟨vin (by omega) (by omega), ih (c + 1) (by omega)⟩⟩
  exact key (rC R) 0 (by omega)
/-- the bits below n -/
def bitN (x : Int32) : Nat → Int32
  | 0 => 0
  | n + 1 => bitN x n + ((x >>> (nI n &&& 31)) &&& (1 : Int32))
theorem bit_pop : ((List.range 1024).all fun n => decide (bitN (nI n) 10 = nI (popc 10 n))) = true := by decide +kernel
theorem c_M_bitsOf {n : Nat} {K : Int32 → MI → ML → Prop} (hd : 1 ≤ d) (hn : n < 1024) (h : K (nI (popc 10 n)) I L) : CI d m_M_bitsOf [vI (nI n)] I L K := by
  refine toCI (n := 0) hd (r_M_bitsOf_0 ?_)
  have key : ∀ (j k : Nat), k + j = 10 → XX (0 + 1) m_M_bitsOf (fun r I' L' => ∃ x, r = some (vI x) ∧ K x I' L') 4 [vI (nI n), vI (bitN (nI n) k), vI (nI k)] [] I L := by
    intro j
    induction j with
    | zero =>
      intro k hk
      have e : k = 10 := by omega
      subst e
      refine r_M_bitsOf_4 ⟨fun _ => ⟨_, rfl, ?_⟩, fun q => absurd (by decide) q⟩
      rw [of_decide_eq_true (List.all_eq_true.mp bit_pop n (List.mem_range.mpr hn))]
      exact h
    | succ j ih =>
      intro k hk
      refine r_M_bitsOf_4 ?_
      rw [nI_1]
      exact ⟨fun q => absurd q (nle_c (m := 10) (by omega) (by omega)), fun _ => ih (k + 1) (by omega)⟩
  exact key 10 0 (by omega)
theorem c_M_cnt {K : Int32 → MI → ML → Prop} (hd : 1 ≤ d) (h : K (cntW (whoN s.1 6)) I L) : CI d m_M_bitsOf [vI (whoN s.1 6)] I L K := by
  obtain ⟨k, hk, e2⟩ := whoN_lt s.1 6 (by omega)
  unfold cntW at h
  rw [e2, cl_n (by omega)] at h
  rw [e2]
  exact c_M_bitsOf hd (by omega) h
end Core
theorem lawM_cg {f f' : Nat → Int32} {j : Nat} {o : Option DN} (hj : j < 2) (h : lawM f j o) (e : ∀ j, j < 62 ∨ 283 ≤ j → f' j = f j) : lawM f' j o := by
  cases o with
  | none => show f' (4 + j) = 0; rw [e _ (by omega)]; exact h
  | some g =>
    obtain ⟨h1, b, cs, h6, h8, hl, hc, hg⟩ := h
    exact ⟨by rw [e _ (by omega)]; exact h1, b, cs, by rw [e _ (by omega)]; exact h6, by rw [e _ (by omega)]; exact h8, hl, fun q hq => by rw [e _ (by omega)]; exact hc q hq, hg⟩
theorem MRo_cg {f f' : Nat → Int32} {R : RD} (hR : WF R) (h : MRo f R) (e : ∀ j, j < 62 ∨ 283 ≤ j → f' j = f j) : MRo f' R := by
  have hC := hR.1
  have hW := hR.2.1
  obtain ⟨h1, h2, h3, h4, h5, h6, h7, h8⟩ := h
  refine ⟨by rw [e _ (by omega)]; exact h1, by rw [e _ (by omega)]; exact h2, by rw [e _ (by omega)]; exact h3, by rw [e _ (by omega)]; exact h4, fun c hc => ?_, fun w hw => ?_, lawM_cg (by omega) h7 e, lawM_cg (by omega) h8 e⟩
  · rw [e _ (by omega), e _ (by omega)]; exact h5 c hc
  · rw [e _ (by omega), e _ (by omega), e _ (by omega), e _ (by omega)]; exact h6 w hw
theorem MSt_cg {f f' : Nat → Int32} {s : SA} (h : MSt f s) (e : ∀ j, 62 ≤ j → j < 82 → f' j = f j) : MSt f' s := by
  refine ⟨fun c hc => ?_, by rw [e _ (by omega) (by omega)]; exact h.2.1, by rw [e _ (by omega) (by omega)]; exact h.2.2⟩
  rw [e _ (by omega) (by omega), e _ (by omega) (by omega), e _ (by omega) (by omega)]; exact h.1 c hc
theorem MPa_cg {f f' : Nat → Int32} {P : List SA} (h : MPa f P) (e : ∀ j, 82 ≤ j → j < 283 → f' j = f j) : MPa f' P := by
  obtain ⟨hl, h2, hf⟩ := h
  exact ⟨hl, by rw [e _ (by omega) (by omega)]; exact h2, fun k hk => (hf k hk).cg (fun j hj => e _ (by omega) (by omega))⟩
