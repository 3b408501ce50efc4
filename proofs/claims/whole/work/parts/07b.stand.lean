/-! how all stand: last, earlier, held, mud, rounds -/
abbrev SA : Type := (Nat → Int32) × (Nat → Int32) × (Nat → Int32) × Int32 × Int32
def StA (I : MI) (i : Nat) (s : SA) : Prop := (∀ c, c < 6 → I 257 i c = s.1 c) ∧ (∀ c, c < 6 → I 258 i c = s.2.1 c) ∧ (∀ c, c < 6 → I 259 i c = s.2.2.1 c) ∧ I 256 i 3 = s.2.2.2.1 ∧ I 256 i 4 = s.2.2.2.2
/-- the cells of one -/
def stS (i : Nat) : Nat → Nat → Prop := fun r a => (r = 256 ∨ r = 257 ∨ r = 258 ∨ r = 259) ∧ a = i
theorem StA.same {S : Nat → Nat → Prop} {I I' : MI} {i : Nat} {s : SA} (h : StA I i s) (hs : Same S I I') (h0 : ¬ S 256 i) (h1 : ¬ S 257 i) (h2 : ¬ S 258 i) (h3 : ¬ S 259 i) : StA I' i s := by
  obtain ⟨a1, a2, a3, a4, a5⟩ := h
  refine ⟨fun c hc => ?_, fun c hc => ?_, fun c hc => ?_, ?_, ?_⟩
  · rw [hs _ _ h1]; exact a1 c hc
  · rw [hs _ _ h2]; exact a2 c hc
  · rw [hs _ _ h3]; exact a3 c hc
  · rw [hs _ _ h0]; exact a4
  · rw [hs _ _ h0]; exact a5
/-- any stand is one -/
def stOf (I : MI) (i : Nat) : SA := (I 257 i, I 258 i, I 259 i, I 256 i 3, I 256 i 4)
theorem stOf_A (I : MI) (i : Nat) : StA I i (stOf I i) := ⟨fun _ _ => rfl, fun _ _ => rfl, fun _ _ => rfl, rfl, rfl⟩
section Stand
variable {d i j : Nat} {I : MI} {L : ML} {s : SA}
theorem c_St_lastOf {c : Nat} {K : Int32 → MI → ML → Prop} (hd : 1 ≤ d) (hc : c < 6) (h : K (I 257 i c) I L) : CI d m_St_lastOf [vR 256 i, vI (nI c)] I L K := by
  refine toCI (n := 0) hd (r_St_lastOf_0 ⟨fun q => absurd q (nlt0 (by omega)), fun _ => ⟨fun q => absurd q (nle_c (m := 6) hc (by omega)), fun _ => ⟨vin hc (by omega), _, rfl, ?_⟩⟩⟩)
  rw [cl_n (by omega)]; exact h
theorem c_St_earlierOf {c : Nat} {K : Int32 → MI → ML → Prop} (hd : 1 ≤ d) (hc : c < 6) (h : K (I 258 i c) I L) : CI d m_St_earlierOf [vR 256 i, vI (nI c)] I L K := by
  refine toCI (n := 0) hd (r_St_earlierOf_0 ⟨fun q => absurd q (nlt0 (by omega)), fun _ => ⟨fun q => absurd q (nle_c (m := 6) hc (by omega)), fun _ => ⟨vin hc (by omega), _, rfl, ?_⟩⟩⟩)
  rw [cl_n (by omega)]; exact h
theorem c_St_heldOf {c : Nat} {K : Int32 → MI → ML → Prop} (hd : 1 ≤ d) (hc : c < 6) (h : K (I 259 i c) I L) : CI d m_St_heldOf [vR 256 i, vI (nI c)] I L K := by
  refine toCI (n := 0) hd (r_St_heldOf_0 ⟨fun q => absurd q (nlt0 (by omega)), fun _ => ⟨fun q => absurd q (nle_c (m := 6) hc (by omega)), fun _ => ⟨vin hc (by omega), _, rfl, ?_⟩⟩⟩)
  rw [cl_n (by omega)]; exact h
theorem c_St_holdBy {c : Nat} {x : Int32} {K : MI → ML → Prop} (hd : 1 ≤ d) (hc : c < 6) (h : K (ui I 259 i c x) L) : CV d m_St_holdBy [vR 256 i, vI (nI c), vI x] I L K := by
  refine toCV (n := 0) hd (r_St_holdBy_0 ⟨fun q => absurd q (nlt0 (by omega)), fun _ => ⟨fun q => absurd q (nle_c (m := 6) hc (by omega)), fun _ => ⟨vin hc (by omega), rfl, ?_⟩⟩⟩)
  rw [cl_n (by omega)]; exact h
theorem l_St_copy {Q : QT} {I0 : MI} (hij : i ≠ j) (hk : ∀ I', (∀ c, c < 6 → I' 257 i c = I0 257 j c ∧ I' 258 i c = I0 258 j c ∧ I' 259 i c = I0 259 j c) → I' 256 i 3 = I0 256 j 3 → I' 256 i 4 = I0 256 j 4 → Same (stS i) I0 I' → Q none I' L) :
    ∀ (n c : Nat) (I : MI), c + n = 6 → (∀ k, k < c → I 257 i k = I0 257 j k ∧ I 258 i k = I0 258 j k ∧ I 259 i k = I0 259 j k) → Same (stS i) I0 I → XX (d + 1) m_St_copy Q 2 [vR 256 i, vR 256 j, vI (nI c)] [] I L := by
  have hji : j ≠ i := fun q => hij q.symm
  have nj : ∀ r, ¬ stS i r j := fun r q => hji q.2
  intro n
  induction n with
  | zero =>
    intro c I hc hI hS
    have hc : c = 6 := by omega
    subst hc
    refine r_St_copy_2 ⟨fun _ => ?_, fun q => absurd (le_c (Nat.le_refl 6) (by omega)) q⟩
    refine hk _ (fun k hk => ?_) ?_ ?_ ((hS.ui ⟨Or.inl rfl, rfl⟩).ui ⟨Or.inl rfl, rfl⟩)
    · simpa [ui] using hI k hk
    · have e := congrFun (hS 256 j (nj _)) 3
      simp [ui, e]
    · have e := congrFun (hS 256 j (nj _)) 4
      simp [ui, e, hji]
  | succ n ih =>
    intro c I hc hI hS
    have h6 : c < 6 := by omega
    have hv : vp_in (nI c) 6 := vin h6 (by omega)
    refine r_St_copy_2 ⟨fun q => absurd q (nle_c (m := 6) h6 (by omega)), fun _ => ⟨hv, hv, hv, hv, hv, hv, ?_⟩⟩
    rw [nI_1, cl_n (by omega)]
    refine ih (c + 1) _ (by omega) (fun k hk => ?_) (((hS.ui ⟨by simp, rfl⟩).ui ⟨by simp, rfl⟩).ui ⟨by simp, rfl⟩)
    have e1 := congrFun (hS 257 j (nj _)) c
    have e2 := congrFun (hS 258 j (nj _)) c
    have e3 := congrFun (hS 259 j (nj _)) c
    by_cases hkc : k = c
    · subst hkc
      simp [ui, e1, e2, e3, hji]
    · have := hI k (by omega)
      simp [ui, hkc, this]
theorem c_St_copy {K : MI → ML → Prop} (hd : 1 ≤ d) (hij : i ≠ j) (hs : StA I j s) (h : ∀ I', StA I' i s → Same (stS i) I I' → K I' L) : CV d m_St_copy [vR 256 i, vR 256 j] I L K := by
  refine toCV (n := 0) hd (r_St_copy_0 ?_)
  refine l_St_copy hij (I0 := I) (fun I' h1 h2 h3 h4 => ⟨rfl, h I' ⟨fun c hc => ?_, fun c hc => ?_, fun c hc => ?_, ?_, ?_⟩ h4⟩) 6 0 I rfl (fun k hk => by omega) Same.rf
  · rw [(h1 c hc).1]; exact hs.1 c hc
  · rw [(h1 c hc).2.1]; exact hs.2.1 c hc
  · rw [(h1 c hc).2.2]; exact hs.2.2.1 c hc
  · rw [h2]; exact hs.2.2.2.1
  · rw [h3]; exact hs.2.2.2.2
/-- sums and who over the first n -/
def sumN (f : Nat → Int32) : Nat → Int32
  | 0 => 0
  | n + 1 => sumN f n + f n
def whoN (f : Nat → Int32) : Nat → Int32
  | 0 => 0
  | n + 1 => if 0 < f n then whoN f n ||| ((1 : Int32) <<< (nI n &&& 31)) else whoN f n
theorem sumN_eq {f g : Nat → Int32} : ∀ (n : Nat), (∀ c, c < n → f c = g c) → sumN f n = sumN g n
  | 0, _ => rfl
  | n + 1, h => by simp only [sumN]; rw [sumN_eq n (fun c hc => h c (by omega)), h n (by omega)]
theorem whoN_eq {f g : Nat → Int32} : ∀ (n : Nat), (∀ c, c < n → f c = g c) → whoN f n = whoN g n
  | 0, _ => rfl
  | n + 1, h => by simp only [whoN]; rw [whoN_eq n (fun c hc => h c (by omega)), h n (by omega)]
theorem c_St_lateSum {K : Int32 → MI → ML → Prop} (hd : 1 ≤ d) (h : K (sumN (I 257 i) 6) I L) : CI d m_St_lateSum [vR 256 i] I L K := by
  refine toCI (n := 0) hd (r_St_lateSum_0 ?_)
  have key : ∀ (n c : Nat), c + n = 6 → XX (0 + 1) m_St_lateSum (fun r I' L' => ∃ x, r = some (vI x) ∧ K x I' L') 4 [vR 256 i, vI (sumN (I 257 i) c), vI (nI c)] [] I L := by
    intro n
    induction n with
    | zero =>
      intro c hc
      have hc : c = 6 := by omega
      subst hc
      exact r_St_lateSum_4 ⟨fun _ => ⟨_, rfl, h⟩, fun q => absurd (le_c (Nat.le_refl 6) (by omega)) q⟩
    | succ n ih =>
      intro c hc
      refine r_St_lateSum_4 ⟨fun q => absurd q (nle_c (m := 6) (by omega) (by omega)), fun _ => ⟨vin (by omega) (by omega), ?_⟩⟩
      rw [nI_1, cl_n (by omega)]
      exact ih (c + 1) (by omega)
  exact key 6 0 rfl
theorem c_St_lateBits {K : Int32 → MI → ML → Prop} (hd : 1 ≤ d) (h : K (whoN (I 257 i) 6) I L) : CI d m_St_lateBits [vR 256 i] I L K := by
  refine toCI (n := 0) hd (r_St_lateBits_0 ?_)
  have key : ∀ (n c : Nat), c + n = 6 → XX (0 + 1) m_St_lateBits (fun r I' L' => ∃ x, r = some (vI x) ∧ K x I' L') 4 [vR 256 i, vI (whoN (I 257 i) c), vI (nI c)] [] I L := by
    intro n
    induction n with
    | zero =>
      intro c hc
      have hc : c = 6 := by omega
      subst hc
      exact r_St_lateBits_4 ⟨fun _ => ⟨_, rfl, h⟩, fun q => absurd (le_c (Nat.le_refl 6) (by omega)) q⟩
    | succ n ih =>
      intro c hc
      have hk := ih (c + 1) (by omega)
      refine r_St_lateBits_4 ⟨fun q => absurd q (nle_c (m := 6) (by omega) (by omega)), fun _ => ⟨vin (by omega) (by omega), ?_⟩⟩
      rw [nI_1, cl_n (by omega)]
      simp only [whoN] at hk
      refine ⟨fun q => ?_, fun q => ?_⟩
      · rw [if_neg (by intro z; exact absurd z (Int32.not_lt.mpr q))] at hk; exact hk
      · rw [if_pos (Int32.not_le.mp q)] at hk; exact hk
  exact key 6 0 rfl
theorem c_St_isQuiet {K : Int32 → MI → ML → Prop} (hd : 1 ≤ d) (h0 : (∀ c, c < 6 → ¬ 0 < I 257 i c) → K 1 I L) (h1 : (∃ c, c < 6 ∧ 0 < I 257 i c) → K 0 I L) : CI d m_St_isQuiet [vR 256 i] I L K := by
  refine toCI (n := 0) hd (r_St_isQuiet_0 ?_)
  have key : ∀ (n c : Nat), c + n = 6 → (∀ k, k < c → ¬ 0 < I 257 i k) → XX (0 + 1) m_St_isQuiet (fun r I' L' => ∃ x, r = some (vI x) ∧ K x I' L') 2 [vR 256 i, vI (nI c)] [] I L := by
    intro n
    induction n with
    | zero =>
      intro c hc hq
      have hc : c = 6 := by omega
      subst hc
      exact r_St_isQuiet_2 ⟨fun _ => ⟨_, rfl, h0 hq⟩, fun q => absurd (le_c (Nat.le_refl 6) (by omega)) q⟩
    | succ n ih =>
      intro c hc hq
      refine r_St_isQuiet_2 ⟨fun q => absurd q (nle_c (m := 6) (by omega) (by omega)), fun _ => ⟨vin (by omega) (by omega), ?_⟩⟩
      rw [nI_1, cl_n (by omega)]
      refine ⟨fun q => ih (c + 1) (by omega) (fun k hk => ?_), fun q => ⟨_, rfl, h1 ⟨c, by omega, Int32.not_le.mp q⟩⟩⟩
      by_cases e : k = c
      · rw [e]; exact Int32.not_lt.mpr q
      · exact hq k (by omega)
  exact key 6 0 rfl (fun k hk => by omega)
def calmS (s : SA) : Prop := ∀ c, c < 6 → ¬ 0 < s.1 c ∧ ¬ 0 < s.2.1 c ∧ ¬ 0 < s.2.2.1 c
theorem c_St_isCalm {K : Int32 → MI → ML → Prop} (hd : 1 ≤ d) (h0 : calmS (stOf I i) → K 1 I L) (h1 : ¬ calmS (stOf I i) → K 0 I L) : CI d m_St_isCalm [vR 256 i] I L K := by
  refine toCI (n := 0) hd (r_St_isCalm_0 ?_)
  have key : ∀ (n c : Nat), c + n = 6 → (∀ k, k < c → ¬ 0 < I 257 i k ∧ ¬ 0 < I 258 i k ∧ ¬ 0 < I 259 i k) → XX (0 + 1) m_St_isCalm (fun r I' L' => ∃ x, r = some (vI x) ∧ K x I' L') 2 [vR 256 i, vI (nI c)] [] I L := by
    intro n
    induction n with
    | zero =>
      intro c hc hq
      have hc : c = 6 := by omega
      subst hc
      exact r_St_isCalm_2 ⟨fun _ => ⟨_, rfl, h0 hq⟩, fun q => absurd (le_c (Nat.le_refl 6) (by omega)) q⟩
    | succ n ih =>
      intro c hc hq
      have hv : vp_in (nI c) 6 := vin (by omega) (by omega)
      refine r_St_isCalm_2 ⟨fun q => absurd q (nle_c (m := 6) (by omega) (by omega)), fun _ => ⟨hv, ?_⟩⟩
      rw [nI_1, cl_n (by omega)]
      refine ⟨fun q => ⟨_, rfl, h1 (fun z => (z c (by omega)).1 q)⟩, fun q1 => ⟨hv, fun q => ⟨_, rfl, h1 (fun z => (z c (by omega)).2.1 q)⟩, fun q2 => ⟨hv, fun q => ih (c + 1) (by omega) (fun k hk => ?_), fun q => ⟨_, rfl, h1 (fun z => (z c (by omega)).2.2 (Int32.not_le.mp q))⟩⟩⟩⟩
      by_cases e : k = c
      · rw [e]; exact ⟨q1, q2, Int32.not_lt.mpr q⟩
      · exact hq k (by omega)
  exact key 6 0 rfl (fun k hk => by omega)
end Stand
