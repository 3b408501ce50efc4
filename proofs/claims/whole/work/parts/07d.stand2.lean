/-! stands: their beginning, the end of a round; trays; what can be undone -/
section Stand2
variable {d i : Nat} {I : MI} {L : ML} {s : SA}
def st0 (mud : Int32) : SA := (fun _ => 0, fun _ => 0, fun _ => 0, mud, 0)
theorem c_St_begin {mud : Int32} {K : MI → ML → Prop} (hd : 2 ≤ d) (h : ∀ I', StA I' i (st0 mud) → Same (stS i) I I' → K I' L) : CV d m_St_begin [vR 256 i, vI mud] I L K := by
  refine toCV (n := 1) hd (r_St_begin_0 ?_)
  refine c_fillL (by omega) (fun I1 h1 s1 => c_fillE (by omega) (fun I2 h2 s2 => c_fillH (by omega) (fun I3 h3 s3 => ⟨rfl, h _ ⟨fun c hc => ?_, fun c hc => ?_, fun c hc => ?_, ?_, ?_⟩ ?_⟩)))
  · rw [ui_r (by decide), ui_r (by decide), s3 257 i (by simp), s2 257 i (by simp)]; exact h1 c hc
  · rw [ui_r (by decide), ui_r (by decide), s3 258 i (by simp)]; exact h2 c hc
  · rw [ui_r (by decide), ui_r (by decide)]; exact h3 c hc
  · rw [ui_k (by decide), ui_s]; rfl
  · rw [ui_s]; rfl
  · refine ((Same.tr (Same.tr (s1.mono ?_) (s2.mono ?_)) (s3.mono ?_)).ui ⟨Or.inl rfl, rfl⟩).ui ⟨Or.inl rfl, rfl⟩
    · rintro r a ⟨rfl, rfl⟩; exact ⟨by simp, rfl⟩
    · rintro r a ⟨rfl, rfl⟩; exact ⟨by simp, rfl⟩
    · rintro r a ⟨rfl, rfl⟩; exact ⟨by simp, rfl⟩
/-- behind a round: fresh lateness comes in -/
def pasS (s : SA) (f : Nat → Int32) : SA := (f, s.1, fun _ => 0, s.2.2.2.1, s.2.2.2.2 + 1)
def stays (s : SA) (f : Nat → Int32) (n : Nat) : Prop := ∀ c, c < n → s.1 c = f c ∧ s.2.1 c = s.1 c ∧ s.2.2.1 c = 0
theorem or1 (x : Int32) (h : x = 0 ∨ x = 1) : x ||| 1 = 1 := by rcases h with rfl | rfl <;> rfl
theorem or0 (x : Int32) : x ||| 0 = x := by simp
theorem c_St_passTo {f : Nat → Int32} {K : Int32 → MI → ML → Prop} (hd : 1 ≤ d) (hs : StA I i s) (hf : ∀ c, c < 6 → I 326 0 c = f c) (h : ∀ (x : Int32) (I' : MI), (x = 0 ∧ stays s f 6 ∨ x = 1 ∧ ¬ stays s f 6) → StA I' i (pasS s f) → Same (stS i) I I' → K x I' L) : CI d m_St_passTo [vR 256 i, vR 326 0] I L K := by
  refine toCI (n := 0) hd (r_St_passTo_0 ?_)
  have key : ∀ (n c : Nat) (x : Int32) (I1 : MI), c + n = 6 → (x = 0 ∧ stays s f c ∨ x = 1 ∧ ¬ stays s f c) → (∀ k, k < c → I1 257 i k = f k ∧ I1 258 i k = s.1 k ∧ I1 259 i k = 0) → (∀ k, c ≤ k → k < 6 → I1 257 i k = s.1 k ∧ I1 258 i k = s.2.1 k ∧ I1 259 i k = s.2.2.1 k) → I1 256 i = I 256 i → Same (stS i) I I1 →
      XX (0 + 1) m_St_passTo (fun r I' L' => ∃ x, r = some (vI x) ∧ K x I' L') 4 [vR 256 i, vR 326 0, vI x, vI (nI c)] [] I1 L := by
    intro n
    induction n with
    | zero =>
      intro c x I1 hc hx hlo hhi h5 hS
      have hc : c = 6 := by omega
      subst hc
      refine r_St_passTo_4 ⟨fun _ => ⟨by rcases hx with q | q; exact Or.inl q.1; exact Or.inr q.1, _, rfl, h x _ hx ⟨fun c hc => ?_, fun c hc => ?_, fun c hc => ?_, ?_, ?_⟩ (hS.ui ⟨Or.inl rfl, rfl⟩)⟩, fun q => absurd (le_c (Nat.le_refl 6) (by omega)) q⟩
      · rw [ui_r (by decide)]; exact (hlo c hc).1
      · rw [ui_r (by decide)]; exact (hlo c hc).2.1
      · rw [ui_r (by decide)]; exact (hlo c hc).2.2
      · rw [ui_k (by decide), h5]; exact hs.2.2.2.1
      · rw [ui_s, h5]; show I 256 i 4 + 1 = s.2.2.2.2 + 1; rw [hs.2.2.2.2]
    | succ n ih =>
      intro c x I1 hc hx hlo hhi h5 hS
      have h6 : c < 6 := by omega
      have hv : vp_in (nI c) 6 := vin h6 (by omega)
      have hx01 : x = 0 ∨ x = 1 := by rcases hx with q | q; exact Or.inl q.1; exact Or.inr q.1
      obtain ⟨e1, e2, e3⟩ := hhi c (Nat.le_refl c) h6
      have ef : I1 326 0 c = f c := by rw [hS 326 0 (fun q => by rcases q.1 with z | z | z | z <;> exact absurd z (by decide))]; exact hf c h6
      have step : ∀ x' : Int32, (x' = 0 ∧ stays s f (c + 1) ∨ x' = 1 ∧ ¬ stays s f (c + 1)) → XX (0 + 1) m_St_passTo (fun r I' L' => ∃ x, r = some (vI x) ∧ K x I' L') 4 [vR 256 i, vR 326 0, vI x', vI (nI (c + 1))] [] (ui (ui (ui I1 258 i c (I1 257 i c)) 257 i c ((ui I1 258 i c (I1 257 i c)) 326 0 c)) 259 i c 0) L := by
        intro x' hx'
        refine ih (c + 1) x' _ (by omega) hx' (fun k hk => ?_) (fun k hk hk6 => ?_) ?_ (((hS.ui ⟨by simp, rfl⟩).ui ⟨by simp, rfl⟩).ui ⟨by simp, rfl⟩)
        · by_cases e : k = c
          · subst e
            simp [ui, ef, e1]
          · have := hlo k (by omega)
            simp [ui, e, this]
        · have e : ¬ k = c := by omega
          have := hhi k (by omega) hk6
          simp [ui, e, this]
        · rw [ui_off (by simp), ui_off (by simp), ui_off (by simp)]; exact h5
      have hno : (¬ s.1 c = f c ∨ ¬ s.2.1 c = s.1 c ∨ ¬ s.2.2.1 c = 0) → XX (0 + 1) m_St_passTo (fun r I' L' => ∃ x, r = some (vI x) ∧ K x I' L') 4 [vR 256 i, vR 326 0, vI (x ||| 1), vI (nI c + 1)] [] (ui (ui (ui I1 258 i c (I1 257 i c)) 257 i c ((ui I1 258 i c (I1 257 i c)) 326 0 c)) 259 i c 0) L := by
        intro q
        rw [or1 x hx01, nI_1]
        refine step 1 (Or.inr ⟨rfl, fun z => ?_⟩)
        obtain ⟨z1, z2, z3⟩ := z c (by omega)
        rcases q with q | q | q
        · exact q z1
        · exact q z2
        · exact q z3
      refine r_St_passTo_4 ⟨fun q => absurd q (nle_c (m := 6) h6 (by omega)), fun _ => ⟨fun q => absurd q (nle_c (m := 6) h6 (by omega)), fun _ => ?_⟩⟩
      rw [cl_n (by omega)]
      refine ⟨hv, hv, fun q => ⟨hv, hv, hv, hv, hv, hno (Or.inl (by rw [e1, ef] at q; exact q))⟩, fun q1 => ⟨hv, hv, fun q => ⟨hv, hv, hv, hv, hv, hno (Or.inr (Or.inl (by rw [e1, e2] at q; exact q)))⟩, fun q2 => ⟨hv, fun q3 => ⟨hv, hv, hv, hv, hv, ?_⟩, fun q => ⟨hv, hv, hv, hv, hv, hno (Or.inr (Or.inr (by rw [e3] at q; exact q)))⟩⟩⟩⟩
      have g1 : s.1 c = f c := by rw [e1, ef] at q1; exact Classical.not_not.mp q1
      have g2 : s.2.1 c = s.1 c := by rw [e1, e2] at q2; exact Classical.not_not.mp q2
      have g3 : s.2.2.1 c = 0 := by rw [e3] at q3; exact q3
      rw [or0, nI_1]
      refine step x ?_
      rcases hx with ⟨z1, z2⟩ | ⟨z1, z2⟩
      · refine Or.inl ⟨z1, fun k hk => ?_⟩
        by_cases e : k = c
        · rw [e]; exact ⟨g1, g2, g3⟩
        · exact z2 k (by omega)
      · exact Or.inr ⟨z1, fun z => z2 (fun k hk => z k (by omega))⟩
  exact key 6 0 0 I rfl (Or.inl ⟨rfl, fun k hk => by omega⟩) (fun k hk => by omega) (fun k _ hk => ⟨hs.1 k hk, hs.2.1 k hk, hs.2.2.1 k hk⟩) rfl Same.rf
theorem c_St_lateCount {K : Int32 → MI → ML → Prop} (hd : 2 ≤ d) (h : ∀ y, (∀ n, n < 1024 → whoN (I 257 i) 6 = nI n → y = nI (popc 10 n)) → K y I L) : CI d m_St_lateCount [vR 256 i] I L K := by
  refine toCI (n := 1) hd (r_St_lateCount_0 ?_)
  exact c_St_lateBits (by omega) (c_bc (by omega) (fun y hy => ⟨_, rfl, h y hy⟩))
end Stand2
