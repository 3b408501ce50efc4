/-! Going: what it keeps, and a round of it -/
def knA (I : MI) (R : RD) : Prop := ∀ w, w < rW R → ∀ k, k < 64 → I 328 0 (64 * w + k) = 0 ∨ ∃ y m : Nat, 1 ≤ y ∧ y ≤ 150000 ∧ m ≤ 9 ∧ y % 64 = k ∧ I 328 0 (64 * w + k) = nI ((y * 10 + m) * 2) + kvO R (nI m) w (nI y)
def GoA (I : MI) (R : RD) : Prop := (∀ n, n < rW R → I 325 0 n = nI ((ordL R).getD n 0)) ∧ (∀ c, rC R ≤ c → c < 6 → I 326 0 c = 0) ∧ (I 320 0 8 = -1 ∨ ∃ m, m ≤ 9 ∧ I 320 0 8 = nI m ∧ tmA I R m (rW R)) ∧ knA I R
def goS : Nat → Nat → Prop := fun r a => (r = 320 ∨ r = 323 ∨ r = 324 ∨ r = 326 ∨ r = 327 ∨ r = 328 ∨ r = 384 ∨ r = 385 ∨ r = 386) ∧ a = 0
def rmS : Nat → Nat → Prop := fun r a => (r = 320 ∨ r = 323 ∨ r = 324 ∨ r = 384 ∨ r = 385 ∨ r = 386) ∧ a = 0
def ikS : Nat → Nat → Prop := fun r a => (r = 328 ∨ r = 384 ∨ r = 385 ∨ r = 386) ∧ a = 0
theorem nI_m1 {n : Nat} (h : n < 2 ^ 31) : ¬ nI n = (-1 : Int32) := fun e => by
  have h1 := congrArg Int32.toInt e
  rw [nI_toInt h] at h1
  have h2 : (-1 : Int32).toInt = -1 := rfl
  omega
section Going
variable {d i : Nat} {I : MI} {L : ML} {R : RD}
theorem c_Go_reckon {m : Nat} {K : MI → ML → Prop} (hd : 4 ≤ d) (hR : WF R) (hA : RoadA I 0 R) (hG : GoA I R) (hm : m ≤ 9) (h : ∀ I', GoA I' R → tmA I' R m (rW R) → I' 320 0 8 = nI m → Same rmS I I' → K I' L) : CV d m_Go_reckon [vR 320 0, vI (nI m)] I L K := by
  refine toCV (n := 3) hd (r_Go_reckon_0 ⟨fun q => ?_, fun q => ⟨rfl, ?_⟩⟩)
  · have hS0 : Same rmS I (ui I 320 0 8 (nI m)) := Same.rf.ui ⟨Or.inl rfl, rfl⟩
    have hA0 := hA.same hS0 (fun r h1 h2 q => by rcases q.1 with z | z | z | z | z | z <;> omega)
    refine l_Go_reckon (by omega) hR hm hA0 (fun I' ht hs => ?_) (rW R) 0 _ (by omega) (fun w hw => by omega) Same.rf
    have hS1 : Same rmS I I' := hS0.tr (hs.mono (fun r a q => ⟨by rcases q.1 with z | z | z | z | z <;> simp [z], q.2⟩))
    have e8 : I' 320 0 8 = nI m := by rw [hs 320 0 (fun q => by rcases q.1 with z | z | z | z | z <;> exact absurd z (by decide)), ui_s]
    refine ⟨rfl, h I' ⟨fun n hn => ?_, fun c h1 h2 => ?_, Or.inr ⟨m, hm, e8, ht⟩, fun w hw k hk => ?_⟩ ht e8 hS1⟩
    · rw [hS1 325 0 (fun q => by rcases q.1 with z | z | z | z | z | z <;> exact absurd z (by decide))]; exact hG.1 n hn
    · rw [hS1 326 0 (fun q => by rcases q.1 with z | z | z | z | z | z <;> exact absurd z (by decide))]; exact hG.2.1 c h1 h2
    · rw [hS1 328 0 (fun q => by rcases q.1 with z | z | z | z | z | z <;> exact absurd z (by decide))]; exact hG.2.2.2 w hw k hk
  · have e := Classical.not_not.mp q
    rcases hG.2.2.1 with z | ⟨m', hm', e', ht⟩
    · rw [z] at e; exact absurd e (nI_m1 (by omega))
    · have : m = m' := (nI_eq (by omega) (by omega)).mp (e.trans e')
      subst this
      exact h I hG ht e' Same.rf
theorem c_Go_lateFor {s : SA} {w m : Nat} {K : Int32 → MI → ML → Prop} (hd : 2 ≤ d) (hR : WF R) (hA : RoadA I 0 R) (hs : StA I i s) (ht : tmA I R m (rW R)) (hw : w < rW R) (h : K (alO R (nI m) w (I 326 0) s.1 s.2.1) I L) : CI d m_Go_lateFor [vR 320 0, vI (nI w), vR 256 i] I L K := by
  have hw10 : w < 10 := by have := hR.2.1; omega
  have hC := hR.1
  obtain ⟨f1, f2, f3, f4⟩ := hA.2.2.2.2.2.1 w hw
  obtain ⟨b1, b2, b3, b4⟩ := hR.2.2.1 w hw
  have hv : vp_in (nI w) 10 := vin hw10 (by omega)
  refine toCI (n := 1) hd (r_Go_lateFor_0 ⟨fun q => absurd q (nlt0 (by omega)), fun _ => ⟨fun _ => ?_, fun q => absurd (nI_lt (b := 10) hw10 (by omega)) q⟩⟩)
  refine c_Road_fromOf (by omega) hw10 (c_Road_lagOf (by omega) hw10 ?_)
  rw [f1, f4, cl_n (by omega), (ht w hw).2]
  unfold alO at h
  refine ⟨fun q => ⟨hv, ?_⟩, fun q => ⟨hv, ?_⟩, fun q => ⟨hv, ?_⟩⟩
  · have e : rl R w = 0 := (nI_eq (b := 0) (by omega) (by omega)).mp q
    rw [if_pos e] at h
    exact c_Go_freshOf (by omega) (by omega) ⟨_, rfl, h⟩
  · have e : rl R w = 1 := (nI_eq (b := 1) (by omega) (by omega)).mp q
    rw [if_neg (by omega), if_pos e] at h
    refine c_St_lastOf (by omega) (by omega) ⟨_, rfl, ?_⟩
    rw [hs.1 _ (by omega)]
    exact h
  · have e0 : ¬ rl R w = 0 := fun z => q.1 (by rw [z]; rfl)
    have e1 : ¬ rl R w = 1 := fun z => q.2 (by rw [z]; rfl)
    rw [if_neg e0, if_neg e1] at h
    refine c_St_earlierOf (by omega) (by omega) ⟨_, rfl, ?_⟩
    rw [hs.2.1 _ (by omega)]
    exact h
theorem kv01 (hR : WF R) {w m y : Nat} (hw : w < rW R) (hm : m ≤ 9) (hy : y ≤ 150000) : kvO R (nI m) w (nI y) = 0 ∨ kvO R (nI m) w (nI y) = 1 := by
  unfold kvO
  cases hU : rU R with
  | none => exact Or.inr rfl
  | some f => exact hR.2.2.2.2.2.2.1 f hU _ (Bd_nm hR hw hm (rg_n (by omega) (by omega) (by omega)))
theorem half {n : Nat} {b : Int32} (hn : n < 2 ^ 29) (hb : b = 0 ∨ b = 1) : ((nI (n * 2) + b) / (2 : Int32)) * (2 : Int32) = nI (n * 2) := by
  have key : ∀ k, k < 2 → ((nI (n * 2) + nI k) / (2 : Int32)) * (2 : Int32) = nI (n * 2) := by
    intro k hk
    rw [nI_add]
    have e1 := pk_div (a := n * 2 + k) (d := 2) (by omega) (by omega) (by omega)
    have e2 : nI (n * 2 + k) / (2 : Int32) = nI ((n * 2 + k) / 2) := e1
    rw [e2, show (n * 2 + k) / 2 = n by omega]
    exact pk_mul n 2
  rcases hb with rfl | rfl
  · exact key 0 (by omega)
  · exact key 1 (by omega)
theorem c_Go_isKept {w m y : Nat} {K : Int32 → MI → ML → Prop} (hd : 4 ≤ d) (hR : WF R) (hA : RoadA I 0 R) (hG : GoA I R) (hw : w < rW R) (hm : m ≤ 9) (hy1 : 1 ≤ y) (hy2 : y ≤ 150000) (h : ∀ I', knA I' R → Same ikS I I' → K (kvO R (nI m) w (nI y)) I' L) : CI d m_Go_isKept [vR 320 0, vI (nI w), vI (nI y), vI (nI m)] I L K := by
  have hw10 : w < 10 := by have := hR.2.1; omega
  refine toCI (n := 3) hd (r_Go_isKept_0 ?_)
  refine c_Road_hasWaitsLaw (by omega) hA (fun hU => ⟨fun q => absurd rfl q, fun _ => ⟨_, rfl, ?_⟩⟩) (fun f hU => ⟨fun _ => ?_, fun q => absurd (by decide) q⟩)
  · have := h I hG.2.2.2 Same.rf
    unfold kvO at this
    rw [hU] at this
    exact this
  have em : nI y % (64 : Int32) = nI (y % 64) := by
    rw [← irem_eq_mod]
    exact pk_rem (a := y) (d := 64) (by omega) (by omega) (by omega)
  have ep : nI w * (64 : Int32) + nI y % (64 : Int32) = nI (64 * w + y % 64) := by
    rw [em]
    have e1 : nI w * (64 : Int32) = nI (w * 64) := pk_mul w 64
    rw [e1, nI_add, show w * 64 + y % 64 = 64 * w + y % 64 by omega]
  have eq : (nI y * (10 : Int32) + nI m) * (2 : Int32) = nI ((y * 10 + m) * 2) := by
    have e1 : nI y * (10 : Int32) = nI (y * 10) := pk_mul y 10
    rw [e1, nI_add]
    exact pk_mul (y * 10 + m) 2
  have hpl : 64 * w + y % 64 < 640 := by omega
  have hv : vp_in (nI (64 * w + y % 64)) 640 := vin hpl (by omega)
  rw [ep, eq]
  refine ⟨fun q => absurd q (nlt0 (by omega)), fun _ => ⟨fun _ => ?_, fun q => absurd (nI_lt (b := 640) hpl (by omega)) q⟩⟩
  rw [cl_n (by omega)]
  have hkv := kv01 hR hw hm hy2
  have ne1 : nI ((y * 10 + m) * 2) + 1 ≠ nI ((y * 10 + m) * 2) := by
    rw [nI_1]
    intro z
    have := (nI_eq (by omega) (by omega)).mp z
    omega
  have asks : CV 3 m_Law_setNames [vR 384 0, vR 128 0, vI (nI w), vI (nI m), vI (nI y)] I L (fun I5 L6 => CI 3 m_Law_tell [vR 384 0, vR 128 0, vI (I5 128 0 15), vI (I5 128 0 16)] I5 L6 (fun x9 I7 L8 => (vp_in (nI (64 * w + y % 64)) 640) ∧ (vp_in (nI (64 * w + y % 64)) 640) ∧ ((((ui I7 328 0 (64 * w + y % 64) (nI ((y * 10 + m) * 2) + x9)) 328 0 (64 * w + y % 64)) = nI ((y * 10 + m) * 2) → (∃ x, some (vI 0) = some (vI x) ∧ K x (ui I7 328 0 (64 * w + y % 64) (nI ((y * 10 + m) * 2) + x9)) L8)) ∧ (¬ (((ui I7 328 0 (64 * w + y % 64) (nI ((y * 10 + m) * 2) + x9)) 328 0 (64 * w + y % 64)) = nI ((y * 10 + m) * 2)) → (∃ x, some (vI 1) = some (vI x) ∧ K x (ui I7 328 0 (64 * w + y % 64) (nI ((y * 10 + m) * 2) + x9)) L8))))) := by
    refine c_Law_setNames (by omega) hR hA hw (fun J hJn hJs => ?_)
    have hA3 := hA.same hJs (fun r h1 h2 q => by have := q.1; omega)
    have hl := hA3.2.2.2.2.2.2.2
    rw [hU] at hl
    obtain ⟨b, e, g1, g2, g3⟩ := hl
    rw [g1, g2]
    obtain ⟨N, hN, hgo⟩ := g3.2.2 (nmO R w (nI m) (nI y)) (Bd_nm hR hw hm (rg_n (by omega) (by omega) (by omega)))
    have ekv : f (nmO R w (nI m) (nI y)) = kvO R (nI m) w (nI y) := by simp [kvO, hU]
    rw [ekv] at hgo
    refine c_Law_tell (by omega) g3.2.1 (fun p hp => rfl) hJn hgo hN (by have := g3.1; omega) (fun J2 hJ2 => ⟨hv, hv, ?_⟩)
    have hSJ : Same ikS I J2 := (hJs.mono (fun r a q => ⟨by simp [q.1], q.2⟩)).tr (hJ2.mono (fun r a q => ⟨by rcases q.1 with z | z <;> simp [z], q.2⟩))
    have hkn : J2 328 0 = I 328 0 := by rw [hJ2 328 0 (fun q => by rcases q.1 with z | z <;> exact absurd z (by decide)), hJs 328 0 (fun q => absurd q.1 (by decide))]
    have hSF : Same ikS I (ui J2 328 0 (64 * w + y % 64) (nI ((y * 10 + m) * 2) + kvO R (nI m) w (nI y))) := hSJ.ui ⟨Or.inl rfl, rfl⟩
    have hK := h _ (show knA (ui J2 328 0 (64 * w + y % 64) (nI ((y * 10 + m) * 2) + kvO R (nI m) w (nI y))) R from fun w' hw' k hk => by
      by_cases e : 64 * w' + k = 64 * w + y % 64
      · have ew : w' = w := by omega
        have ek : k = y % 64 := by omega
        subst ew
        subst ek
        exact Or.inr ⟨y, m, hy1, hy2, hm, rfl, by rw [ui_s]⟩
      · rw [ui_k e, hkn]
        exact hG.2.2.2 w' hw' k hk) hSF
    rw [ui_s]
    rcases hkv with z | z
    · rw [z] at hK ⊢
      exact ⟨fun _ => ⟨_, rfl, hK⟩, fun q => absurd (by simp) q⟩
    · rw [z] at hK ⊢
      exact ⟨fun q => absurd q ne1, fun _ => ⟨_, rfl, hK⟩⟩
  refine ⟨hv, fun q => ⟨hv, ?_⟩, fun _ => asks⟩
  have hcell := hG.2.2.2 w hw (y % 64) (by omega)
  rcases hcell with z | ⟨y', m', k1, k2, k3, k4, k5⟩
  · rw [z] at q
    have e0 : (0 : Int32) / 2 * 2 = nI 0 := by decide
    rw [e0] at q
    have := (nI_eq (by omega) (by omega)).mp q
    omega
  · rw [k5, half (by omega) (kv01 hR hw k3 k2)] at q
    have e := (nI_eq (by omega) (by omega)).mp q
    have ey : y' = y := by omega
    have emm : m' = m := by omega
    subst ey
    subst emm
    rw [k5]
    have hK := h I hG.2.2.2 Same.rf
    rcases hkv with z | z
    · rw [z] at hK ⊢
      exact ⟨fun _ => ⟨_, rfl, hK⟩, fun q => absurd (by simp) q⟩
    · rw [z] at hK ⊢
      exact ⟨fun q => absurd q ne1, fun _ => ⟨_, rfl, hK⟩⟩
end Going
