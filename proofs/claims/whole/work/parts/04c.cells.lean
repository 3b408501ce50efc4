/-! fields and rows of numbers -/
theorem OR_ck : ((List.range 12).all fun c => (List.range (nF (64 * c))).all fun j => (decide (fK (64 * c) j ≠ 3) || decide ((oR (64 * c) j).2 < cnt (oR (64 * c) j).1)) && (decide (fK (64 * c) j ≠ 4) || decide (cnt (64 * c + 1 + j) = cnt (64 * c)))) = true := by decide +kernel
theorem ER_ck : ((List.range 768).all fun r => decide (r % 64 = 0) || decide ((aK r).1 < 4) || decide (7 ≤ (aK r).1) || (List.range (aK r).2).all (fun k => decide ((eR r).2 + k < cnt (eR r).1))) = true := by decide +kernel
theorem c64 {a : Nat} (h : a % 64 = 0) : 64 * (a / 64) = a := by omega
theorem or_ok {a b : Nat} (ha : a < 768) (h0 : a % 64 = 0) (hb : b < nF a) (hk : fK a b = 3) : okv (vR (oR a b).1 (oR a b).2) := by
  have h := List.all_eq_true.mp (List.all_eq_true.mp OR_ck (a / 64) (List.mem_range.mpr (by omega))) b (List.mem_range.mpr (by rw [c64 h0]; exact hb))
  rw [c64 h0] at h
  simp only [Bool.and_eq_true, Bool.or_eq_true, decide_eq_true_eq] at h
  rcases h.1 with q | q
  · exact absurd hk q
  · exact q
theorem ra_ok {a b i : Nat} (ha : a < 768) (h0 : a % 64 = 0) (hb : b < nF a) (hk : fK a b = 4) (hi : i < cnt a) : okv (vR (a + 1 + b) i) := by
  have h := List.all_eq_true.mp (List.all_eq_true.mp OR_ck (a / 64) (List.mem_range.mpr (by omega))) b (List.mem_range.mpr (by rw [c64 h0]; exact hb))
  rw [c64 h0] at h
  simp only [Bool.and_eq_true, Bool.or_eq_true, decide_eq_true_eq] at h
  rcases h.2 with q | q
  · exact absurd hk q
  · show i < cnt (a + 1 + b)
    rw [q]
    exact hi
theorem er_ok {a k : Nat} (ha : a < 768) (h0 : a % 64 ≠ 0) (h4 : 4 ≤ (aK a).1) (h7 : (aK a).1 < 7) (hk : k < (aK a).2) : okv (vR (eR a).1 ((eR a).2 + k)) := by
  have h := List.all_eq_true.mp ER_ck a (List.mem_range.mpr ha)
  simp only [Bool.or_eq_true, decide_eq_true_eq] at h
  rcases h with ((q | q) | q) | q
  · exact absurd q h0
  · omega
  · omega
  · have q2 := List.all_eq_true.mp q k (List.mem_range.mpr hk)
    simp only [decide_eq_true_eq] at q2
    exact q2
theorem cel_obj {ad : Nat → Nat → Nat} {cA : Nat → ClassId} {I : MI} {L : ML} {r i : Nat} (h : r % 64 = 0) : cel ad cA I L r i = .inr (r / 64, (List.range (nF r)).map (fv ad I L r i)) := by simp [cel, h]
theorem cel_arr {ad : Nat → Nat → Nat} {cA : Nat → ClassId} {I : MI} {L : ML} {r i : Nat} (h : r % 64 ≠ 0) : cel ad cA I L r i = .inl (cA (aK r).1, (aK r).2, ar ad I L r i) := by simp [cel, h]
theorem fs_at {ad : Nat → Nat → Nat} {I : MI} {L : ML} {a i b : Nat} (h : b < nF a) : ((List.range (nF a)).map (fv ad I L a i))[b]? = some (fv ad I L a i b) := by simp [h]
theorem cel_puti {ad : Nat → Nat → Nat} {cA : Nat → ClassId} {I : MI} {L : ML} {a i b : Nat} {x : Int32} (h0 : a % 64 = 0) (hb : b < nF a) (hk : fK a b = 0 ∨ fK a b = 1) : cel ad cA (ui I a i b x) L a i = .inr (a / 64, ((List.range (nF a)).map (fv ad I L a i)).set b (.int x)) := by
  rw [cel_obj h0]
  congr 2
  apply List.ext_getElem?
  intro j
  by_cases hj : j < nF a
  · rw [fs_at hj]
    by_cases e : b = j
    · subst e
      rw [List.getElem?_set_self (by simpa using hj)]
      rcases hk with q | q <;> simp [fv, q, ui]
    · rw [List.getElem?_set_ne e, fs_at hj]
      have e' : ¬ j = b := fun q => e q.symm
      simp [fv, ui, e']
  · rw [List.getElem?_eq_none (by simp; omega), List.getElem?_eq_none (by simp; omega)]
theorem cel_putl {ad : Nat → Nat → Nat} {cA : Nat → ClassId} {I : MI} {L : ML} {a i b : Nat} {x : Int64} (h0 : a % 64 = 0) (hb : b < nF a) (hk : fK a b = 2) : cel ad cA I (ul L a i b x) a i = .inr (a / 64, ((List.range (nF a)).map (fv ad I L a i)).set b (.long x)) := by
  rw [cel_obj h0]
  congr 2
  apply List.ext_getElem?
  intro j
  by_cases hj : j < nF a
  · rw [fs_at hj]
    by_cases e : b = j
    · subst e
      rw [List.getElem?_set_self (by simpa using hj)]
      simp [fv, hk, ul]
    · rw [List.getElem?_set_ne e, fs_at hj]
      have e' : ¬ j = b := fun q => e q.symm
      simp [fv, ul, e']
  · rw [List.getElem?_eq_none (by simp; omega), List.getElem?_eq_none (by simp; omega)]
theorem Sc_ui {Ls : Nat} {xs : Nat → Int32} {I : MI} {r i k : Nat} {x : Int32} (h : Sc Ls xs I) (hr : r < 768) : Sc Ls xs (ui I r i k x) := by
  refine ⟨?_, ?_, h.2.2⟩
  · rw [ui_off (fun q => by omega)]; exact h.1
  · rw [ui_off (fun q => by omega)]; exact h.2.1
theorem Sc_ua {Ls : Nat} {xs : Nat → Int32} {I : MI} {r i : Nat} {f : Nat → Int32} (h : Sc Ls xs I) (hr : r < 768) : Sc Ls xs (ua I r i f) := by
  refine ⟨?_, ?_, h.2.2⟩
  · rw [ua_off (fun q => by omega)]; exact h.1
  · rw [ua_off (fun q => by omega)]; exact h.2.1
section Cells
variable {p : Program} {l : Launch} {e : Env} {R : Room} {s : State} {m : MethodId} {args : Array Value} {below : List Frame} {meth : Method} {c : Code} {cells slots : Nat} {Qw : State → Prop}
variable {D : va_G} {cA : Nat → ClassId} {ad : Nat → Nat → Nat} {A : Nat → Prop} {cc : ByteArray} {nL own Ls : Nat} {xs : Nat → Int32}
variable {pc : Nat} {ls st ls' st' : List MV} {I I' : MI} {L L' : ML} {P : Prop} {q : Nat × Nat × Nat × Nat × Nat × Nat × Int32 × Int64}
variable {H : Heap} {locs : List Loc} {la : Array Slot} {rest : List Value} {k a b i : Nat}
theorem row_get (hC : Cx p R s m args c D cA ad A cc nL own Ls xs) (hd : decode cc pc = .ok (.getfield k, 3)) (ha : a < 768) (h0 : a % 64 = 0) (hbn : b < nF a) (hfl : (own, k, a, b) ∈ FLl) (hi : i < cnt a) (hP : va_P D CL (wsI ad cA I L) H)
    (kk : W p l e R s m args below meth c H locs cells slots Qw (F0 m (pc + 3) la (fv ad I L a i b :: rest))) : W p l e R s m args below meth c H locs cells slots Qw (F0 m pc la (.ref (ad a i) :: rest)) := by
  obtain ⟨hx, hb, hml, hown, hts, hKt, hSh, hAd, hRf, hRl⟩ := hC
  obtain ⟨q0, hq, he⟩ := wsI_at (ad := ad) (cA := cA) (I := I) (L := L) ha hi
  rw [cel_obj h0] at he
  have h12 : a / 64 < 12 := by omega
  have hc : CL[a / 64]? = some (cn (a / 64), Tf (a / 64), nF a) := by rw [CL_at h12, nF_c]
  have hin := CL_in h12
  rw [nF_c] at hin
  have hdc : (Tf (a / 64) b).1 = cn (a / 64) := of_decide_eq_true (List.all_eq_true.mp (List.all_eq_true.mp dc_ck (a / 64) (List.mem_range.mpr h12)) b (List.mem_range.mpr (by rw [nF_c]; exact hbn)))
  rcases FL_ok hfl with hf | hf
  · exact va_get (D := D) (ci := a / 64) (own := cn own) (ref := cn (a / 64)) (C := cn (a / 64)) (T := Tf (a / 64)) (N := nF a) hx hb hts hin hown hKt.1 hP q0 he hc b hbn (hts _ hf) (fun x h => by rw [hdc] at h; exact h) (fs_at hbn) hd kk
  · exact va_getN (D := D) (ci := a / 64) (own := cn own) (ref := cn (a / 64)) (C := cn (a / 64)) (T := Tf (a / 64)) (N := nF a) (host := "CoachWaits") hx hb hts hin hown hKt.1 hP q0 he hc b hbn (va_Nw.use rfl (hKt.2.1 _ hf)) (fun x h => by rw [hdc] at h; exact h) (fs_at hbn) hd kk
theorem row_put {v : Value} (hC : Cx p R s m args c D cA ad A cc nL own Ls xs) (hd : decode cc pc = .ok (.putfield k, 3)) (ha : a < 768) (h0 : a % 64 = 0) (hbn : b < nF a) (hfin : (Tf (a / 64) b).2.2.2 = false) (hfl : (own, k, a, b) ∈ FLl) (hi : i < cnt a) (hn : narrow (tyF (a / 64) b) v = v) (hfit : fits (tyF (a / 64) b) v = true) (hP : va_P D CL (wsI ad cA I L) H) (hS : va_S A s.heap H locs)
    (hcel : cel ad cA I' L' a i = .inr (a / 64, ((List.range (nF a)).map (fv ad I L a i)).set b v)) (hoff : ∀ x y : Nat, ¬ (x = a ∧ y = i) → I' x y = I x y ∧ L' x y = L x y)
    (kk : ∀ (H1 : Heap) (locs1 : List Loc), va_P D CL (wsI ad cA I' L') H1 → va_S A s.heap H1 locs1 → W p l e R s m args below meth c H1 locs1 cells slots Qw (F0 m (pc + 3) la rest)) : W p l e R s m args below meth c H locs cells slots Qw (F0 m pc la (v :: .ref (ad a i) :: rest)) := by
  obtain ⟨hx, hb, hml, hown, hts, hKt, hSh, hAd, hRf, hRl⟩ := hC
  obtain ⟨q0, hq, he⟩ := wsI_at (ad := ad) (cA := cA) (I := I) (L := L) ha hi
  rw [cel_obj h0] at he
  have h12 : a / 64 < 12 := by omega
  have hc : CL[a / 64]? = some (cn (a / 64), Tf (a / 64), nF a) := by rw [CL_at h12, nF_c]
  have hin := CL_in h12
  rw [nF_c] at hin
  have hdc : (Tf (a / 64) b).1 = cn (a / 64) := of_decide_eq_true (List.all_eq_true.mp (List.all_eq_true.mp dc_ck (a / 64) (List.mem_range.mpr h12)) b (List.mem_range.mpr (by rw [nF_c]; exact hbn)))
  have hty : ∀ j, j < nF a → parseFieldDescriptor (Tf (a / 64) j).2.2.1 = some (tyF (a / 64) j) := fun j hj => by
    have h := List.all_eq_true.mp (List.all_eq_true.mp ty_ck (a / 64) (List.mem_range.mpr h12)) j (List.mem_range.mpr (by rw [nF_c]; exact hj))
    simp only [Bool.and_eq_true] at h
    exact of_decide_eq_true h.1
  have hnm : ∀ x, x < nF a → ∀ y, y < nF a → x ≠ y → (Tf (a / 64) x).2.1 ≠ (Tf (a / 64) y).2.1 := fun x hx y hy hne => by
    have h := List.all_eq_true.mp (List.all_eq_true.mp (List.all_eq_true.mp nm_ck (a / 64) (List.mem_range.mpr h12)) x (List.mem_range.mpr (by rw [nF_c]; exact hx))) y (List.mem_range.mpr (by rw [nF_c]; exact hy))
    simp only [Bool.or_eq_true, decide_eq_true_eq] at h
    rcases h with q | q
    · exact absurd q hne
    · exact q
  have hD := wsI_D (cA := cA) (I := I) (L := L) hAd
  have hset := wsI_set (ad := ad) (cA := cA) (I := I) (L := L) (I' := I') (L' := L') hq hoff
  rw [hcel] at hset
  rcases FL_ok hfl with hf | hf
  · exact va_put (D := D) (ci := a / 64) (own := cn own) (ref := cn (a / 64)) (C := cn (a / 64)) (T := Tf (a / 64)) (N := nF a) (ty := tyF (a / 64) b) hx hb hts hin (tyF (a / 64)) hty hnm hown hKt.1 hP hD hS q0 he hc b hbn (hts _ hf) (fun x h => by rw [hdc] at h; exact h) hfin (hty b hbn) hn hfit (by simpa using hbn) hd (fun H1 locs1 hP1 hD1 hS1 => kk H1 locs1 (by rw [← hset]; exact hP1) hS1)
  · exact va_putN (D := D) (ci := a / 64) (own := cn own) (ref := cn (a / 64)) (C := cn (a / 64)) (T := Tf (a / 64)) (N := nF a) (host := "CoachWaits") (ty := tyF (a / 64) b) hx hb hts hin (tyF (a / 64)) hty hnm hown hKt.1 hP hD hS q0 he hc b hbn (va_Nw.use rfl (hKt.2.1 _ hf)) (fun x h => by rw [hdc] at h; exact h) hfin (hty b hbn) hn hfit (by simpa using hbn) hd (fun H1 locs1 hP1 hD1 hS1 => kk H1 locs1 (by rw [← hset]; exact hP1) hS1)
theorem tyF_k {t : Nat} {ty : FieldType} (hk : fK a b = t) (h12 : a < 768) (hbn : b < nF a) (hty : (t = 0 ∧ ty = .int) ∨ (t = 1 ∧ ty = .boolean) ∨ (t = 2 ∧ ty = .long)) : tyF (a / 64) b = ty := by
  have h := List.all_eq_true.mp (List.all_eq_true.mp ty_ck (a / 64) (List.mem_range.mpr (by omega))) b (List.mem_range.mpr (by rw [nF_c]; exact hbn))
  rw [fK_c, hk] at h
  simp only [Bool.and_eq_true] at h
  rcases hty with ⟨rfl, rfl⟩ | ⟨rfl, rfl⟩ | ⟨rfl, rfl⟩
  · exact of_decide_eq_true h.2
  · exact of_decide_eq_true h.2
  · exact of_decide_eq_true h.2
theorem g_getfield (hC : Cx p R s m args c D cA ad A cc nL own Ls xs) {k : Nat} (h1 : ck1 own cc pc (.getfield k, q) = true) (h2 : ex1 (.getfield k, q) ls st I L = some (ls', st', I', L', P)) (hp : P) (hk : Gl p l e R s m args below meth c cells slots Qw D cA ad A nL Ls xs (pc + q.1) ls' st' I' L') : Gl p l e R s m args below meth c cells slots Qw D cA ad A nL Ls xs pc ls st I L := by
  obtain ⟨n, t, a, b, c', e', z, w⟩ := q
  simp only [ck1, Bool.and_eq_true, decide_eq_true_eq] at h1
  obtain ⟨⟨hd, hn⟩, ht⟩ := h1
  have hn : n = 3 := hn
  subst hn
  have hd : decode cc pc = .ok (.getfield k, 3) := hd
  have h2 : xGet t a b c' e' ls st I L = some (ls', st', I', L', P) := h2
  rcases st with _ | ⟨v, r⟩
  · cases h2
  rcases v with v | v | ⟨ro, i⟩ | v
  · cases h2
  · cases h2
  · simp only [xGet] at h2
    by_cases hro : ro = a
    · subst hro
      rw [if_pos rfl] at h2
      intro H locs la hP hS hL hs o1 o2
      have hi : i < cnt ro := okl_h o2
      by_cases h45 : t = 4 ∨ t = 5
      · simp only [tck, if_pos h45, Bool.and_eq_true, decide_eq_true_eq] at ht
        obtain ⟨rfl, hsf⟩ := ht
        have hw := SF_ok (List.contains_iff_mem.mp hsf)
        obtain ⟨hx, hb, hml, hown, hts, hKt, hSh, hAd, hRf, hRl⟩ := hC
        have hi' : i < sLen.length := by rw [cnt_s.1] at hi; exact hi
        obtain ⟨z1, z2, z3, z4⟩ := hSh.1.1 i hi'
        rcases h45 with rfl | rfl
        · cases h2
          exact vk_getf hx hb z3 hS hown (hts _ hw) (fun _ h => h) hd (hk H locs la hP hS hL hs o1 (okl_c (ok_sv hi') (okl_t o2)))
        · cases h2
          exact vk_getf hx hb z2 hS hown (hts _ hw) (fun _ h => h) hd (hk H locs la hP hS hL hs o1 (okl_c trivial (okl_t o2)))
      · simp only [tck, if_neg h45, Bool.and_eq_true, decide_eq_true_eq] at ht
        obtain ⟨⟨⟨⟨ha, h0⟩, hbn⟩, hfl⟩, hkd⟩ := ht
        have hfl := List.contains_iff_mem.mp hfl
        refine row_get hC hd ha h0 hbn hfl hi hP ?_
        rcases t with _ | _ | _ | _ | t
        · cases h2
          simp only [Bool.or_eq_true, decide_eq_true_eq] at hkd
          have e1 : fv ad I L ro i b = .int (I ro i b) := by rcases hkd with q | q <;> simp [fv, q]
          rw [e1]
          exact hk H locs la hP hS hL hs o1 (okl_c trivial (okl_t o2))
        · cases h2
          simp only [decide_eq_true_eq] at hkd
          have e1 : fv ad I L ro i b = .long (L ro i b) := by simp [fv, hkd]
          rw [e1]
          exact hk H locs la hP hS hL hs o1 (okl_c trivial (okl_t o2))
        · cases h2
          simp only [Bool.and_eq_true, decide_eq_true_eq] at hkd
          have hok := or_ok ha h0 hbn hkd.1
          have e1 : fv ad I L ro i b = .ref (ad c' e') := by simp [fv, hkd.1, hkd.2]
          rw [hkd.2] at hok
          rw [e1]
          exact hk H locs la hP hS hL hs o1 (okl_c hok (okl_t o2))
        · cases h2
          simp only [Bool.and_eq_true, decide_eq_true_eq] at hkd
          have hok := ra_ok ha h0 hbn hkd.1 hi
          have e1 : fv ad I L ro i b = .ref (ad c' i) := by simp [fv, hkd.1, hkd.2]
          rw [hkd.2] at hok
          rw [e1]
          exact hk H locs la hP hS hL hs o1 (okl_c hok (okl_t o2))
        · exact absurd hkd (by simp)
    · rw [if_neg hro] at h2
      cases h2
  · cases h2
theorem g_putfield (hC : Cx p R s m args c D cA ad A cc nL own Ls xs) {k : Nat} (h1 : ck1 own cc pc (.putfield k, q) = true) (h2 : ex1 (.putfield k, q) ls st I L = some (ls', st', I', L', P)) (hp : P) (hk : Gl p l e R s m args below meth c cells slots Qw D cA ad A nL Ls xs (pc + q.1) ls' st' I' L') : Gl p l e R s m args below meth c cells slots Qw D cA ad A nL Ls xs pc ls st I L := by
  obtain ⟨n, t, a, b, c', e', z, w⟩ := q
  simp only [ck1, Bool.and_eq_true, decide_eq_true_eq] at h1
  obtain ⟨⟨hd, hn⟩, ht⟩ := h1
  have hn : n = 3 := hn
  subst hn
  have hd : decode cc pc = .ok (.putfield k, 3) := hd
  have h2 : xPut t a b ls st I L = some (ls', st', I', L', P) := h2
  simp only [tck, Bool.and_eq_true, decide_eq_true_eq, Bool.not_eq_true'] at ht
  obtain ⟨⟨⟨⟨⟨ha, h0⟩, hbn⟩, hfin⟩, hfl⟩, hkd⟩ := ht
  have hfl := List.contains_iff_mem.mp hfl
  rcases st with _ | ⟨v, _ | ⟨u, r⟩⟩
  · cases h2
  · rcases v with v | v | v | v <;> cases h2
  rcases v with x | x | v | v
  · rcases u with u | u | ⟨ro, i⟩ | u
    · cases h2
    · cases h2
    · simp only [xPut] at h2
      by_cases hro : ro = a
      · subst hro
        rw [if_pos rfl] at h2
        intro H locs la hP hS hL hs o1 o2
        have hi : i < cnt ro := okl_h (okl_t o2)
        rcases t with _ | _ | _ | t
        · cases h2
          simp only [decide_eq_true_eq] at hkd
          have ety := tyF_k (t := 0) (ty := .int) hkd ha hbn (Or.inl ⟨rfl, rfl⟩)
          exact row_put (v := .int x) hC hd ha h0 hbn hfin hfl hi (by rw [ety]; rfl) (by rw [ety]; rfl) hP hS (cel_puti h0 hbn (Or.inl hkd)) (fun x y hxy => ⟨ui_off hxy, rfl⟩) (fun H1 locs1 hP1 hS1 => hk H1 locs1 la hP1 hS1 hL (Sc_ui hs ha) o1 (okl_t (okl_t o2)))
        · cases h2
        · cases h2
          simp only [decide_eq_true_eq] at hkd
          have ety := tyF_k (t := 1) (ty := .boolean) hkd ha hbn (Or.inr (Or.inl ⟨rfl, rfl⟩))
          exact row_put (v := .int x) hC hd ha h0 hbn hfin hfl hi (by rw [ety]; rcases hp with rfl | rfl <;> rfl) (by rw [ety]; rcases hp with rfl | rfl <;> rfl) hP hS (cel_puti h0 hbn (Or.inr hkd)) (fun x y hxy => ⟨ui_off hxy, rfl⟩) (fun H1 locs1 hP1 hS1 => hk H1 locs1 la hP1 hS1 hL (Sc_ui hs ha) o1 (okl_t (okl_t o2)))
        · cases h2
      · rw [if_neg hro] at h2
        cases h2
    · cases h2
  · rcases u with u | u | ⟨ro, i⟩ | u
    · cases h2
    · cases h2
    · simp only [xPut] at h2
      by_cases hro : ro = a
      · subst hro
        rw [if_pos rfl] at h2
        intro H locs la hP hS hL hs o1 o2
        have hi : i < cnt ro := okl_h (okl_t o2)
        rcases t with _ | _ | t
        · cases h2
        · cases h2
          simp only [decide_eq_true_eq] at hkd
          have ety := tyF_k (t := 2) (ty := .long) hkd ha hbn (Or.inr (Or.inr ⟨rfl, rfl⟩))
          exact row_put (v := .long x) hC hd ha h0 hbn hfin hfl hi (by rw [ety]; rfl) (by rw [ety]; rfl) hP hS (cel_putl h0 hbn hkd) (fun x y hxy => ⟨rfl, ul_off hxy⟩) (fun H1 locs1 hP1 hS1 => hk H1 locs1 la hP1 hS1 hL hs o1 (okl_t (okl_t o2)))
        · cases h2
      · rw [if_neg hro] at h2
        cases h2
    · cases h2
  · cases h2
  · cases h2
end Cells
