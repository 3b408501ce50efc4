/-! each instruction of the small machine is the real one's: printed by wip/whole/gen/sound.py -/
def Cx (p : Program) (R : Room) (s : State) (m : MethodId) (args : Array Value) (c : Code) (D : va_G) (cA : Nat → ClassId) (ad : Nat → Nat → Nat) (A : Nat → Prop) (cc : ByteArray) (nL own Ls : Nat) (xs : Nat → Int32) : Prop :=
  p.tables.exec = Jvm.exec ∧ c.code = cc ∧ c.maxLocals = nL ∧ s.vm.findClass (cn own) = some m.cls ∧ (∀ w ∈ TW, w.before args s = true) ∧ Kt D cA ad s ∧ Sh ad A Ls xs s s.heap ∧ Ad ad A ∧ 1 ≤ R.frames ∧ nativeFrameWords "java/lang/System" "arraycopy" 5 + 11 ≤ R.locals
def Gl (p : Program) (l : Launch) (e : Env) (R : Room) (s : State) (m : MethodId) (args : Array Value) (below : List Frame) (meth : Method) (c : Code) (cells slots : Nat) (Qw : State → Prop) (D : va_G) (cA : Nat → ClassId) (ad : Nat → Nat → Nat) (A : Nat → Prop) (nL Ls : Nat) (xs : Nat → Int32) : RT := fun pc ls st I L =>
  ∀ (H : Heap) (locs : List Loc) (la : Array Slot), va_P D CL (wsI ad cA I L) H → va_S A s.heap H locs → LR ad nL la ls → Sc Ls xs I → okl ls → okl st → W p l e R s m args below meth c H locs cells slots Qw (F0 m pc la (st.map (upv ad)))
section Inst
variable {p : Program} {l : Launch} {e : Env} {R : Room} {s : State} {m : MethodId} {args : Array Value} {below : List Frame} {meth : Method} {c : Code} {cells slots : Nat} {Qw : State → Prop}
variable {D : va_G} {cA : Nat → ClassId} {ad : Nat → Nat → Nat} {A : Nat → Prop} {cc : ByteArray} {nL own Ls : Nat} {xs : Nat → Int32}
variable {pc : Nat} {ls st ls' st' : List MV} {I I' : MI} {L L' : ML} {P : Prop} {q : Nat × Nat × Nat × Nat × Nat × Nat × Int32 × Int64}

theorem g_iconst (hC : Cx p R s m args c D cA ad A cc nL own Ls xs) {k : Int} (h1 : ck1 own cc pc (.iconst k, q) = true) (h2 : ex1 (.iconst k, q) ls st I L = some (ls', st', I', L', P)) (hp : P) (hk : Gl p l e R s m args below meth c cells slots Qw D cA ad A nL Ls xs (pc + q.1) ls' st' I' L') : Gl p l e R s m args below meth c cells slots Qw D cA ad A nL Ls xs pc ls st I L := by
  obtain ⟨hx, hb, hml, hown, hts, hKt, hSh, hAd, hRf, hRl⟩ := hC
  obtain ⟨n, t, a, b, c', e', z, w⟩ := q
  simp only [ck1, Bool.and_eq_true, decide_eq_true_eq] at h1
  obtain ⟨⟨hd, hn⟩, ht⟩ := h1
  have hn : n = 1 := hn
  subst hn
  have hd : decode cc pc = .ok (.iconst k, 1) := hd
  have hz := of_decide_eq_true ht
  have h2 : some (ls, vI z :: st, I, L, True) = some (ls', st', I', L', P) := h2
  cases h2
  intro H locs la hP hS hL hs o1 o2
  exact lv_iconst hx hb hd hz (hk H locs la hP hS hL hs o1 (okl_c trivial o2))

theorem g_bipush (hC : Cx p R s m args c D cA ad A cc nL own Ls xs) {k : Int} (h1 : ck1 own cc pc (.bipush k, q) = true) (h2 : ex1 (.bipush k, q) ls st I L = some (ls', st', I', L', P)) (hp : P) (hk : Gl p l e R s m args below meth c cells slots Qw D cA ad A nL Ls xs (pc + q.1) ls' st' I' L') : Gl p l e R s m args below meth c cells slots Qw D cA ad A nL Ls xs pc ls st I L := by
  obtain ⟨hx, hb, hml, hown, hts, hKt, hSh, hAd, hRf, hRl⟩ := hC
  obtain ⟨n, t, a, b, c', e', z, w⟩ := q
  simp only [ck1, Bool.and_eq_true, decide_eq_true_eq] at h1
  obtain ⟨⟨hd, hn⟩, ht⟩ := h1
  have hn : n = 2 := hn
  subst hn
  have hd : decode cc pc = .ok (.bipush k, 2) := hd
  have hz := of_decide_eq_true ht
  have h2 : some (ls, vI z :: st, I, L, True) = some (ls', st', I', L', P) := h2
  cases h2
  intro H locs la hP hS hL hs o1 o2
  exact lv_bipush hx hb hd hz (hk H locs la hP hS hL hs o1 (okl_c trivial o2))

theorem g_sipush (hC : Cx p R s m args c D cA ad A cc nL own Ls xs) {k : Int} (h1 : ck1 own cc pc (.sipush k, q) = true) (h2 : ex1 (.sipush k, q) ls st I L = some (ls', st', I', L', P)) (hp : P) (hk : Gl p l e R s m args below meth c cells slots Qw D cA ad A nL Ls xs (pc + q.1) ls' st' I' L') : Gl p l e R s m args below meth c cells slots Qw D cA ad A nL Ls xs pc ls st I L := by
  obtain ⟨hx, hb, hml, hown, hts, hKt, hSh, hAd, hRf, hRl⟩ := hC
  obtain ⟨n, t, a, b, c', e', z, w⟩ := q
  simp only [ck1, Bool.and_eq_true, decide_eq_true_eq] at h1
  obtain ⟨⟨hd, hn⟩, ht⟩ := h1
  have hn : n = 3 := hn
  subst hn
  have hd : decode cc pc = .ok (.sipush k, 3) := hd
  have hz := of_decide_eq_true ht
  have h2 : some (ls, vI z :: st, I, L, True) = some (ls', st', I', L', P) := h2
  cases h2
  intro H locs la hP hS hL hs o1 o2
  exact lv_sipush hx hb hd hz (hk H locs la hP hS hL hs o1 (okl_c trivial o2))

theorem g_lconst (hC : Cx p R s m args c D cA ad A cc nL own Ls xs) {k : Fin 2} (h1 : ck1 own cc pc (.lconst k, q) = true) (h2 : ex1 (.lconst k, q) ls st I L = some (ls', st', I', L', P)) (hp : P) (hk : Gl p l e R s m args below meth c cells slots Qw D cA ad A nL Ls xs (pc + q.1) ls' st' I' L') : Gl p l e R s m args below meth c cells slots Qw D cA ad A nL Ls xs pc ls st I L := by
  obtain ⟨hx, hb, hml, hown, hts, hKt, hSh, hAd, hRf, hRl⟩ := hC
  obtain ⟨n, t, a, b, c', e', z, w⟩ := q
  simp only [ck1, Bool.and_eq_true, decide_eq_true_eq] at h1
  obtain ⟨⟨hd, hn⟩, ht⟩ := h1
  have hn : n = 1 := hn
  subst hn
  have hd : decode cc pc = .ok (.lconst k, 1) := hd
  have hz := of_decide_eq_true ht
  have h2 : some (ls, vL w :: st, I, L, True) = some (ls', st', I', L', P) := h2
  cases h2
  intro H locs la hP hS hL hs o1 o2
  exact lv_lconst hx hb hd hz (hk H locs la hP hS hL hs o1 (okl_c trivial o2))

theorem g_aconst_null (hC : Cx p R s m args c D cA ad A cc nL own Ls xs) (h1 : ck1 own cc pc (.aconst_null, q) = true) (h2 : ex1 (.aconst_null, q) ls st I L = some (ls', st', I', L', P)) (hp : P) (hk : Gl p l e R s m args below meth c cells slots Qw D cA ad A nL Ls xs (pc + q.1) ls' st' I' L') : Gl p l e R s m args below meth c cells slots Qw D cA ad A nL Ls xs pc ls st I L := by
  obtain ⟨hx, hb, hml, hown, hts, hKt, hSh, hAd, hRf, hRl⟩ := hC
  obtain ⟨n, t, a, b, c', e', z, w⟩ := q
  simp only [ck1, Bool.and_eq_true, decide_eq_true_eq] at h1
  obtain ⟨⟨hd, hn⟩, ht⟩ := h1
  have hn : n = 1 := hn
  subst hn
  have hd : decode cc pc = .ok (.aconst_null, 1) := hd
  have h2 : some (ls, vN :: st, I, L, True) = some (ls', st', I', L', P) := h2
  cases h2
  intro H locs la hP hS hL hs o1 o2
  exact lv_null hx hb hd (hk H locs la hP hS hL hs o1 (okl_c trivial o2))

theorem g_ldc_w (hC : Cx p R s m args c D cA ad A cc nL own Ls xs) {k : Nat} (h1 : ck1 own cc pc (.ldc_w k, q) = true) (h2 : ex1 (.ldc_w k, q) ls st I L = some (ls', st', I', L', P)) (hp : P) (hk : Gl p l e R s m args below meth c cells slots Qw D cA ad A nL Ls xs (pc + q.1) ls' st' I' L') : Gl p l e R s m args below meth c cells slots Qw D cA ad A nL Ls xs pc ls st I L := by
  obtain ⟨hx, hb, hml, hown, hts, hKt, hSh, hAd, hRf, hRl⟩ := hC
  obtain ⟨n, t, a, b, c', e', z, w⟩ := q
  simp only [ck1, Bool.and_eq_true, decide_eq_true_eq] at h1
  obtain ⟨⟨hd, hn⟩, ht⟩ := h1
  have hn : n = 3 := hn
  subst hn
  have hd : decode cc pc = .ok (.ldc_w k, 3) := hd
  have hz := IK_ok (List.contains_iff_mem.mp ht)
  have h2 : some (ls, vI z :: st, I, L, True) = some (ls', st', I', L', P) := h2
  cases h2
  intro H locs la hP hS hL hs o1 o2
  exact lv_ldcw hx hb hown (hts _ hz) hd (hk H locs la hP hS hL hs o1 (okl_c trivial o2))

theorem g_ldc2_w (hC : Cx p R s m args c D cA ad A cc nL own Ls xs) {k : Nat} (h1 : ck1 own cc pc (.ldc2_w k, q) = true) (h2 : ex1 (.ldc2_w k, q) ls st I L = some (ls', st', I', L', P)) (hp : P) (hk : Gl p l e R s m args below meth c cells slots Qw D cA ad A nL Ls xs (pc + q.1) ls' st' I' L') : Gl p l e R s m args below meth c cells slots Qw D cA ad A nL Ls xs pc ls st I L := by
  obtain ⟨hx, hb, hml, hown, hts, hKt, hSh, hAd, hRf, hRl⟩ := hC
  obtain ⟨n, t, a, b, c', e', z, w⟩ := q
  simp only [ck1, Bool.and_eq_true, decide_eq_true_eq] at h1
  obtain ⟨⟨hd, hn⟩, ht⟩ := h1
  have hn : n = 3 := hn
  subst hn
  have hd : decode cc pc = .ok (.ldc2_w k, 3) := hd
  have hz := LK_ok (List.contains_iff_mem.mp ht)
  have h2 : some (ls, vL w :: st, I, L, True) = some (ls', st', I', L', P) := h2
  cases h2
  intro H locs la hP hS hL hs o1 o2
  exact lv_ldc2 hx hb hown (hts _ hz) hd (hk H locs la hP hS hL hs o1 (okl_c trivial o2))

theorem g_ldc (hC : Cx p R s m args c D cA ad A cc nL own Ls xs) {k : Nat} (h1 : ck1 own cc pc (.ldc k, q) = true) (h2 : ex1 (.ldc k, q) ls st I L = some (ls', st', I', L', P)) (hp : P) (hk : Gl p l e R s m args below meth c cells slots Qw D cA ad A nL Ls xs (pc + q.1) ls' st' I' L') : Gl p l e R s m args below meth c cells slots Qw D cA ad A nL Ls xs pc ls st I L := by
  obtain ⟨hx, hb, hml, hown, hts, hKt, hSh, hAd, hRf, hRl⟩ := hC
  obtain ⟨n, t, a, b, c', e', z, w⟩ := q
  simp only [ck1, Bool.and_eq_true, decide_eq_true_eq] at h1
  obtain ⟨⟨hd, hn⟩, ht⟩ := h1
  have hn : n = 2 := hn
  subst hn
  have hd : decode cc pc = .ok (.ldc k, 2) := hd
  have ht : (if t = 0 then IKl.contains (own, k, z) else SKl.contains (own, k, a)) = true := ht
  have h2 : (if t = 0 then xP (vI z) ls st I L else xP (vR 4000 a) ls st I L) = some (ls', st', I', L', P) := h2
  by_cases h0 : t = 0
  · rw [if_pos h0] at ht h2
    have hz := IK_ok (List.contains_iff_mem.mp ht)
    have h2 : some (ls, vI z :: st, I, L, True) = some (ls', st', I', L', P) := h2
    cases h2
    intro H locs la hP hS hL hs o1 o2
    exact lv_ldc hx hb hown (hts _ hz) hd (hk H locs la hP hS hL hs o1 (okl_c trivial o2))
  · rw [if_neg h0] at ht h2
    have hz := List.contains_iff_mem.mp ht
    have h2 : some (ls, vR 4000 a :: st, I, L, True) = some (ls', st', I', L', P) := h2
    cases h2
    intro H locs la hP hS hL hs o1 o2
    have ha : a < sLen.length := SK_lt hz
    exact va_ldcS (tx := sTx.getD a "") (q := ad 4000 a) hx hb hown (hKt.2.2 (own, k, a) hz) hd (hk H locs la hP hS hL hs o1 (okl_c (ok_s ha) o2))

theorem g_getstatic (hC : Cx p R s m args c D cA ad A cc nL own Ls xs) {k : Nat} (h1 : ck1 own cc pc (.getstatic k, q) = true) (h2 : ex1 (.getstatic k, q) ls st I L = some (ls', st', I', L', P)) (hp : P) (hk : Gl p l e R s m args below meth c cells slots Qw D cA ad A nL Ls xs (pc + q.1) ls' st' I' L') : Gl p l e R s m args below meth c cells slots Qw D cA ad A nL Ls xs pc ls st I L := by
  obtain ⟨hx, hb, hml, hown, hts, hKt, hSh, hAd, hRf, hRl⟩ := hC
  obtain ⟨n, t, a, b, c', e', z, w⟩ := q
  simp only [ck1, Bool.and_eq_true, decide_eq_true_eq] at h1
  obtain ⟨⟨hd, hn⟩, ht⟩ := h1
  have hn : n = 3 := hn
  subst hn
  have hd : decode cc pc = .ok (.getstatic k, 3) := hd
  have hz := GS_ok (List.contains_iff_mem.mp ht)
  have h2 : some (ls, vI 1 :: st, I, L, True) = some (ls', st', I', L', P) := h2
  cases h2
  intro H locs la hP hS hL hs o1 o2
  exact va_gets hx hb hSh.2.1 hS hown (hts _ hz) (fun _ h => h) hd (hk H locs la hP hS hL hs o1 (okl_c trivial o2))

theorem g_iload (hC : Cx p R s m args c D cA ad A cc nL own Ls xs) {k : Nat} (h1 : ck1 own cc pc (.iload k, q) = true) (h2 : ex1 (.iload k, q) ls st I L = some (ls', st', I', L', P)) (hp : P) (hk : Gl p l e R s m args below meth c cells slots Qw D cA ad A nL Ls xs (pc + q.1) ls' st' I' L') : Gl p l e R s m args below meth c cells slots Qw D cA ad A nL Ls xs pc ls st I L := by
  obtain ⟨hx, hb, hml, hown, hts, hKt, hSh, hAd, hRf, hRl⟩ := hC
  obtain ⟨n, t, a, b, c', e', z, w⟩ := q
  simp only [ck1, Bool.and_eq_true, decide_eq_true_eq] at h1
  obtain ⟨⟨hd, hn⟩, ht⟩ := h1
  have hn : n = 2 := hn
  subst hn
  have hd : decode cc pc = .ok (.iload k, 2) := hd
  have h2 : xIld k ls st I L = some (ls', st', I', L', P) := h2
  unfold xIld at h2
  split at h2
  · rename_i x hl
    cases h2
    intro H locs la hP hS hL hs o1 o2
    exact lv_iload hx hb hd (hL.2.2.2 _ _ hl (by simp)) (hk H locs la hP hS hL hs o1 (okl_c trivial o2))
  · cases h2

theorem g_iload_n (hC : Cx p R s m args c D cA ad A cc nL own Ls xs) {k : Fin 4} (h1 : ck1 own cc pc (.iload_n k, q) = true) (h2 : ex1 (.iload_n k, q) ls st I L = some (ls', st', I', L', P)) (hp : P) (hk : Gl p l e R s m args below meth c cells slots Qw D cA ad A nL Ls xs (pc + q.1) ls' st' I' L') : Gl p l e R s m args below meth c cells slots Qw D cA ad A nL Ls xs pc ls st I L := by
  obtain ⟨hx, hb, hml, hown, hts, hKt, hSh, hAd, hRf, hRl⟩ := hC
  obtain ⟨n, t, a, b, c', e', z, w⟩ := q
  simp only [ck1, Bool.and_eq_true, decide_eq_true_eq] at h1
  obtain ⟨⟨hd, hn⟩, ht⟩ := h1
  have hn : n = 1 := hn
  subst hn
  have hd : decode cc pc = .ok (.iload_n k, 1) := hd
  have h2 : xIld k.val ls st I L = some (ls', st', I', L', P) := h2
  unfold xIld at h2
  split at h2
  · rename_i x hl
    cases h2
    intro H locs la hP hS hL hs o1 o2
    exact lv_iload_n hx hb hd rfl (hL.2.2.2 _ _ hl (by simp)) (hk H locs la hP hS hL hs o1 (okl_c trivial o2))
  · cases h2

theorem g_lload (hC : Cx p R s m args c D cA ad A cc nL own Ls xs) {k : Nat} (h1 : ck1 own cc pc (.lload k, q) = true) (h2 : ex1 (.lload k, q) ls st I L = some (ls', st', I', L', P)) (hp : P) (hk : Gl p l e R s m args below meth c cells slots Qw D cA ad A nL Ls xs (pc + q.1) ls' st' I' L') : Gl p l e R s m args below meth c cells slots Qw D cA ad A nL Ls xs pc ls st I L := by
  obtain ⟨hx, hb, hml, hown, hts, hKt, hSh, hAd, hRf, hRl⟩ := hC
  obtain ⟨n, t, a, b, c', e', z, w⟩ := q
  simp only [ck1, Bool.and_eq_true, decide_eq_true_eq] at h1
  obtain ⟨⟨hd, hn⟩, ht⟩ := h1
  have hn : n = 2 := hn
  subst hn
  have hd : decode cc pc = .ok (.lload k, 2) := hd
  have h2 : xLld k ls st I L = some (ls', st', I', L', P) := h2
  unfold xLld at h2
  split at h2
  · rename_i x hl
    cases h2
    intro H locs la hP hS hL hs o1 o2
    exact lv_lload hx hb hd (hL.2.2.2 _ _ hl (by simp)) (hk H locs la hP hS hL hs o1 (okl_c trivial o2))
  · cases h2

theorem g_lload_n (hC : Cx p R s m args c D cA ad A cc nL own Ls xs) {k : Fin 4} (h1 : ck1 own cc pc (.lload_n k, q) = true) (h2 : ex1 (.lload_n k, q) ls st I L = some (ls', st', I', L', P)) (hp : P) (hk : Gl p l e R s m args below meth c cells slots Qw D cA ad A nL Ls xs (pc + q.1) ls' st' I' L') : Gl p l e R s m args below meth c cells slots Qw D cA ad A nL Ls xs pc ls st I L := by
  obtain ⟨hx, hb, hml, hown, hts, hKt, hSh, hAd, hRf, hRl⟩ := hC
  obtain ⟨n, t, a, b, c', e', z, w⟩ := q
  simp only [ck1, Bool.and_eq_true, decide_eq_true_eq] at h1
  obtain ⟨⟨hd, hn⟩, ht⟩ := h1
  have hn : n = 1 := hn
  subst hn
  have hd : decode cc pc = .ok (.lload_n k, 1) := hd
  have h2 : xLld k.val ls st I L = some (ls', st', I', L', P) := h2
  unfold xLld at h2
  split at h2
  · rename_i x hl
    cases h2
    intro H locs la hP hS hL hs o1 o2
    exact lv_lload_n hx hb hd rfl (hL.2.2.2 _ _ hl (by simp)) (hk H locs la hP hS hL hs o1 (okl_c trivial o2))
  · cases h2

theorem g_aload (hC : Cx p R s m args c D cA ad A cc nL own Ls xs) {k : Nat} (h1 : ck1 own cc pc (.aload k, q) = true) (h2 : ex1 (.aload k, q) ls st I L = some (ls', st', I', L', P)) (hp : P) (hk : Gl p l e R s m args below meth c cells slots Qw D cA ad A nL Ls xs (pc + q.1) ls' st' I' L') : Gl p l e R s m args below meth c cells slots Qw D cA ad A nL Ls xs pc ls st I L := by
  obtain ⟨hx, hb, hml, hown, hts, hKt, hSh, hAd, hRf, hRl⟩ := hC
  obtain ⟨n, t, a, b, c', e', z, w⟩ := q
  simp only [ck1, Bool.and_eq_true, decide_eq_true_eq] at h1
  obtain ⟨⟨hd, hn⟩, ht⟩ := h1
  have hn : n = 2 := hn
  subst hn
  have hd : decode cc pc = .ok (.aload k, 2) := hd
  have h2 : xAld k ls st I L = some (ls', st', I', L', P) := h2
  unfold xAld at h2
  split at h2
  · rename_i x hl
    cases h2
    intro H locs la hP hS hL hs o1 o2
    exact lv_aload hx hb hd (hL.2.2.2 _ _ hl (by simp)) (hk H locs la hP hS hL hs o1 (okl_c (okl_at o1 hl) o2))
  · rename_i hl
    cases h2
    intro H locs la hP hS hL hs o1 o2
    exact lv_aloadN hx hb hd (hL.2.2.2 _ _ hl (by simp)) (hk H locs la hP hS hL hs o1 (okl_c trivial o2))
  · cases h2

theorem g_aload_n (hC : Cx p R s m args c D cA ad A cc nL own Ls xs) {k : Fin 4} (h1 : ck1 own cc pc (.aload_n k, q) = true) (h2 : ex1 (.aload_n k, q) ls st I L = some (ls', st', I', L', P)) (hp : P) (hk : Gl p l e R s m args below meth c cells slots Qw D cA ad A nL Ls xs (pc + q.1) ls' st' I' L') : Gl p l e R s m args below meth c cells slots Qw D cA ad A nL Ls xs pc ls st I L := by
  obtain ⟨hx, hb, hml, hown, hts, hKt, hSh, hAd, hRf, hRl⟩ := hC
  obtain ⟨n, t, a, b, c', e', z, w⟩ := q
  simp only [ck1, Bool.and_eq_true, decide_eq_true_eq] at h1
  obtain ⟨⟨hd, hn⟩, ht⟩ := h1
  have hn : n = 1 := hn
  subst hn
  have hd : decode cc pc = .ok (.aload_n k, 1) := hd
  have h2 : xAld k.val ls st I L = some (ls', st', I', L', P) := h2
  unfold xAld at h2
  split at h2
  · rename_i x hl
    cases h2
    intro H locs la hP hS hL hs o1 o2
    exact lv_aload_n hx hb hd rfl (hL.2.2.2 _ _ hl (by simp)) (hk H locs la hP hS hL hs o1 (okl_c (okl_at o1 hl) o2))
  · rename_i hl
    cases h2
    intro H locs la hP hS hL hs o1 o2
    exact lv_aload_nN hx hb hd rfl (hL.2.2.2 _ _ hl (by simp)) (hk H locs la hP hS hL hs o1 (okl_c trivial o2))
  · cases h2

theorem g_istore (hC : Cx p R s m args c D cA ad A cc nL own Ls xs) {k : Nat} (h1 : ck1 own cc pc (.istore k, q) = true) (h2 : ex1 (.istore k, q) ls st I L = some (ls', st', I', L', P)) (hp : P) (hk : Gl p l e R s m args below meth c cells slots Qw D cA ad A nL Ls xs (pc + q.1) ls' st' I' L') : Gl p l e R s m args below meth c cells slots Qw D cA ad A nL Ls xs pc ls st I L := by
  obtain ⟨hx, hb, hml, hown, hts, hKt, hSh, hAd, hRf, hRl⟩ := hC
  obtain ⟨n, t, a, b, c', e', z, w⟩ := q
  simp only [ck1, Bool.and_eq_true, decide_eq_true_eq] at h1
  obtain ⟨⟨hd, hn⟩, ht⟩ := h1
  have hn : n = 2 := hn
  subst hn
  have hd : decode cc pc = .ok (.istore k, 2) := hd
  have h2 : xIst k ls st I L = some (ls', st', I', L', P) := h2
  rcases st with _ | ⟨v, r⟩
  · cases h2
  rcases v with x | v
  · have h2 : (if k < ls.length then some (s1L ls k (vI x), r, I, L, True) else none) = some (ls', st', I', L', P) := h2
    by_cases hlt : k < ls.length
    · rw [if_pos hlt] at h2
      cases h2
      intro H locs la hP hS hL hs o1 o2
      exact lv_istore hx hb hd (LR_has hL) (by rw [← hL.2.1]; exact hlt) rfl (fun la' h' => hk H locs la' hP hS (LR_st1 (v := vI x) hL.2.1 h') hs (okl_s1 o1 trivial) (okl_t o2))
    · rw [if_neg hlt] at h2
      cases h2
  · cases h2

theorem g_istore_n (hC : Cx p R s m args c D cA ad A cc nL own Ls xs) {k : Fin 4} (h1 : ck1 own cc pc (.istore_n k, q) = true) (h2 : ex1 (.istore_n k, q) ls st I L = some (ls', st', I', L', P)) (hp : P) (hk : Gl p l e R s m args below meth c cells slots Qw D cA ad A nL Ls xs (pc + q.1) ls' st' I' L') : Gl p l e R s m args below meth c cells slots Qw D cA ad A nL Ls xs pc ls st I L := by
  obtain ⟨hx, hb, hml, hown, hts, hKt, hSh, hAd, hRf, hRl⟩ := hC
  obtain ⟨n, t, a, b, c', e', z, w⟩ := q
  simp only [ck1, Bool.and_eq_true, decide_eq_true_eq] at h1
  obtain ⟨⟨hd, hn⟩, ht⟩ := h1
  have hn : n = 1 := hn
  subst hn
  have hd : decode cc pc = .ok (.istore_n k, 1) := hd
  have h2 : xIst k.val ls st I L = some (ls', st', I', L', P) := h2
  rcases st with _ | ⟨v, r⟩
  · cases h2
  rcases v with x | v
  · have h2 : (if k.val < ls.length then some (s1L ls k.val (vI x), r, I, L, True) else none) = some (ls', st', I', L', P) := h2
    by_cases hlt : k.val < ls.length
    · rw [if_pos hlt] at h2
      cases h2
      intro H locs la hP hS hL hs o1 o2
      exact lv_istore_n hx hb hd rfl (LR_has hL) (by rw [← hL.2.1]; exact hlt) rfl (fun la' h' => hk H locs la' hP hS (LR_st1 (v := vI x) hL.2.1 h') hs (okl_s1 o1 trivial) (okl_t o2))
    · rw [if_neg hlt] at h2
      cases h2
  · cases h2

theorem g_lstore (hC : Cx p R s m args c D cA ad A cc nL own Ls xs) {k : Nat} (h1 : ck1 own cc pc (.lstore k, q) = true) (h2 : ex1 (.lstore k, q) ls st I L = some (ls', st', I', L', P)) (hp : P) (hk : Gl p l e R s m args below meth c cells slots Qw D cA ad A nL Ls xs (pc + q.1) ls' st' I' L') : Gl p l e R s m args below meth c cells slots Qw D cA ad A nL Ls xs pc ls st I L := by
  obtain ⟨hx, hb, hml, hown, hts, hKt, hSh, hAd, hRf, hRl⟩ := hC
  obtain ⟨n, t, a, b, c', e', z, w⟩ := q
  simp only [ck1, Bool.and_eq_true, decide_eq_true_eq] at h1
  obtain ⟨⟨hd, hn⟩, ht⟩ := h1
  have hn : n = 2 := hn
  subst hn
  have hd : decode cc pc = .ok (.lstore k, 2) := hd
  have h2 : xLst k ls st I L = some (ls', st', I', L', P) := h2
  rcases st with _ | ⟨v, r⟩
  · cases h2
  rcases v with v | x | v
  · cases h2
  · have h2 : (if k + 1 < ls.length then some (s2L ls k (vL x), r, I, L, True) else none) = some (ls', st', I', L', P) := h2
    by_cases hlt : k + 1 < ls.length
    · rw [if_pos hlt] at h2
      cases h2
      intro H locs la hP hS hL hs o1 o2
      exact lv_lstore hx hb hd (LR_has hL) (by rw [← hL.2.1]; exact hlt) rfl (fun la' h' => hk H locs la' hP hS (LR_st2 (v := vL x) hL.2.1 h') hs (okl_s2 o1 trivial) (okl_t o2))
    · rw [if_neg hlt] at h2
      cases h2
  · cases h2

theorem g_lstore_n (hC : Cx p R s m args c D cA ad A cc nL own Ls xs) {k : Fin 4} (h1 : ck1 own cc pc (.lstore_n k, q) = true) (h2 : ex1 (.lstore_n k, q) ls st I L = some (ls', st', I', L', P)) (hp : P) (hk : Gl p l e R s m args below meth c cells slots Qw D cA ad A nL Ls xs (pc + q.1) ls' st' I' L') : Gl p l e R s m args below meth c cells slots Qw D cA ad A nL Ls xs pc ls st I L := by
  obtain ⟨hx, hb, hml, hown, hts, hKt, hSh, hAd, hRf, hRl⟩ := hC
  obtain ⟨n, t, a, b, c', e', z, w⟩ := q
  simp only [ck1, Bool.and_eq_true, decide_eq_true_eq] at h1
  obtain ⟨⟨hd, hn⟩, ht⟩ := h1
  have hn : n = 1 := hn
  subst hn
  have hd : decode cc pc = .ok (.lstore_n k, 1) := hd
  have h2 : xLst k.val ls st I L = some (ls', st', I', L', P) := h2
  rcases st with _ | ⟨v, r⟩
  · cases h2
  rcases v with v | x | v
  · cases h2
  · have h2 : (if k.val + 1 < ls.length then some (s2L ls k.val (vL x), r, I, L, True) else none) = some (ls', st', I', L', P) := h2
    by_cases hlt : k.val + 1 < ls.length
    · rw [if_pos hlt] at h2
      cases h2
      intro H locs la hP hS hL hs o1 o2
      exact lv_lstore_n hx hb hd rfl (LR_has hL) (by rw [← hL.2.1]; exact hlt) rfl (fun la' h' => hk H locs la' hP hS (LR_st2 (v := vL x) hL.2.1 h') hs (okl_s2 o1 trivial) (okl_t o2))
    · rw [if_neg hlt] at h2
      cases h2
  · cases h2

theorem g_astore (hC : Cx p R s m args c D cA ad A cc nL own Ls xs) {k : Nat} (h1 : ck1 own cc pc (.astore k, q) = true) (h2 : ex1 (.astore k, q) ls st I L = some (ls', st', I', L', P)) (hp : P) (hk : Gl p l e R s m args below meth c cells slots Qw D cA ad A nL Ls xs (pc + q.1) ls' st' I' L') : Gl p l e R s m args below meth c cells slots Qw D cA ad A nL Ls xs pc ls st I L := by
  obtain ⟨hx, hb, hml, hown, hts, hKt, hSh, hAd, hRf, hRl⟩ := hC
  obtain ⟨n, t, a, b, c', e', z, w⟩ := q
  simp only [ck1, Bool.and_eq_true, decide_eq_true_eq] at h1
  obtain ⟨⟨hd, hn⟩, ht⟩ := h1
  have hn : n = 2 := hn
  subst hn
  have hd : decode cc pc = .ok (.astore k, 2) := hd
  have h2 : xAst k ls st I L = some (ls', st', I', L', P) := h2
  rcases st with _ | ⟨v, r⟩
  · cases h2
  rcases v with v | v | x | v
  · cases h2
  · cases h2
  · have h2 : (if k < ls.length then some (s1L ls k (Sum.inr (Sum.inr (Sum.inl x))), r, I, L, True) else none) = some (ls', st', I', L', P) := h2
    by_cases hlt : k < ls.length
    · rw [if_pos hlt] at h2
      cases h2
      intro H locs la hP hS hL hs o1 o2
      exact lv_astore hx hb hd (LR_has hL) (by rw [← hL.2.1]; exact hlt) rfl (fun la' h' => hk H locs la' hP hS (LR_st1 (v := Sum.inr (Sum.inr (Sum.inl x))) hL.2.1 h') hs (okl_s1 o1 (okl_h o2)) (okl_t o2))
    · rw [if_neg hlt] at h2
      cases h2
  · cases v
    · have h2 : (if k < ls.length then some (s1L ls k vN, r, I, L, True) else none) = some (ls', st', I', L', P) := h2
      by_cases hlt : k < ls.length
      · rw [if_pos hlt] at h2
        cases h2
        intro H locs la hP hS hL hs o1 o2
        exact lv_astoreN hx hb hd (LR_has hL) (by rw [← hL.2.1]; exact hlt) rfl (fun la' h' => hk H locs la' hP hS (LR_st1 (v := vN) hL.2.1 h') hs (okl_s1 o1 trivial) (okl_t o2))
      · rw [if_neg hlt] at h2
        cases h2
    · cases h2

theorem g_astore_n (hC : Cx p R s m args c D cA ad A cc nL own Ls xs) {k : Fin 4} (h1 : ck1 own cc pc (.astore_n k, q) = true) (h2 : ex1 (.astore_n k, q) ls st I L = some (ls', st', I', L', P)) (hp : P) (hk : Gl p l e R s m args below meth c cells slots Qw D cA ad A nL Ls xs (pc + q.1) ls' st' I' L') : Gl p l e R s m args below meth c cells slots Qw D cA ad A nL Ls xs pc ls st I L := by
  obtain ⟨hx, hb, hml, hown, hts, hKt, hSh, hAd, hRf, hRl⟩ := hC
  obtain ⟨n, t, a, b, c', e', z, w⟩ := q
  simp only [ck1, Bool.and_eq_true, decide_eq_true_eq] at h1
  obtain ⟨⟨hd, hn⟩, ht⟩ := h1
  have hn : n = 1 := hn
  subst hn
  have hd : decode cc pc = .ok (.astore_n k, 1) := hd
  have h2 : xAst k.val ls st I L = some (ls', st', I', L', P) := h2
  rcases st with _ | ⟨v, r⟩
  · cases h2
  rcases v with v | v | x | v
  · cases h2
  · cases h2
  · have h2 : (if k.val < ls.length then some (s1L ls k.val (Sum.inr (Sum.inr (Sum.inl x))), r, I, L, True) else none) = some (ls', st', I', L', P) := h2
    by_cases hlt : k.val < ls.length
    · rw [if_pos hlt] at h2
      cases h2
      intro H locs la hP hS hL hs o1 o2
      exact lv_astore_n hx hb hd rfl (LR_has hL) (by rw [← hL.2.1]; exact hlt) rfl (fun la' h' => hk H locs la' hP hS (LR_st1 (v := Sum.inr (Sum.inr (Sum.inl x))) hL.2.1 h') hs (okl_s1 o1 (okl_h o2)) (okl_t o2))
    · rw [if_neg hlt] at h2
      cases h2
  · cases v
    · have h2 : (if k.val < ls.length then some (s1L ls k.val vN, r, I, L, True) else none) = some (ls', st', I', L', P) := h2
      by_cases hlt : k.val < ls.length
      · rw [if_pos hlt] at h2
        cases h2
        intro H locs la hP hS hL hs o1 o2
        exact lv_astore_nN hx hb hd rfl (LR_has hL) (by rw [← hL.2.1]; exact hlt) rfl (fun la' h' => hk H locs la' hP hS (LR_st1 (v := vN) hL.2.1 h') hs (okl_s1 o1 trivial) (okl_t o2))
      · rw [if_neg hlt] at h2
        cases h2
    · cases h2

theorem g_iinc (hC : Cx p R s m args c D cA ad A cc nL own Ls xs) {k : Nat} {v : Int} (h1 : ck1 own cc pc (.iinc k v, q) = true) (h2 : ex1 (.iinc k v, q) ls st I L = some (ls', st', I', L', P)) (hp : P) (hk : Gl p l e R s m args below meth c cells slots Qw D cA ad A nL Ls xs (pc + q.1) ls' st' I' L') : Gl p l e R s m args below meth c cells slots Qw D cA ad A nL Ls xs pc ls st I L := by
  obtain ⟨hx, hb, hml, hown, hts, hKt, hSh, hAd, hRf, hRl⟩ := hC
  obtain ⟨n, t, a, b, c', e', z, w⟩ := q
  simp only [ck1, Bool.and_eq_true, decide_eq_true_eq] at h1
  obtain ⟨⟨hd, hn⟩, ht⟩ := h1
  have hn : n = 3 := hn
  subst hn
  have hd : decode cc pc = .ok (.iinc k v, 3) := hd
  have hz := of_decide_eq_true ht
  have h2 : xInc k z ls st I L = some (ls', st', I', L', P) := h2
  unfold xInc at h2
  split at h2
  · rename_i x hl
    cases h2
    intro H locs la hP hS hL hs o1 o2
    obtain ⟨j, hj⟩ := List.getElem?_of_mem (al_mem (ad := ad) (ls := ls) (q := (k, .int x)) |>.mpr ⟨vI x, hl, by simp, rfl⟩)
    exact lv_iinc hx hb hd (LR_has hL) hj (by rw [hz]) (by rw [← hL.2.1]; exact (List.getElem?_eq_some_iff.mp hl).1) rfl (fun la' h' => hk H locs la' hP hS (LR_st1 (v := vI (x + z)) hL.2.1 h') hs (okl_s1 o1 trivial) o2)
  · cases h2

theorem g_iadd (hC : Cx p R s m args c D cA ad A cc nL own Ls xs) (h1 : ck1 own cc pc (.iadd, q) = true) (h2 : ex1 (.iadd, q) ls st I L = some (ls', st', I', L', P)) (hp : P) (hk : Gl p l e R s m args below meth c cells slots Qw D cA ad A nL Ls xs (pc + q.1) ls' st' I' L') : Gl p l e R s m args below meth c cells slots Qw D cA ad A nL Ls xs pc ls st I L := by
  obtain ⟨hx, hb, hml, hown, hts, hKt, hSh, hAd, hRf, hRl⟩ := hC
  obtain ⟨n, t, a, b, c', e', z, w⟩ := q
  simp only [ck1, Bool.and_eq_true, decide_eq_true_eq] at h1
  obtain ⟨⟨hd, hn⟩, ht⟩ := h1
  have hn : n = 1 := hn
  subst hn
  have hd : decode cc pc = .ok (.iadd, 1) := hd
  have h2 : xII (fun x y => x + y) ls st I L = some (ls', st', I', L', P) := h2
  unfold xII at h2
  split at h2
  · rename_i y x r
    cases h2
    intro H locs la hP hS hL hs o1 o2
    exact lv_iadd hx hb hd (hk H locs la hP hS hL hs o1 (okl_c trivial (okl_t (okl_t o2))))
  · cases h2

theorem g_isub (hC : Cx p R s m args c D cA ad A cc nL own Ls xs) (h1 : ck1 own cc pc (.isub, q) = true) (h2 : ex1 (.isub, q) ls st I L = some (ls', st', I', L', P)) (hp : P) (hk : Gl p l e R s m args below meth c cells slots Qw D cA ad A nL Ls xs (pc + q.1) ls' st' I' L') : Gl p l e R s m args below meth c cells slots Qw D cA ad A nL Ls xs pc ls st I L := by
  obtain ⟨hx, hb, hml, hown, hts, hKt, hSh, hAd, hRf, hRl⟩ := hC
  obtain ⟨n, t, a, b, c', e', z, w⟩ := q
  simp only [ck1, Bool.and_eq_true, decide_eq_true_eq] at h1
  obtain ⟨⟨hd, hn⟩, ht⟩ := h1
  have hn : n = 1 := hn
  subst hn
  have hd : decode cc pc = .ok (.isub, 1) := hd
  have h2 : xII (fun x y => x - y) ls st I L = some (ls', st', I', L', P) := h2
  unfold xII at h2
  split at h2
  · rename_i y x r
    cases h2
    intro H locs la hP hS hL hs o1 o2
    exact lv_isub hx hb hd (hk H locs la hP hS hL hs o1 (okl_c trivial (okl_t (okl_t o2))))
  · cases h2

theorem g_imul (hC : Cx p R s m args c D cA ad A cc nL own Ls xs) (h1 : ck1 own cc pc (.imul, q) = true) (h2 : ex1 (.imul, q) ls st I L = some (ls', st', I', L', P)) (hp : P) (hk : Gl p l e R s m args below meth c cells slots Qw D cA ad A nL Ls xs (pc + q.1) ls' st' I' L') : Gl p l e R s m args below meth c cells slots Qw D cA ad A nL Ls xs pc ls st I L := by
  obtain ⟨hx, hb, hml, hown, hts, hKt, hSh, hAd, hRf, hRl⟩ := hC
  obtain ⟨n, t, a, b, c', e', z, w⟩ := q
  simp only [ck1, Bool.and_eq_true, decide_eq_true_eq] at h1
  obtain ⟨⟨hd, hn⟩, ht⟩ := h1
  have hn : n = 1 := hn
  subst hn
  have hd : decode cc pc = .ok (.imul, 1) := hd
  have h2 : xII (fun x y => x * y) ls st I L = some (ls', st', I', L', P) := h2
  unfold xII at h2
  split at h2
  · rename_i y x r
    cases h2
    intro H locs la hP hS hL hs o1 o2
    exact lv_imul hx hb hd (hk H locs la hP hS hL hs o1 (okl_c trivial (okl_t (okl_t o2))))
  · cases h2

theorem g_iand (hC : Cx p R s m args c D cA ad A cc nL own Ls xs) (h1 : ck1 own cc pc (.iand, q) = true) (h2 : ex1 (.iand, q) ls st I L = some (ls', st', I', L', P)) (hp : P) (hk : Gl p l e R s m args below meth c cells slots Qw D cA ad A nL Ls xs (pc + q.1) ls' st' I' L') : Gl p l e R s m args below meth c cells slots Qw D cA ad A nL Ls xs pc ls st I L := by
  obtain ⟨hx, hb, hml, hown, hts, hKt, hSh, hAd, hRf, hRl⟩ := hC
  obtain ⟨n, t, a, b, c', e', z, w⟩ := q
  simp only [ck1, Bool.and_eq_true, decide_eq_true_eq] at h1
  obtain ⟨⟨hd, hn⟩, ht⟩ := h1
  have hn : n = 1 := hn
  subst hn
  have hd : decode cc pc = .ok (.iand, 1) := hd
  have h2 : xII (fun x y => x &&& y) ls st I L = some (ls', st', I', L', P) := h2
  unfold xII at h2
  split at h2
  · rename_i y x r
    cases h2
    intro H locs la hP hS hL hs o1 o2
    exact lv_iand hx hb hd (hk H locs la hP hS hL hs o1 (okl_c trivial (okl_t (okl_t o2))))
  · cases h2

theorem g_ior (hC : Cx p R s m args c D cA ad A cc nL own Ls xs) (h1 : ck1 own cc pc (.ior, q) = true) (h2 : ex1 (.ior, q) ls st I L = some (ls', st', I', L', P)) (hp : P) (hk : Gl p l e R s m args below meth c cells slots Qw D cA ad A nL Ls xs (pc + q.1) ls' st' I' L') : Gl p l e R s m args below meth c cells slots Qw D cA ad A nL Ls xs pc ls st I L := by
  obtain ⟨hx, hb, hml, hown, hts, hKt, hSh, hAd, hRf, hRl⟩ := hC
  obtain ⟨n, t, a, b, c', e', z, w⟩ := q
  simp only [ck1, Bool.and_eq_true, decide_eq_true_eq] at h1
  obtain ⟨⟨hd, hn⟩, ht⟩ := h1
  have hn : n = 1 := hn
  subst hn
  have hd : decode cc pc = .ok (.ior, 1) := hd
  have h2 : xII (fun x y => x ||| y) ls st I L = some (ls', st', I', L', P) := h2
  unfold xII at h2
  split at h2
  · rename_i y x r
    cases h2
    intro H locs la hP hS hL hs o1 o2
    exact lv_ior hx hb hd (hk H locs la hP hS hL hs o1 (okl_c trivial (okl_t (okl_t o2))))
  · cases h2

theorem g_ixor (hC : Cx p R s m args c D cA ad A cc nL own Ls xs) (h1 : ck1 own cc pc (.ixor, q) = true) (h2 : ex1 (.ixor, q) ls st I L = some (ls', st', I', L', P)) (hp : P) (hk : Gl p l e R s m args below meth c cells slots Qw D cA ad A nL Ls xs (pc + q.1) ls' st' I' L') : Gl p l e R s m args below meth c cells slots Qw D cA ad A nL Ls xs pc ls st I L := by
  obtain ⟨hx, hb, hml, hown, hts, hKt, hSh, hAd, hRf, hRl⟩ := hC
  obtain ⟨n, t, a, b, c', e', z, w⟩ := q
  simp only [ck1, Bool.and_eq_true, decide_eq_true_eq] at h1
  obtain ⟨⟨hd, hn⟩, ht⟩ := h1
  have hn : n = 1 := hn
  subst hn
  have hd : decode cc pc = .ok (.ixor, 1) := hd
  have h2 : xII (fun x y => x ^^^ y) ls st I L = some (ls', st', I', L', P) := h2
  unfold xII at h2
  split at h2
  · rename_i y x r
    cases h2
    intro H locs la hP hS hL hs o1 o2
    exact lv_ixor hx hb hd (hk H locs la hP hS hL hs o1 (okl_c trivial (okl_t (okl_t o2))))
  · cases h2

theorem g_ishl (hC : Cx p R s m args c D cA ad A cc nL own Ls xs) (h1 : ck1 own cc pc (.ishl, q) = true) (h2 : ex1 (.ishl, q) ls st I L = some (ls', st', I', L', P)) (hp : P) (hk : Gl p l e R s m args below meth c cells slots Qw D cA ad A nL Ls xs (pc + q.1) ls' st' I' L') : Gl p l e R s m args below meth c cells slots Qw D cA ad A nL Ls xs pc ls st I L := by
  obtain ⟨hx, hb, hml, hown, hts, hKt, hSh, hAd, hRf, hRl⟩ := hC
  obtain ⟨n, t, a, b, c', e', z, w⟩ := q
  simp only [ck1, Bool.and_eq_true, decide_eq_true_eq] at h1
  obtain ⟨⟨hd, hn⟩, ht⟩ := h1
  have hn : n = 1 := hn
  subst hn
  have hd : decode cc pc = .ok (.ishl, 1) := hd
  have h2 : xII (fun x y => x <<< (y &&& 31)) ls st I L = some (ls', st', I', L', P) := h2
  unfold xII at h2
  split at h2
  · rename_i y x r
    cases h2
    intro H locs la hP hS hL hs o1 o2
    exact lv_ishl hx hb hd (hk H locs la hP hS hL hs o1 (okl_c trivial (okl_t (okl_t o2))))
  · cases h2

theorem g_ishr (hC : Cx p R s m args c D cA ad A cc nL own Ls xs) (h1 : ck1 own cc pc (.ishr, q) = true) (h2 : ex1 (.ishr, q) ls st I L = some (ls', st', I', L', P)) (hp : P) (hk : Gl p l e R s m args below meth c cells slots Qw D cA ad A nL Ls xs (pc + q.1) ls' st' I' L') : Gl p l e R s m args below meth c cells slots Qw D cA ad A nL Ls xs pc ls st I L := by
  obtain ⟨hx, hb, hml, hown, hts, hKt, hSh, hAd, hRf, hRl⟩ := hC
  obtain ⟨n, t, a, b, c', e', z, w⟩ := q
  simp only [ck1, Bool.and_eq_true, decide_eq_true_eq] at h1
  obtain ⟨⟨hd, hn⟩, ht⟩ := h1
  have hn : n = 1 := hn
  subst hn
  have hd : decode cc pc = .ok (.ishr, 1) := hd
  have h2 : xII (fun x y => x >>> (y &&& 31)) ls st I L = some (ls', st', I', L', P) := h2
  unfold xII at h2
  split at h2
  · rename_i y x r
    cases h2
    intro H locs la hP hS hL hs o1 o2
    exact lv_ishr hx hb hd (hk H locs la hP hS hL hs o1 (okl_c trivial (okl_t (okl_t o2))))
  · cases h2

theorem g_iushr (hC : Cx p R s m args c D cA ad A cc nL own Ls xs) (h1 : ck1 own cc pc (.iushr, q) = true) (h2 : ex1 (.iushr, q) ls st I L = some (ls', st', I', L', P)) (hp : P) (hk : Gl p l e R s m args below meth c cells slots Qw D cA ad A nL Ls xs (pc + q.1) ls' st' I' L') : Gl p l e R s m args below meth c cells slots Qw D cA ad A nL Ls xs pc ls st I L := by
  obtain ⟨hx, hb, hml, hown, hts, hKt, hSh, hAd, hRf, hRl⟩ := hC
  obtain ⟨n, t, a, b, c', e', z, w⟩ := q
  simp only [ck1, Bool.and_eq_true, decide_eq_true_eq] at h1
  obtain ⟨⟨hd, hn⟩, ht⟩ := h1
  have hn : n = 1 := hn
  subst hn
  have hd : decode cc pc = .ok (.iushr, 1) := hd
  have h2 : xII (fun x y => (x.toUInt32 >>> (y.toUInt32 &&& Int32.toUInt32 31)).toInt32) ls st I L = some (ls', st', I', L', P) := h2
  unfold xII at h2
  split at h2
  · rename_i y x r
    cases h2
    intro H locs la hP hS hL hs o1 o2
    exact lv_iushr hx hb hd rfl (hk H locs la hP hS hL hs o1 (okl_c trivial (okl_t (okl_t o2))))
  · cases h2

theorem g_idiv (hC : Cx p R s m args c D cA ad A cc nL own Ls xs) (h1 : ck1 own cc pc (.idiv, q) = true) (h2 : ex1 (.idiv, q) ls st I L = some (ls', st', I', L', P)) (hp : P) (hk : Gl p l e R s m args below meth c cells slots Qw D cA ad A nL Ls xs (pc + q.1) ls' st' I' L') : Gl p l e R s m args below meth c cells slots Qw D cA ad A nL Ls xs pc ls st I L := by
  obtain ⟨hx, hb, hml, hown, hts, hKt, hSh, hAd, hRf, hRl⟩ := hC
  obtain ⟨n, t, a, b, c', e', z, w⟩ := q
  simp only [ck1, Bool.and_eq_true, decide_eq_true_eq] at h1
  obtain ⟨⟨hd, hn⟩, ht⟩ := h1
  have hn : n = 1 := hn
  subst hn
  have hd : decode cc pc = .ok (.idiv, 1) := hd
  have h2 : xIId (fun x y => x / y) ls st I L = some (ls', st', I', L', P) := h2
  unfold xIId at h2
  split at h2
  · rename_i y x r
    cases h2
    intro H locs la hP hS hL hs o1 o2
    exact lv_idiv hx hb hd hp (hk H locs la hP hS hL hs o1 (okl_c trivial (okl_t (okl_t o2))))
  · cases h2

theorem g_irem (hC : Cx p R s m args c D cA ad A cc nL own Ls xs) (h1 : ck1 own cc pc (.irem, q) = true) (h2 : ex1 (.irem, q) ls st I L = some (ls', st', I', L', P)) (hp : P) (hk : Gl p l e R s m args below meth c cells slots Qw D cA ad A nL Ls xs (pc + q.1) ls' st' I' L') : Gl p l e R s m args below meth c cells slots Qw D cA ad A nL Ls xs pc ls st I L := by
  obtain ⟨hx, hb, hml, hown, hts, hKt, hSh, hAd, hRf, hRl⟩ := hC
  obtain ⟨n, t, a, b, c', e', z, w⟩ := q
  simp only [ck1, Bool.and_eq_true, decide_eq_true_eq] at h1
  obtain ⟨⟨hd, hn⟩, ht⟩ := h1
  have hn : n = 1 := hn
  subst hn
  have hd : decode cc pc = .ok (.irem, 1) := hd
  have h2 : xIId (fun x y => x % y) ls st I L = some (ls', st', I', L', P) := h2
  unfold xIId at h2
  split at h2
  · rename_i y x r
    cases h2
    intro H locs la hP hS hL hs o1 o2
    refine lv_irem hx hb hd hp ?_
    rw [irem_eq_mod]
    exact (hk H locs la hP hS hL hs o1 (okl_c trivial (okl_t (okl_t o2))))
  · cases h2

theorem g_ladd (hC : Cx p R s m args c D cA ad A cc nL own Ls xs) (h1 : ck1 own cc pc (.ladd, q) = true) (h2 : ex1 (.ladd, q) ls st I L = some (ls', st', I', L', P)) (hp : P) (hk : Gl p l e R s m args below meth c cells slots Qw D cA ad A nL Ls xs (pc + q.1) ls' st' I' L') : Gl p l e R s m args below meth c cells slots Qw D cA ad A nL Ls xs pc ls st I L := by
  obtain ⟨hx, hb, hml, hown, hts, hKt, hSh, hAd, hRf, hRl⟩ := hC
  obtain ⟨n, t, a, b, c', e', z, w⟩ := q
  simp only [ck1, Bool.and_eq_true, decide_eq_true_eq] at h1
  obtain ⟨⟨hd, hn⟩, ht⟩ := h1
  have hn : n = 1 := hn
  subst hn
  have hd : decode cc pc = .ok (.ladd, 1) := hd
  have h2 : xLL (fun x y => x + y) ls st I L = some (ls', st', I', L', P) := h2
  unfold xLL at h2
  split at h2
  · rename_i y x r
    cases h2
    intro H locs la hP hS hL hs o1 o2
    exact lv_ladd hx hb hd (hk H locs la hP hS hL hs o1 (okl_c trivial (okl_t (okl_t o2))))
  · cases h2

theorem g_lsub (hC : Cx p R s m args c D cA ad A cc nL own Ls xs) (h1 : ck1 own cc pc (.lsub, q) = true) (h2 : ex1 (.lsub, q) ls st I L = some (ls', st', I', L', P)) (hp : P) (hk : Gl p l e R s m args below meth c cells slots Qw D cA ad A nL Ls xs (pc + q.1) ls' st' I' L') : Gl p l e R s m args below meth c cells slots Qw D cA ad A nL Ls xs pc ls st I L := by
  obtain ⟨hx, hb, hml, hown, hts, hKt, hSh, hAd, hRf, hRl⟩ := hC
  obtain ⟨n, t, a, b, c', e', z, w⟩ := q
  simp only [ck1, Bool.and_eq_true, decide_eq_true_eq] at h1
  obtain ⟨⟨hd, hn⟩, ht⟩ := h1
  have hn : n = 1 := hn
  subst hn
  have hd : decode cc pc = .ok (.lsub, 1) := hd
  have h2 : xLL (fun x y => x - y) ls st I L = some (ls', st', I', L', P) := h2
  unfold xLL at h2
  split at h2
  · rename_i y x r
    cases h2
    intro H locs la hP hS hL hs o1 o2
    exact lv_lsub hx hb hd (hk H locs la hP hS hL hs o1 (okl_c trivial (okl_t (okl_t o2))))
  · cases h2

theorem g_lmul (hC : Cx p R s m args c D cA ad A cc nL own Ls xs) (h1 : ck1 own cc pc (.lmul, q) = true) (h2 : ex1 (.lmul, q) ls st I L = some (ls', st', I', L', P)) (hp : P) (hk : Gl p l e R s m args below meth c cells slots Qw D cA ad A nL Ls xs (pc + q.1) ls' st' I' L') : Gl p l e R s m args below meth c cells slots Qw D cA ad A nL Ls xs pc ls st I L := by
  obtain ⟨hx, hb, hml, hown, hts, hKt, hSh, hAd, hRf, hRl⟩ := hC
  obtain ⟨n, t, a, b, c', e', z, w⟩ := q
  simp only [ck1, Bool.and_eq_true, decide_eq_true_eq] at h1
  obtain ⟨⟨hd, hn⟩, ht⟩ := h1
  have hn : n = 1 := hn
  subst hn
  have hd : decode cc pc = .ok (.lmul, 1) := hd
  have h2 : xLL (fun x y => x * y) ls st I L = some (ls', st', I', L', P) := h2
  unfold xLL at h2
  split at h2
  · rename_i y x r
    cases h2
    intro H locs la hP hS hL hs o1 o2
    exact lv_lmul hx hb hd (hk H locs la hP hS hL hs o1 (okl_c trivial (okl_t (okl_t o2))))
  · cases h2

theorem g_land (hC : Cx p R s m args c D cA ad A cc nL own Ls xs) (h1 : ck1 own cc pc (.land, q) = true) (h2 : ex1 (.land, q) ls st I L = some (ls', st', I', L', P)) (hp : P) (hk : Gl p l e R s m args below meth c cells slots Qw D cA ad A nL Ls xs (pc + q.1) ls' st' I' L') : Gl p l e R s m args below meth c cells slots Qw D cA ad A nL Ls xs pc ls st I L := by
  obtain ⟨hx, hb, hml, hown, hts, hKt, hSh, hAd, hRf, hRl⟩ := hC
  obtain ⟨n, t, a, b, c', e', z, w⟩ := q
  simp only [ck1, Bool.and_eq_true, decide_eq_true_eq] at h1
  obtain ⟨⟨hd, hn⟩, ht⟩ := h1
  have hn : n = 1 := hn
  subst hn
  have hd : decode cc pc = .ok (.land, 1) := hd
  have h2 : xLL (fun x y => x &&& y) ls st I L = some (ls', st', I', L', P) := h2
  unfold xLL at h2
  split at h2
  · rename_i y x r
    cases h2
    intro H locs la hP hS hL hs o1 o2
    exact lv_land hx hb hd (hk H locs la hP hS hL hs o1 (okl_c trivial (okl_t (okl_t o2))))
  · cases h2

theorem g_lor (hC : Cx p R s m args c D cA ad A cc nL own Ls xs) (h1 : ck1 own cc pc (.lor, q) = true) (h2 : ex1 (.lor, q) ls st I L = some (ls', st', I', L', P)) (hp : P) (hk : Gl p l e R s m args below meth c cells slots Qw D cA ad A nL Ls xs (pc + q.1) ls' st' I' L') : Gl p l e R s m args below meth c cells slots Qw D cA ad A nL Ls xs pc ls st I L := by
  obtain ⟨hx, hb, hml, hown, hts, hKt, hSh, hAd, hRf, hRl⟩ := hC
  obtain ⟨n, t, a, b, c', e', z, w⟩ := q
  simp only [ck1, Bool.and_eq_true, decide_eq_true_eq] at h1
  obtain ⟨⟨hd, hn⟩, ht⟩ := h1
  have hn : n = 1 := hn
  subst hn
  have hd : decode cc pc = .ok (.lor, 1) := hd
  have h2 : xLL (fun x y => x ||| y) ls st I L = some (ls', st', I', L', P) := h2
  unfold xLL at h2
  split at h2
  · rename_i y x r
    cases h2
    intro H locs la hP hS hL hs o1 o2
    exact lv_lor hx hb hd (hk H locs la hP hS hL hs o1 (okl_c trivial (okl_t (okl_t o2))))
  · cases h2

theorem g_ldiv (hC : Cx p R s m args c D cA ad A cc nL own Ls xs) (h1 : ck1 own cc pc (.ldiv, q) = true) (h2 : ex1 (.ldiv, q) ls st I L = some (ls', st', I', L', P)) (hp : P) (hk : Gl p l e R s m args below meth c cells slots Qw D cA ad A nL Ls xs (pc + q.1) ls' st' I' L') : Gl p l e R s m args below meth c cells slots Qw D cA ad A nL Ls xs pc ls st I L := by
  obtain ⟨hx, hb, hml, hown, hts, hKt, hSh, hAd, hRf, hRl⟩ := hC
  obtain ⟨n, t, a, b, c', e', z, w⟩ := q
  simp only [ck1, Bool.and_eq_true, decide_eq_true_eq] at h1
  obtain ⟨⟨hd, hn⟩, ht⟩ := h1
  have hn : n = 1 := hn
  subst hn
  have hd : decode cc pc = .ok (.ldiv, 1) := hd
  have h2 : xLLd (fun x y => x / y) ls st I L = some (ls', st', I', L', P) := h2
  unfold xLLd at h2
  split at h2
  · rename_i y x r
    cases h2
    intro H locs la hP hS hL hs o1 o2
    exact lv_ldiv hx hb hd hp (hk H locs la hP hS hL hs o1 (okl_c trivial (okl_t (okl_t o2))))
  · cases h2

theorem g_lrem (hC : Cx p R s m args c D cA ad A cc nL own Ls xs) (h1 : ck1 own cc pc (.lrem, q) = true) (h2 : ex1 (.lrem, q) ls st I L = some (ls', st', I', L', P)) (hp : P) (hk : Gl p l e R s m args below meth c cells slots Qw D cA ad A nL Ls xs (pc + q.1) ls' st' I' L') : Gl p l e R s m args below meth c cells slots Qw D cA ad A nL Ls xs pc ls st I L := by
  obtain ⟨hx, hb, hml, hown, hts, hKt, hSh, hAd, hRf, hRl⟩ := hC
  obtain ⟨n, t, a, b, c', e', z, w⟩ := q
  simp only [ck1, Bool.and_eq_true, decide_eq_true_eq] at h1
  obtain ⟨⟨hd, hn⟩, ht⟩ := h1
  have hn : n = 1 := hn
  subst hn
  have hd : decode cc pc = .ok (.lrem, 1) := hd
  have h2 : xLLd (fun x y => x - x / y * y) ls st I L = some (ls', st', I', L', P) := h2
  unfold xLLd at h2
  split at h2
  · rename_i y x r
    cases h2
    intro H locs la hP hS hL hs o1 o2
    exact lv_lrem hx hb hd hp (hk H locs la hP hS hL hs o1 (okl_c trivial (okl_t (okl_t o2))))
  · cases h2

theorem g_lshl (hC : Cx p R s m args c D cA ad A cc nL own Ls xs) (h1 : ck1 own cc pc (.lshl, q) = true) (h2 : ex1 (.lshl, q) ls st I L = some (ls', st', I', L', P)) (hp : P) (hk : Gl p l e R s m args below meth c cells slots Qw D cA ad A nL Ls xs (pc + q.1) ls' st' I' L') : Gl p l e R s m args below meth c cells slots Qw D cA ad A nL Ls xs pc ls st I L := by
  obtain ⟨hx, hb, hml, hown, hts, hKt, hSh, hAd, hRf, hRl⟩ := hC
  obtain ⟨n, t, a, b, c', e', z, w⟩ := q
  simp only [ck1, Bool.and_eq_true, decide_eq_true_eq] at h1
  obtain ⟨⟨hd, hn⟩, ht⟩ := h1
  have hn : n = 1 := hn
  subst hn
  have hd : decode cc pc = .ok (.lshl, 1) := hd
  have h2 : xLI (fun x y => x <<< (y.toInt64 &&& 63)) ls st I L = some (ls', st', I', L', P) := h2
  unfold xLI at h2
  split at h2
  · rename_i y x r
    cases h2
    intro H locs la hP hS hL hs o1 o2
    exact lv_lshl hx hb hd rfl (hk H locs la hP hS hL hs o1 (okl_c trivial (okl_t (okl_t o2))))
  · cases h2

theorem g_lshr (hC : Cx p R s m args c D cA ad A cc nL own Ls xs) (h1 : ck1 own cc pc (.lshr, q) = true) (h2 : ex1 (.lshr, q) ls st I L = some (ls', st', I', L', P)) (hp : P) (hk : Gl p l e R s m args below meth c cells slots Qw D cA ad A nL Ls xs (pc + q.1) ls' st' I' L') : Gl p l e R s m args below meth c cells slots Qw D cA ad A nL Ls xs pc ls st I L := by
  obtain ⟨hx, hb, hml, hown, hts, hKt, hSh, hAd, hRf, hRl⟩ := hC
  obtain ⟨n, t, a, b, c', e', z, w⟩ := q
  simp only [ck1, Bool.and_eq_true, decide_eq_true_eq] at h1
  obtain ⟨⟨hd, hn⟩, ht⟩ := h1
  have hn : n = 1 := hn
  subst hn
  have hd : decode cc pc = .ok (.lshr, 1) := hd
  have h2 : xLI (fun x y => x >>> (y.toInt64 &&& 63)) ls st I L = some (ls', st', I', L', P) := h2
  unfold xLI at h2
  split at h2
  · rename_i y x r
    cases h2
    intro H locs la hP hS hL hs o1 o2
    exact lv_lshr hx hb hd rfl (hk H locs la hP hS hL hs o1 (okl_c trivial (okl_t (okl_t o2))))
  · cases h2

theorem g_i2l (hC : Cx p R s m args c D cA ad A cc nL own Ls xs) (h1 : ck1 own cc pc (.i2l, q) = true) (h2 : ex1 (.i2l, q) ls st I L = some (ls', st', I', L', P)) (hp : P) (hk : Gl p l e R s m args below meth c cells slots Qw D cA ad A nL Ls xs (pc + q.1) ls' st' I' L') : Gl p l e R s m args below meth c cells slots Qw D cA ad A nL Ls xs pc ls st I L := by
  obtain ⟨hx, hb, hml, hown, hts, hKt, hSh, hAd, hRf, hRl⟩ := hC
  obtain ⟨n, t, a, b, c', e', z, w⟩ := q
  simp only [ck1, Bool.and_eq_true, decide_eq_true_eq] at h1
  obtain ⟨⟨hd, hn⟩, ht⟩ := h1
  have hn : n = 1 := hn
  subst hn
  have hd : decode cc pc = .ok (.i2l, 1) := hd
  have h2 : xI (fun x => vL x.toInt64) ls st I L = some (ls', st', I', L', P) := h2
  unfold xI at h2
  split at h2
  · rename_i x r
    cases h2
    intro H locs la hP hS hL hs o1 o2
    exact lv_i2l hx hb hd rfl (hk H locs la hP hS hL hs o1 (okl_c trivial (okl_t o2)))
  · cases h2

theorem g_i2b (hC : Cx p R s m args c D cA ad A cc nL own Ls xs) (h1 : ck1 own cc pc (.i2b, q) = true) (h2 : ex1 (.i2b, q) ls st I L = some (ls', st', I', L', P)) (hp : P) (hk : Gl p l e R s m args below meth c cells slots Qw D cA ad A nL Ls xs (pc + q.1) ls' st' I' L') : Gl p l e R s m args below meth c cells slots Qw D cA ad A nL Ls xs pc ls st I L := by
  obtain ⟨hx, hb, hml, hown, hts, hKt, hSh, hAd, hRf, hRl⟩ := hC
  obtain ⟨n, t, a, b, c', e', z, w⟩ := q
  simp only [ck1, Bool.and_eq_true, decide_eq_true_eq] at h1
  obtain ⟨⟨hd, hn⟩, ht⟩ := h1
  have hn : n = 1 := hn
  subst hn
  have hd : decode cc pc = .ok (.i2b, 1) := hd
  have h2 : xI (fun x => vI x.toInt8.toInt32) ls st I L = some (ls', st', I', L', P) := h2
  unfold xI at h2
  split at h2
  · rename_i x r
    cases h2
    intro H locs la hP hS hL hs o1 o2
    exact lv_i2b hx hb hd rfl (hk H locs la hP hS hL hs o1 (okl_c trivial (okl_t o2)))
  · cases h2

theorem g_i2s (hC : Cx p R s m args c D cA ad A cc nL own Ls xs) (h1 : ck1 own cc pc (.i2s, q) = true) (h2 : ex1 (.i2s, q) ls st I L = some (ls', st', I', L', P)) (hp : P) (hk : Gl p l e R s m args below meth c cells slots Qw D cA ad A nL Ls xs (pc + q.1) ls' st' I' L') : Gl p l e R s m args below meth c cells slots Qw D cA ad A nL Ls xs pc ls st I L := by
  obtain ⟨hx, hb, hml, hown, hts, hKt, hSh, hAd, hRf, hRl⟩ := hC
  obtain ⟨n, t, a, b, c', e', z, w⟩ := q
  simp only [ck1, Bool.and_eq_true, decide_eq_true_eq] at h1
  obtain ⟨⟨hd, hn⟩, ht⟩ := h1
  have hn : n = 1 := hn
  subst hn
  have hd : decode cc pc = .ok (.i2s, 1) := hd
  have h2 : xI (fun x => vI x.toInt16.toInt32) ls st I L = some (ls', st', I', L', P) := h2
  unfold xI at h2
  split at h2
  · rename_i x r
    cases h2
    intro H locs la hP hS hL hs o1 o2
    exact lv_i2s hx hb hd rfl (hk H locs la hP hS hL hs o1 (okl_c trivial (okl_t o2)))
  · cases h2

theorem g_i2c (hC : Cx p R s m args c D cA ad A cc nL own Ls xs) (h1 : ck1 own cc pc (.i2c, q) = true) (h2 : ex1 (.i2c, q) ls st I L = some (ls', st', I', L', P)) (hp : P) (hk : Gl p l e R s m args below meth c cells slots Qw D cA ad A nL Ls xs (pc + q.1) ls' st' I' L') : Gl p l e R s m args below meth c cells slots Qw D cA ad A nL Ls xs pc ls st I L := by
  obtain ⟨hx, hb, hml, hown, hts, hKt, hSh, hAd, hRf, hRl⟩ := hC
  obtain ⟨n, t, a, b, c', e', z, w⟩ := q
  simp only [ck1, Bool.and_eq_true, decide_eq_true_eq] at h1
  obtain ⟨⟨hd, hn⟩, ht⟩ := h1
  have hn : n = 1 := hn
  subst hn
  have hd : decode cc pc = .ok (.i2c, 1) := hd
  have h2 : xI (fun x => vI (x.toUInt32 % 65536).toInt32) ls st I L = some (ls', st', I', L', P) := h2
  unfold xI at h2
  split at h2
  · rename_i x r
    cases h2
    intro H locs la hP hS hL hs o1 o2
    exact lv_i2c hx hb hd rfl (hk H locs la hP hS hL hs o1 (okl_c trivial (okl_t o2)))
  · cases h2

theorem g_l2i (hC : Cx p R s m args c D cA ad A cc nL own Ls xs) (h1 : ck1 own cc pc (.l2i, q) = true) (h2 : ex1 (.l2i, q) ls st I L = some (ls', st', I', L', P)) (hp : P) (hk : Gl p l e R s m args below meth c cells slots Qw D cA ad A nL Ls xs (pc + q.1) ls' st' I' L') : Gl p l e R s m args below meth c cells slots Qw D cA ad A nL Ls xs pc ls st I L := by
  obtain ⟨hx, hb, hml, hown, hts, hKt, hSh, hAd, hRf, hRl⟩ := hC
  obtain ⟨n, t, a, b, c', e', z, w⟩ := q
  simp only [ck1, Bool.and_eq_true, decide_eq_true_eq] at h1
  obtain ⟨⟨hd, hn⟩, ht⟩ := h1
  have hn : n = 1 := hn
  subst hn
  have hd : decode cc pc = .ok (.l2i, 1) := hd
  have h2 : xL2i ls st I L = some (ls', st', I', L', P) := h2
  unfold xL2i at h2
  split at h2
  · rename_i x r
    cases h2
    intro H locs la hP hS hL hs o1 o2
    exact lv_l2i hx hb hd rfl (hk H locs la hP hS hL hs o1 (okl_c trivial (okl_t o2)))
  · cases h2

theorem g_lcmp (hC : Cx p R s m args c D cA ad A cc nL own Ls xs) (h1 : ck1 own cc pc (.lcmp, q) = true) (h2 : ex1 (.lcmp, q) ls st I L = some (ls', st', I', L', P)) (hp : P) (hk : Gl p l e R s m args below meth c cells slots Qw D cA ad A nL Ls xs (pc + q.1) ls' st' I' L') : Gl p l e R s m args below meth c cells slots Qw D cA ad A nL Ls xs pc ls st I L := by
  obtain ⟨hx, hb, hml, hown, hts, hKt, hSh, hAd, hRf, hRl⟩ := hC
  obtain ⟨n, t, a, b, c', e', z, w⟩ := q
  simp only [ck1, Bool.and_eq_true, decide_eq_true_eq] at h1
  obtain ⟨⟨hd, hn⟩, ht⟩ := h1
  have hn : n = 1 := hn
  subst hn
  have hd : decode cc pc = .ok (.lcmp, 1) := hd
  have h2 : xLcmp ls st I L = some (ls', st', I', L', P) := h2
  unfold xLcmp at h2
  split at h2
  · rename_i y x r
    cases h2
    intro H locs la hP hS hL hs o1 o2
    exact W.lcmp hx hb hd (hk H locs la hP hS hL hs o1 (okl_c trivial (okl_t (okl_t o2))))
  · cases h2

theorem g_pop (hC : Cx p R s m args c D cA ad A cc nL own Ls xs) (h1 : ck1 own cc pc (.pop, q) = true) (h2 : ex1 (.pop, q) ls st I L = some (ls', st', I', L', P)) (hp : P) (hk : Gl p l e R s m args below meth c cells slots Qw D cA ad A nL Ls xs (pc + q.1) ls' st' I' L') : Gl p l e R s m args below meth c cells slots Qw D cA ad A nL Ls xs pc ls st I L := by
  obtain ⟨hx, hb, hml, hown, hts, hKt, hSh, hAd, hRf, hRl⟩ := hC
  obtain ⟨n, t, a, b, c', e', z, w⟩ := q
  simp only [ck1, Bool.and_eq_true, decide_eq_true_eq] at h1
  obtain ⟨⟨hd, hn⟩, ht⟩ := h1
  have hn : n = 1 := hn
  subst hn
  have hd : decode cc pc = .ok (.pop, 1) := hd
  have h2 : xPop ls st I L = some (ls', st', I', L', P) := h2
  unfold xPop at h2
  split at h2
  · rename_i x r
    cases h2
    intro H locs la hP hS hL hs o1 o2
    exact lv_pop hx hb hd rfl (hk H locs la hP hS hL hs o1 (okl_t o2))
  · cases h2

theorem g_dup (hC : Cx p R s m args c D cA ad A cc nL own Ls xs) (h1 : ck1 own cc pc (.dup, q) = true) (h2 : ex1 (.dup, q) ls st I L = some (ls', st', I', L', P)) (hp : P) (hk : Gl p l e R s m args below meth c cells slots Qw D cA ad A nL Ls xs (pc + q.1) ls' st' I' L') : Gl p l e R s m args below meth c cells slots Qw D cA ad A nL Ls xs pc ls st I L := by
  obtain ⟨hx, hb, hml, hown, hts, hKt, hSh, hAd, hRf, hRl⟩ := hC
  obtain ⟨n, t, a, b, c', e', z, w⟩ := q
  simp only [ck1, Bool.and_eq_true, decide_eq_true_eq] at h1
  obtain ⟨⟨hd, hn⟩, ht⟩ := h1
  have hn : n = 1 := hn
  subst hn
  have hd : decode cc pc = .ok (.dup, 1) := hd
  have h2 : xDup ls st I L = some (ls', st', I', L', P) := h2
  rcases st with _ | ⟨v, r⟩
  · cases h2
  have key : mcat v = 1 → some (ls, v :: v :: r, I, L, True) = some (ls', st', I', L', P) → Gl p l e R s m args below meth c cells slots Qw D cA ad A nL Ls xs pc ls (v :: r) I L := by
    intro hc h2
    cases h2
    intro H locs la hP hS hL hs o1 o2
    exact lv_dup (va := upv ad v) hx hb hd (by rw [upv_cat]; exact hc) (hk H locs la hP hS hL hs o1 (okl_c (okl_h o2) o2))
  rcases v with x | x | x | x
  · exact key rfl h2
  · cases h2
  · exact key rfl h2
  · exact key rfl h2

theorem g_dup2 (hC : Cx p R s m args c D cA ad A cc nL own Ls xs) (h1 : ck1 own cc pc (.dup2, q) = true) (h2 : ex1 (.dup2, q) ls st I L = some (ls', st', I', L', P)) (hp : P) (hk : Gl p l e R s m args below meth c cells slots Qw D cA ad A nL Ls xs (pc + q.1) ls' st' I' L') : Gl p l e R s m args below meth c cells slots Qw D cA ad A nL Ls xs pc ls st I L := by
  obtain ⟨hx, hb, hml, hown, hts, hKt, hSh, hAd, hRf, hRl⟩ := hC
  obtain ⟨n, t, a, b, c', e', z, w⟩ := q
  simp only [ck1, Bool.and_eq_true, decide_eq_true_eq] at h1
  obtain ⟨⟨hd, hn⟩, ht⟩ := h1
  have hn : n = 1 := hn
  subst hn
  have hd : decode cc pc = .ok (.dup2, 1) := hd
  have h2 : xDup2 ls st I L = some (ls', st', I', L', P) := h2
  unfold xDup2 at h2
  split at h2
  · rename_i x r' r
    cases h2
    intro H locs la hP hS hL hs o1 o2
    exact lv_dup2_11 hx hb hd rfl rfl (hk H locs la hP hS hL hs o1 (okl_c trivial (okl_c (okl_h (okl_t o2)) o2)))
  · cases h2

end Inst
