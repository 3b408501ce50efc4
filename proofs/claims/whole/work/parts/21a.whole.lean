/-! THE WALK OF THE LAW: both are made, then the loop -/
theorem lw_d0 : decode code 0 = .ok (.new 7, 3) := by decide +kernel
theorem lw_d3 : decode code 3 = .ok (.dup, 1) := by decide +kernel
theorem lw_d4 : decode code 4 = .ok (.invokespecial 9, 3) := by decide +kernel
theorem lw_d7 : decode code 7 = .ok (.astore_n 1, 1) := by decide +kernel
theorem lw_d8 : decode code 8 = .ok (.new 10, 3) := by decide +kernel
theorem lw_d11 : decode code 11 = .ok (.dup, 1) := by decide +kernel
theorem lw_d12 : decode code 12 = .ok (.invokespecial 12, 3) := by decide +kernel
theorem lw_d15 : decode code 15 = .ok (.astore_n 2, 1) := by decide +kernel
theorem lw_d16 : decode code 16 = .ok (.iconst 0, 1) := by decide +kernel
theorem lw_d17 : decode code 17 = .ok (.istore_n 3, 1) := by decide +kernel
theorem nw_0 : Cond.classLink (cn 12) 7 (cn 0) ∈ TW := NW_ok (q := (12, 7, 0)) (by decide)
theorem nw_11 : Cond.classLink (cn 12) 10 (cn 11) ∈ TW := NW_ok (q := (12, 10, 11)) (by decide)
theorem nk_0 : okK (12, 9, 0, 0, 0) := NK_ok (by decide)
theorem nk_11 : okK (12, 12, 11, 0, 0) := NK_ok (by decide)
theorem made : ∃ a b : List NC, nD 4 0 [vR 0 0] [Sum.inl (0, dF 0)] = some a ∧ a.length = 152 ∧ nD 4 11 [vR 0 152] (a ++ [Sum.inl (11, dF 11)]) = some b ∧ chB b = true := by
  have h := mk_ck
  split at h
  · rename_i a ha
    obtain ⟨h1, h2⟩ := (Bool.and_eq_true _ _).mp h
    split at h2
    · rename_i b hb
      exact ⟨a, b, ha, of_decide_eq_true h1, hb, h2⟩
    · cases h2
  · cases h
section Wst
variable {p : Program} {l : Launch} {e : Env} {R : Room} {s : State} {m : MethodId} {args : Array Value} {below : List Frame} {meth : Method} {c : Code} {Qw : State → Prop}
variable {D : va_G} {cA : Nat → ClassId} {A : Nat → Prop} {cc : ByteArray} {nL own K N : Nat} {pc : Nat}
theorem n_newW (hC : Cn p R s m args meth c D cA A cc nL own K N) {x o : Nat} (hd : decode cc pc = .ok (.new x, 3)) (hfl : Cond.classLink (cn own) x (cn o) ∈ TW) (ho : o < 12) {g : Nat → Nat} {H : Heap} {locs : List Loc} {la : Array Slot} {w : List NC} {k n : Nat} {rest : List Value} (hkk : k + 1 ≤ K) (hnn : n + nF (64 * o) ≤ N)
    (a3 : va_P D CL (nrW cA g w) H) (a4 : va_D A (nrW cA g w)) (a5 : va_S A s.heap H locs) (a7 : okW w)
    (kk : ∀ (g' : Nat → Nat) (H1 : Heap), (∀ i : Nat, i < w.length → g' i = g i) → va_P D CL (nrW cA g' (w ++ [Sum.inl (o, dF o)])) H1 → va_D A (nrW cA g' (w ++ [Sum.inl (o, dF o)])) → va_S A s.heap H1 locs → okW (w ++ [Sum.inl (o, dF o)]) → W p l e R s m args below meth c H1 locs (k + 1) (n + nF (64 * o)) Qw (F0 m (pc + 3) la (.ref (g' w.length) :: rest))) : W p l e R s m args below meth c H locs k n Qw (F0 m pc la rest) := by
  obtain ⟨b1, b2, b3, b4, b5, b6⟩ := rows_of ho
  obtain ⟨i1, i2, i3, i4, i5⟩ := CI_ok ho
  rw [i5.2.2.1] at i2
  obtain ⟨d1, d2, d3, d4, d5, d6, d7, d8, d9, dK, dN, d10⟩ := hC
  refine va_new (D := D) (ci := o) (fs := (dF o).map (upv (fun _ _ => 0))) (own := cn own) (C := cn o) (T := Tf o) (N := nF (64 * o)) d1 d2 d5 b2 (tyF o) b3 d4 (d5 _ hfl) (d5 _ i4) (d5 _ i2) d6.1 a3 a4 a5 d7 b1 b6 (Nat.le_trans hkk dK) (Nat.le_trans hnn dN) hd ?_
  intro qa H1 hP1 hD1 hS1
  have eW : nrW cA (gU g w.length qa) (w ++ [Sum.inl (o, dF o)]) = nrW cA g w ++ [(qa, .inr (o, (dF o).map (upv (fun _ _ => 0))))] := by
    rw [nrW_app a7]
    show _ ++ [(qa, Sum.inr (o, (dF o).map (upv (adF (gU g w.length qa)))))] = _
    rw [dF_up]
  have h3 := kk (gU g w.length qa) H1 gU_lt (by rw [eW]; exact hP1) (by rw [eW]; exact hD1) hS1 (okW_app a7 (fun v hv => by rcases dF_no hv with rfl | rfl | rfl <;> rfl))
  rw [gU_n] at h3
  exact h3
end Wst
theorem whole_start {p : Program} {e : Env} {s : State} {m : MethodId} {below : List Frame} {meth : Method} {c : Code} (l : Launch) {b L : Nat} {xs : Nat → Int32} (hL : L ≤ 3072) (C0 : lw_At p s m meth c b L xs) : W p l e room_1 s m #[Value.ref b] below meth c s.heap [] 0 0 (lw_Z below #[Value.ref b] s) (entryFrame m ([Value.ref b] : List Value).toArray 4) := by
  obtain ⟨hx, hb, hr, hml, hown, hts, hX, hbl, hlocks, hgv⟩ := id C0
  obtain ⟨D, cA, hK⟩ := st_K hts
  have hKN := st_KN hts hK
  obtain ⟨sK, sV, hV1, hV2⟩ := st_S hts hgv
  obtain ⟨fm, hZ1, hZ2⟩ := st_Z hts hgv
  have htw := tw_all hts
  obtain ⟨w1, w2, n1, n2, n3, n4⟩ := made
  have hown : s.vm.findClass (cn 12) = some m.cls := hown
  have hC : Cn p room_1 s m #[Value.ref b] meth c D cA (fun q => s.heap.size ≤ q) code 4 12 2000 700000 :=
    ⟨hx, hb, hml, hown, htw, hKN, fun _ h => h, by show 1 ≤ 2048; omega, by show 200 ≤ 84000; omega, by show 2000 ≤ 600000; omega, by show 700000 ≤ 7302249; omega, fun h => absurd h (by decide)⟩
  have hR : 4 + 1 ≤ room_1.frames ∧ 40 * (4 + 1) + 200 ≤ room_1.locals := ⟨by show 5 ≤ 2048; omega, by show 40 * 5 + 200 ≤ 84000; omega⟩
  have hMt := nMet (l := l) (D := D) (cA := cA) (A := fun q => s.heap.size ≤ q) 4
  have hl := lv_entry ([.ref b]) (n := 4) (Nat.le_of_ble_eq_true rfl)
  rw [lg_entry_eq]
  generalize (lg_sl ([.ref b]) ++ List.replicate (4 - (lg_sl ([.ref b])).length) Slot.unset).toArray = la at hl ⊢
  have hl : lv_has la 4 [(0, .ref b)] := hl
  refine n_newW (g := fun _ => 0) (w := []) hC lw_d0 nw_0 (by decide) (by omega) (by decide) (fun k q h => by simp [nrW] at h) ⟨fun i j p q h => by simp [nrW] at h, fun k q h => by simp [nrW] at h⟩ va_S.rf (fun c hc => absurd hc List.not_mem_nil) ?_
  intro g1 H1 _ hP1 hD1 hS1 hok1
  refine lv_dup hx hb lw_d3 rfl ?_
  refine n_callW (a := []) (y := (0, 0)) (w := [Sum.inl (0, dF 0)]) (w' := w1) (rest := [.ref (g1 0)]) hC hR nk_0 (by decide) lw_d4 rfl (show (1 : Nat) ≤ 8 by omega) (by decide) (by decide) hl.1 (hMt 0 [vR 0 0] [Sum.inl (0, dF 0)] w1 n1 (by decide) (by decide) g1) hP1 hD1 hS1 hok1 ?_
  intro g2 H2 locs2 b1 b2 hok2 hP2 hD2 hS2'
  have e0 : g2 0 = g1 0 := b1 0 (by decide)
  rw [← e0]
  refine lv_astore_n hx hb lw_d7 rfl hl (by omega) rfl (fun la1 hl1 => ?_)
  have hl1 : lv_has la1 4 [(1, .ref (g2 0)), (0, .ref b)] := hl1
  refine n_newW (g := g2) (w := w1) hC lw_d8 nw_11 (by decide) (by decide) (by decide) hP2 hD2 hS2' hok2 ?_
  intro g3 H3 b3 hP3 hD3 hS3 hok3
  rw [n2]
  refine lv_dup hx hb lw_d11 rfl ?_
  refine n_callW (a := []) (y := (0, 152)) (w := w1 ++ [Sum.inl (11, dF 11)]) (w' := w2) (rest := [.ref (g3 152)]) hC hR nk_11 (by decide) lw_d12 rfl (show (1 : Nat) ≤ 8 by omega) (by decide) (by decide) hl1.1 (hMt 11 [vR 0 152] (w1 ++ [Sum.inl (11, dF 11)]) w2 n3 (by decide) (by decide) g3) hP3 hD3 hS3 hok3 ?_
  intro g4 H4 locs4 b4 b5 hok4 hP4 hD4 hS4
  have hlen : (w1 ++ [Sum.inl (11, dF 11)]).length = 153 := by rw [List.length_append, n2]; rfl
  have e1 : g4 152 = g3 152 := b4 152 (by rw [hlen]; omega)
  have e2 : g4 0 = g2 0 := (b4 0 (by rw [hlen]; omega)).trans (b3 0 (by rw [n2]; omega))
  rw [← e1]
  refine lv_astore_n hx hb lw_d15 rfl hl1 (by omega) rfl (fun la2 hl2 => ?_)
  have hl2 : lv_has la2 4 [(2, .ref (g4 152)), (1, .ref (g2 0)), (0, .ref b)] := hl2
  refine lv_iconst (v := 0) hx hb lw_d16 rfl ?_
  refine lv_istore_n hx hb lw_d17 rfl hl2 (by omega) rfl (fun la3 hl3 => ?_)
  have hl3 : lv_has la3 4 [(3, .int 0), (2, .ref (g4 152)), (1, .ref (g2 0)), (0, .ref b)] := hl3
  have hAd : Ad (adW sK sV b fm g4) (fun q => s.heap.size ≤ q) := Ad_0 n4 hD4
  have hP5 : va_P D CL (wsI (adW sK sV b fm g4) cA (I0 xs L) L0) H4 := P_0 n4 hP4
  have a0 : adW sK sV b fm g4 4000 = sK := by funext i; exact if_pos rfl
  have a1 : adW sK sV b fm g4 4001 = sV := by
    funext i
    show (if 4001 = 4000 then _ else if 4001 = 4001 then _ else _) = _
    rw [if_neg (by decide), if_pos rfl]
  have a2 : adW sK sV b fm g4 4002 0 = b := by
    show (if 4002 = 4000 then _ else if 4002 = 4001 then _ else if 4002 = 4002 then _ else _) = _
    rw [if_neg (by decide), if_neg (by decide), if_pos rfl]
  have a4 : adW sK sV b fm g4 4004 0 = fm := by
    show (if 4004 = 4000 then _ else if 4004 = 4001 then _ else if 4004 = 4002 then _ else if 4004 = 4004 then _ else _) = _
    rw [if_neg (by decide), if_neg (by decide), if_neg (by decide), if_pos rfl]
  have hKt : Kt D cA (adW sK sV b fm g4) s := by
    refine ⟨hK, fun w hw => ?_, fun q hq => by rw [a0]; exact hV2 q hq⟩
    have h1 := hts w (List.mem_filter.mp hw).1
    have hn := (List.mem_filter.mp hw).2
    cases w with
    | fieldLinkNest a i b n d hh => exact va_Nw.of rfl h1
    | _ => exact absurd hn (by simp [isNest])
  have hSh : Sh (adW sK sV b fm g4) (fun q => s.heap.size ≤ q) L xs s s.heap := by
    refine ⟨by rw [a0, a1]; exact hV1, hZ1, by rw [a2]; exact hX, by rw [a2]; exact hbl, by rw [a2]; exact Nat.not_le.mpr hbl, by rw [a4]; exact hZ2⟩
  have hCx : Cx p room_1 s m #[Value.ref b] c D cA (adW sK sV b fm g4) (fun q => s.heap.size ≤ q) code 4 12 L xs :=
    ⟨hx, hb, hml, hown, htw, hKt, hSh, hAd, by show 1 ≤ 2048; omega, by have := nfw; show _ ≤ 84000; omega⟩
  have c0 : adW sK sV b fm g4 0 0 = g4 0 := by rw [adW_lt (by omega)]; rfl
  have c7 : adW sK sV b fm g4 704 0 = g4 152 := by rw [adW_lt (by omega)]; rfl
  have hLR : LR (adW sK sV b fm g4) 4 la3 [vR 4002 0, vR 0 0, vR 704 0, vI 0] := by
    refine ⟨hl3.1, rfl, hl3.2.1, fun k v hk _ => ?_⟩
    match k, hk with
    | 0, hk =>
      cases hk
      show la3[0]? = some (.val (.ref (adW sK sV b fm g4 4002 0)))
      rw [a2]
      exact lv_at hl3 3 rfl
    | 1, hk =>
      cases hk
      show la3[1]? = some (.val (.ref (adW sK sV b fm g4 0 0)))
      rw [c0, e2]
      exact lv_at hl3 2 rfl
    | 2, hk =>
      cases hk
      show la3[2]? = some (.val (.ref (adW sK sV b fm g4 704 0)))
      rw [c7]
      exact lv_at hl3 1 rfl
    | 3, hk =>
      cases hk
      exact lv_at hl3 0 rfl
    | k + 4, hk => simp at hk
  refine gl_law hCx hr hlocks (d := 85) ⟨by omega, by omega⟩ ⟨by decide, by decide⟩ (law_ok hL) H4 locs4 la3 hP5 hS4 hLR ⟨?_, rfl, by omega⟩ ?_ (fun v hv => absurd hv List.not_mem_nil)
  · funext j
    rfl
  · intro v hv
    simp only [List.mem_cons, List.not_mem_nil, or_false] at hv
    rcases hv with rfl | rfl | rfl | rfl
    · show 0 < cnt 4002
      decide
    · show 0 < cnt 0
      decide
    · show 0 < cnt 704
      decide
    · trivial
set_option maxHeartbeats 4000000 in
theorem lw_walk (l : Launch) (b : Addr) (xs : List Int32) : MetFree l x (headSpec (Jvm.Cond.code x code maxLocals ret :: tables_1) room_1) (lw_P b xs) (fun _ _ _ _ _ => True) lw_Q := by
  refine MetFree.of_bodyS (code := code) (maxLocals := maxLocals) (ret := ret) (by decide) ?_ ?_
  · intro args s m h hn
    obtain ⟨meth, c, h1, h2, h3, h4, h5, h6, -, -⟩ := Cond.code_spec hn (atoms_spec (ws := Jvm.Cond.code x code maxLocals ret :: tables_1) h _ List.mem_cons_self)
    exact ⟨meth, c, h1, h2, h3, h4, h5, h6⟩
  · intro p e s m args below meth c s₁ B hml0 hP _
    obtain ⟨rfl, hx, hbd, hgv⟩ := hP
    obtain ⟨scr, harrAt, hlist, hof, hsmall⟩ := hx
    obtain ⟨hcb, hkn, -, -⟩ := State.arrayAt?_spec harrAt
    have hown : s.vm.findClass R_law = some m.cls := findClass_of_methodNamed B.named
    have hts0 : ∀ c ∈ (Jvm.Cond.code x code maxLocals ret :: tables_1), c.before #[Value.ref b] s = true := atoms_spec (ws := Jvm.Cond.code x code maxLocals ret :: tables_1) B.pre
    have hts : ∀ w ∈ lw_tbl, w.before #[Value.ref b] s = true := k2_hts_sels lw_privs (fun w hw => hts0 w (List.mem_cons_of_mem _ hw)) lw_privs_ok
    have hml : c.maxLocals = 4 := B.maxLocals_eq (hts0 _ List.mem_cons_self)
    have X₀ : Stand p l e room_1 s m #[Value.ref b] below meth c s₁ [] 0 0 := Stand.of_body B
    have hh0 : s₁.heap = s.heap := by rw [B.state]; rfl
    have hsz : scr.slots.size = xs.length := by rw [← Array.length_toList, hlist, List.length_map]
    have hval : ∀ j : Nat, j < xs.length → scr.slots[j]? = some (.int (xs.getD j 0)) := fun j hj => by
      rw [← Array.getElem?_toList, hlist]
      simp [hj]
    have hbl : b < s.heap.size := (Array.getElem?_eq_some_iff.mp hcb).1
    have hX : va_X b xs.length (fun j => xs.getD j 0) s s.heap := ⟨scr, hcb, hof, hkn, hsz, hval⟩
    have K : W p l e room_1 s m #[Value.ref b] below meth c s₁.heap [] 0 0 (lw_Z below #[Value.ref b] s) (entryFrame m ([Value.ref b] : List Value).toArray 4) := by
      rw [hh0]
      exact whole_start l hbd ⟨B.exec, B.bytes, B.returns, hml, hown, hts, hX, hbl, B.notSynchronized, hgv⟩
    obtain ⟨t, a1, o, b1, b2, b3⟩ := K s₁ rfl X₀
    exact ⟨t, o, a1, b1, b2, b3⟩
theorem lw_pre_spec {args : Array Value} {s : State} (h : (Jvm.Cond.and given_1 narrow_1).before args s = true) (hr : rest_1_c.before args s = true) : ∃ (b : Addr) (xs : List Int32), lw_P b xs args s := by
  have hs := flat_of_before _ h
  have hq := flat_of_before _ hr
  have hc : (Cond.count 1).before args s = true := hs _ (by decide +kernel)
  have harr : (Cond.arrayOf (.arg 0) .int).before args s = true := hs _ (by decide +kernel)
  have hle : (Cond.le (.length (.arg 0)) (.int 3072)).before args s = true := hs _ (by decide +kernel)
  have hlen : (Cond.isInt (.length (.arg 0))).before args s = true := hq _ (by decide +kernel)
  have hall : (Cond.all (.arg 0) (.isInt (.elem (.arg 0) (.index 0)))).before args s = true := hq _ (by decide +kernel)
  obtain ⟨b, xs, hb, hx⟩ := State.ints_of_pre rfl harr hlen hall
  have hsm : xs.length < 2 ^ 31 := hx.choose_spec.2.2.2
  have hev : (Term.length (.arg 0)).eval args s none [] s = some (.int xs.length.toInt32) := hx.length_eval hb
  have hv := Cond.le_ints hev (show (Term.int 3072).eval args s none [] s = some (.int 3072) from rfl)
  have hd : xs.length.toInt32 ≤ 3072 := by
    simpa [Cond.before, Cond.holds, hv] using hle
  have hN : xs.length ≤ 3072 := (Int32.ofNat_le_ofNat hsm (by decide)).mp (show Int32.ofNat xs.length ≤ Int32.ofNat 3072 from hd)
  exact ⟨b, xs, Cond.one_arg hc (show args[0]? = some (.ref b) from hb), hx, hN, h⟩
theorem lw_comes (l : Launch) : Comes l x (Jvm.Cond.code x code maxLocals ret :: tables_1) room_1 (fun tb e args s => Calls_1 tb e args s ∧ rest_1 tb e args s ∧ Pre_1 tb e args s)
    (fun _ _ args s o t => lw_Q args s o t) := by
  intro p e ha hc hk s m args below hf hfit hheap happ hpre
  obtain ⟨b, xs, hP⟩ := lw_pre_spec hpre.2.2 hpre.2.1
  obtain ⟨k, o, h1, h2, h3, hQ⟩ := lw_walk l b xs p e ha hc hk s m args below hf ((Spec.applies_iff_loose hf).mp happ).1 hP trivial
  exact ⟨k, o, h1, h2, h3, hQ⟩
theorem lw_frame {s t : State} {o : Outcome} {args : Array Value} (h : Framed s o t [] 600000 7302249) :
    Framed s o t (fieldLocs frame_1_writes args s ++ arrayLocs frame_1_arrays args s ++ staticLocs frame_1_statics s) 600000 7302249 := h
theorem lw_limb (L : Cond) (hL : ∀ (args : Array Value) (s t : State), L.after args s (.returned (some (.int 1))) t = true) :
    ArmFor flags0 classFile x code maxLocals ret World_1 tables_1 room_1 Calls_1 rest_1 Pre_1
      (fun tb e a s o t => postC L tb e a s o t ∧ Framed s o t (fieldLocs frame_1_writes a s ++ arrayLocs frame_1_arrays a s ++ staticLocs frame_1_statics s) 600000 7302249) := by
  intro l _ _ _ p e ha hc hk s m args below hf hfit hheap happ hpre
  obtain ⟨k, o, h1, h2, h3, rfl, hF⟩ := lw_comes l p e ha hc hk s m args below hf hfit hheap happ hpre
  exact ⟨k, _, h1, h2, h3, hL args s _, lw_frame hF⟩
theorem i_vc : Claimed_1_1 ∧ Claimed_1_2 := ⟨lw_limb limb_1_1 (fun args s t => by simp [limb_1_1, Cond.after, Cond.holds, Cond.value]), lw_limb limb_1_2 (fun args s t => Cond.after_iff.mpr (by
  first | (rw [show limb_1_2 = Cond.eq .result (.int 1) from rfl, Cond.eq_ints (x := 1) (y := 1) rfl rfl]; simp; done) | (simp [limb_1_2, Cond.value, Term.eval]; done)))⟩
