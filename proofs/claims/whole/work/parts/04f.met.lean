/-! a method's contract out of the small machine -/
def Pcc (D : va_G) (cA : Nat → ClassId) (ad : Nat → Nat → Nat) (A : Nat → Prop) (Ls : Nat) (xs : Nat → Int32) (a : List MV) (I : MI) (L : ML) : Array Value → State → Prop := fun v U => v = (a.map (upv ad)).toArray ∧ va_P D CL (wsI ad cA I L) U.heap ∧ Kt D cA ad U ∧ Sh ad A Ls xs U U.heap ∧ Sc Ls xs I
def Qcc (D : va_G) (cA : Nat → ClassId) (ad : Nat → Nat → Nat) (A : Nat → Prop) (Ls : Nat) (xs : Nat → Int32) (Q : QT) : Array Value → State → Outcome → State → Prop := fun _ st oc t => (∃ (r : Option MV) (I' : MI) (L' : ML), Q r I' L' ∧ oc = .returned (r.map (upv ad)) ∧ (∀ v, r = some v → okv v) ∧ Sc Ls xs I' ∧ va_P D CL (wsI ad cA I' L') t.heap) ∧ va_F A st t
def wsM (y : MTy) : List Cond := Cond.code y.2.2.2.2 y.2.1 y.2.2.1 y.2.2.2.1 :: TW
def rmD (d : Nat) : Room := { frames := d, cells := 0, slots := 0, locals := 40 * d + 200 }
def okY (y : MTy) : Prop := Cond.code y.2.2.2.2 y.2.1 y.2.2.1 y.2.2.2.1 ∈ TW ∧ y.2.2.2.2.cls = cn y.1 ∧ plainFor y.2.2.2.2 = true ∧ y.2.2.1 ≤ 20
theorem TW_good {w : Cond} (h : w ∈ TW) : (w.onTables && w.keeps) = true ∨ ∃ ty, w = .arrayClass ty := good_of_word (List.mem_filter.mp h).2
theorem wsM_good (y : MTy) (h : okY y) : GoodIn TW (wsM y) := fun w hw => by
  rcases List.mem_cons.mp hw with rfl | hw
  · exact ⟨h.1, TW_good h.1⟩
  · exact ⟨hw, TW_good hw⟩
theorem Kt_warm {D : va_G} {cA : Nat → ClassId} {ad : Nat → Nat → Nat} {s U : State} (hW : s.WarmedH U.vm) (h : Kt D cA ad s) : Kt D cA ad U := by
  refine ⟨va_K.moved hW.alike h.1, fun w hw => ?_, fun q hq => vk_R.warm hW (h.2.2 q hq)⟩
  have hn := (List.mem_filter.mp hw).2
  have h1 := h.2.1 w hw
  cases w with
  | fieldLinkNest a i b n d hh => exact va_Nw.warmF hW h1
  | _ => exact absurd hn (by simp [isNest])
theorem Kt_same {D : va_G} {cA : Nat → ClassId} {ad : Nat → Nat → Nat} {u U : State} (hv : U.vm = u.vm) (h : Kt D cA ad u) : Kt D cA ad U := by
  refine ⟨va_K.moved (by rw [hv]; exact Vm.Alike.refl _) h.1, fun w hw => ?_, fun q hq => vk_R.same hv (h.2.2 q hq)⟩
  have hn := (List.mem_filter.mp hw).2
  have h1 := h.2.1 w hw
  cases w with
  | fieldLinkNest a i b n d hh => exact va_Nw.same rfl hv.symm h1
  | _ => exact absurd hn (by simp [isNest])
theorem Sh_moved {ad : Nat → Nat → Nat} {A : Nat → Prop} {Ls : Nat} {xs : Nat → Int32} {u U : State} {H : Heap} (hvm : u.vm.Alike U.vm) (h : Sh ad A Ls xs u H) : Sh ad A Ls xs U H :=
  ⟨h.1.moved hvm, h.2.1.moved hvm, va_X.moved hvm h.2.2.1, h.2.2.2.1, h.2.2.2.2.1, h.2.2.2.2.2.elim (fun q => Or.inl (va_Z.moved hvm q)) (fun q => Or.inr (va_Z.moved hvm q))⟩
theorem Sh_kept {ad : Nat → Nat → Nat} {A : Nat → Prop} {Ls : Nat} {xs : Nat → Int32} {U : State} {H H1 : Heap} (h : Sh ad A Ls xs U H) (hq : ∀ a : Nat, a < H.size → ¬ A a → H1[a]? = H[a]?) (hz : H.size ≤ H1.size) : Sh ad A Ls xs U H1 := by
  refine ⟨h.1.kept hq, h.2.1.kept hq, ?_, Nat.lt_of_lt_of_le h.2.2.2.1 hz, h.2.2.2.2.1, h.2.2.2.2.2.elim (fun q => Or.inl (q.kept hq)) (fun q => Or.inr (q.kept hq))⟩
  obtain ⟨scr, h1, h2⟩ := h.2.2.1
  exact ⟨scr, by rw [hq _ h.2.2.2.1 h.2.2.2.2.1]; exact h1, h2⟩
theorem enL_sl {ad : Nat → Nat → Nat} : ∀ (a : List MV), (lg_sl (a.map (upv ad))).length = (enL a).length ∧ ∀ (k : Nat) (v : MV), (enL a)[k]? = some v → v ≠ vD → (lg_sl (a.map (upv ad)))[k]? = some (.val (upv ad v)) := by
  intro a
  induction a with
  | nil => exact ⟨rfl, fun k v h => by simp [enL] at h⟩
  | cons u r ih =>
    have one : mcat u = 1 → enL (u :: r) = u :: enL r → (lg_sl ((u :: r).map (upv ad))).length = (enL (u :: r)).length ∧ ∀ (k : Nat) (v : MV), (enL (u :: r))[k]? = some v → v ≠ vD → (lg_sl ((u :: r).map (upv ad)))[k]? = some (.val (upv ad v)) := by
      intro hc he
      have e : lg_sl ((u :: r).map (upv ad)) = .val (upv ad u) :: lg_sl (r.map (upv ad)) := by
        have hc' : ¬ (upv ad u).category = 2 := by rw [upv_cat, hc]; decide
        simp [lg_sl, hc']
      rw [e, he]
      refine ⟨by simp [ih.1], fun k v hk hv => ?_⟩
      cases k with
      | zero => simp at hk; subst hk; rfl
      | succ k => simpa using ih.2 k v (by simpa using hk) hv
    rcases u with x | x | x | x
    · exact one rfl rfl
    · have e : lg_sl ((vL x :: r).map (upv ad)) = .val (.long x) :: .second :: lg_sl (r.map (upv ad)) := by simp [lg_sl, upv, Value.category]
      have he : enL (vL x :: r) = vL x :: vD :: enL r := rfl
      rw [e, he]
      refine ⟨by simp [ih.1], fun k v hk hv => ?_⟩
      match k, hk with
      | 0, hk => simp at hk; subst hk; rfl
      | 1, hk => simp at hk; exact absurd hk.symm hv
      | k + 2, hk => simpa using ih.2 k v (by simpa using hk) hv
    · exact one rfl rfl
    · exact one rfl rfl
theorem okl_ent {n : Nat} {a : List MV} (h : okl a) : okl (ent n a) := by
  have h1 : ∀ a : List MV, okl a → okl (enL a) := by
    intro a
    induction a with
    | nil => intro _ v hv; simp [enL] at hv
    | cons u r ih =>
      intro h
      have hr := ih (okl_t h)
      rcases u with x | x | x | x
      · exact okl_c (okl_h h) hr
      · exact okl_c trivial (okl_c trivial hr)
      · exact okl_c (okl_h h) hr
      · exact okl_c (okl_h h) hr
  intro v hv
  rcases List.mem_append.mp hv with q | q
  · exact h1 a h v q
  · rw [List.eq_of_mem_replicate q]; trivial
theorem LR_ent {ad : Nat → Nat → Nat} {n : Nat} {a : List MV} (h : (enL a).length ≤ n) : LR ad n ((lg_sl (a.map (upv ad)) ++ List.replicate (n - (lg_sl (a.map (upv ad))).length) Slot.unset).toArray) (ent n a) := by
  obtain ⟨h1, h2⟩ := enL_sl (ad := ad) a
  have hl := lv_entry (a.map (upv ad)) (n := n) (by rw [h1]; exact h)
  refine ⟨hl.1, by simp [ent]; omega, hl.2.1, fun k v hk hv => ?_⟩
  unfold ent at hk
  by_cases hlt : k < (enL a).length
  · rw [List.getElem?_append_left hlt] at hk
    have := h2 k v hk hv
    simp only [List.getElem?_toArray]
    rw [List.getElem?_append_left (by rw [h1]; exact hlt)]
    exact this
  · rw [List.getElem?_append_right (by omega)] at hk
    exact absurd (List.eq_of_mem_replicate (List.mem_of_getElem? hk)) hv
section Run
variable {p : Program} {l : Launch} {e : Env} {R : Room} {s : State} {m : MethodId} {args : Array Value} {below : List Frame} {meth : Method} {c : Code} {cells slots : Nat} {Qw : State → Prop}
variable {D : va_G} {cA : Nat → ClassId} {ad : Nat → Nat → Nat} {A : Nat → Prop} {cc : ByteArray} {nL own Ls : Nat} {xs : Nat → Int32}
variable {pc : Nat} {ls st : List MV} {I : MI} {L : ML}
theorem run_on {H : Heap} {locs : List Loc} {la : Array Slot} {st0 rest : List Value} {Q' : QT} {a : Array Value} (hr : va_Run p l e R s m args below meth c H locs cells slots 0 0 (F0 m pc la st0) rest (Qcc D cA ad A Ls xs Q' a) A) (hS : va_S A s.heap H locs)
    (kk : ∀ (r : Option MV) (I' : MI) (L' : ML) (H1 : Heap) (locs1 : List Loc), Q' r I' L' → (∀ v, r = some v → okv v) → Sc Ls xs I' → va_P D CL (wsI ad cA I' L') H1 → va_S A s.heap H1 locs1 → W p l e R s m args below meth c H1 locs1 cells slots Qw (F0 m (pc + 3) la ((r.map (upv ad)).toList ++ rest))) : W p l e R s m args below meth c H locs cells slots Qw (F0 m pc la st0) := by
  intro T hT X
  obtain ⟨v, st₀, t, T', L1, h0, X', hL, e1, e2, ⟨⟨r, I', L', hq, hv, hok, hsc, hP1⟩, hz, hk⟩, stp⟩ := hr T hT X
  cases hv
  rw [h0] at hz hk
  obtain ⟨t2, a1, b1⟩ := kk r I' L' T'.heap (locs ++ L1) hq hok hsc (by rw [e1]; exact hP1)
    ⟨Nat.le_trans hS.1 (by rw [e1]; exact hz), fun q h1 h2 => by rw [e1, hk q (Nat.lt_of_lt_of_le h1 hS.1) h2]; exact hS.2.1 q h1 h2, fun q hq => by
      rcases List.mem_append.mp hq with h | h
      · exact hS.2.2 q h
      · exact hL q h⟩ T' rfl X'
  exact ⟨t2, stp t2 a1, b1⟩
theorem pcc_blind {a : List MV} : FrameBlind (Pcc D cA ad A Ls xs a I L) := fun v U g mk q => ⟨q.1, q.2.1, Kt_same (u := U) rfl q.2.2.1, Sh_moved (u := U) (Vm.Alike.refl U.vm) q.2.2.2.1, q.2.2.2.2⟩
theorem pcc_at {a : List MV} {H : Heap} {locs : List Loc} (hKt : Kt D cA ad s) (hSh : Sh ad A Ls xs s s.heap) (hP : va_P D CL (wsI ad cA I L) H) (hS : va_S A s.heap H locs) (hs : Sc Ls xs I) (U : State) (hU : U.heap = H) (hW : s.WarmedH U.vm) : Pcc D cA ad A Ls xs a I L (a.map (upv ad)).toArray U :=
  ⟨rfl, by rw [hU]; exact hP, Kt_warm hW hKt, by rw [hU]; exact Sh_moved hW.alike (Sh_kept hSh hS.2.1 hS.1), hs⟩
theorem map_cat (r : List MV) : ((r.map (upv ad)).map fun v => v.category).sum = wsum r := by
  unfold wsum
  rw [List.map_map]
  congr 1
  apply List.map_congr_left
  intro v _
  exact upv_cat ad v
theorem gl_callv (hC : Cx p R s m args c D cA ad A cc nL own Ls xs) {d : Nat} (hR : d + 1 ≤ R.frames ∧ 40 * (d + 1) + 200 ≤ R.locals) (hcs : cells ≤ R.cells ∧ slots ≤ R.slots) {idx n : Nat} {y : MTy} {v : MV} {a rest : List MV} {Q' : QT} (hct : okCT own idx false n y) (hd : decode cc pc = .ok (.invokevirtual idx, 3)) (hn : a.length = n) (hrc : rcvOk y v) (hw : wsum rest ≤ 8)
    (hM : okl (v :: a) → Met l y.2.2.2.2 (wsM y) (rmD d) (Pcc D cA ad A Ls xs (v :: a) I L) (Qcc D cA ad A Ls xs Q') 0 0 A)
    (hk : ∀ r I' L', Q' r I' L' → Gl p l e R s m args below meth c cells slots Qw D cA ad A nL Ls xs (pc + 3) ls (r.toList ++ rest) I' L') : Gl p l e R s m args below meth c cells slots Qw D cA ad A nL Ls xs pc ls (a.reverse ++ v :: rest) I L := by
  intro H locs la hP hS hL hs o1 o2
  obtain ⟨hx, hb, hml, hown, hts, hKt, hSh, hAd, hRf, hRl⟩ := hC
  obtain ⟨c1, c2, c3, c4, c5, c6, c7, c8, c9, c10⟩ := hct
  obtain ⟨c41, c42⟩ := c4.2 rfl
  have hoa : okl (v :: a) := by
    intro u hu
    rcases List.mem_cons.mp hu with q | q
    · rw [q]; exact o2 v (List.mem_append_right _ List.mem_cons_self)
    · exact o2 u (List.mem_append_left _ (List.mem_reverse.mpr q))
  have hor : okl rest := fun u hu => o2 u (List.mem_append_right _ (List.mem_cons_of_mem _ hu))
  have hyo : okY y := ⟨c2, c5, c8, c10⟩
  have hv : ∃ r i, v = vR r i := by
    rcases v with v | v | ⟨r, i⟩ | v
    · exact False.elim hrc
    · exact False.elim hrc
    · exact ⟨r, i, rfl⟩
    · exact False.elim hrc
  obtain ⟨r, i, rfl⟩ := hv
  have hi : i < cnt r := okl_h hoa
  have hcell : ∃ cellB : Cell, H[ad r i]? = some cellB ∧ cellB.vm.isStatics = false ∧ s.vm.findClass y.2.2.2.2.cls = some cellB.cls := by
    rcases hrc with ⟨e1, e2, e3⟩ | ⟨rfl, e2⟩
    · obtain ⟨q0, hq, he⟩ := wsI_at (ad := ad) (cA := cA) (I := I) (L := L) e2 hi
      rw [cel_obj e3] at he
      obtain ⟨cell, g1, g2, g3⟩ := va_recv hKt.1 hP (CL_at (show r / 64 < 12 by omega)) he
      exact ⟨cell, g1, g2, by rw [← e1]; exact g3⟩
    · have hi' : i < sLen.length := by rw [cnt_s.1] at hi; exact hi
      obtain ⟨cell, g1, g2, g3⟩ := vk_recv hSh.1 hi' hS
      exact ⟨cell, g1, g2, by rw [e2]; exact g3⟩
  have hT : GoodIn TW (wsV (cn own) idx y.2.2.2.2.cls y.2.2.2.2 (wsM y)) := by
    intro w hw'
    unfold wsV at hw'
    rcases List.mem_append.mp hw' with q | q
    · simp only [List.mem_cons, List.not_mem_nil, or_false] at q
      rcases q with rfl | rfl | rfl | rfl
      · exact ⟨c1, TW_good c1⟩
      · exact ⟨c41, TW_good c41⟩
      · exact ⟨c42, TW_good c42⟩
      · exact ⟨c3, TW_good c3⟩
    · exact wsM_good y hyo w q
  have hrun := va_runV (p := p) (l := l) (e := e) (R := R) (s := s) (m := m) (args := args) (below := below) (meth := meth) (c := c) (H := H) (locs := locs) (cells := cells) (slots := slots) (g := F0 m pc la ((a.reverse ++ vR r i :: rest).map (upv ad))) (b := ad r i) (As := a.map (upv ad)) (rest := rest.map (upv ad)) (C := y.2.2.2.2.cls) (n := n) (bytes := y.2.1) (maxL := y.2.2.1) (ret := y.2.2.2.1) (index := idx) (Ts := TW) (own := cn own)
    ⟨hx, hb, hml, hown, hts⟩ (hM hoa) (cwV n hts hT rfl rfl rfl ⟨rfl, c6, c7, c9⟩ ⟨by show d + 1 ≤ R.frames; exact hR.1, by show 8 + (y.2.2.1 + 11) + (40 * d + 200) ≤ R.locals; omega⟩)
    ⟨pcc_blind, hcell, fun U hU hW => pcc_at hKt hSh hP hS hs U hU hW⟩ rfl (by simpa using hn) hL.1 (by simp [upv]) (lv_room (by rw [map_cat]; exact hw)) hd ⟨hcs.1, hcs.2⟩
  refine run_on hrun hS ?_
  intro r' I' L' H1 locs1 hq hok hsc hP1 hS1
  have e1 : ((r'.map (upv ad)).toList ++ rest.map (upv ad)) = (r'.toList ++ rest).map (upv ad) := by cases r' <;> simp
  rw [e1]
  refine hk r' I' L' hq H1 locs1 la hP1 hS1 hL hsc o1 ?_
  intro u hu
  rcases List.mem_append.mp hu with q | q
  · exact hok u (Option.mem_toList.mp q)
  · exact hor u q
theorem gl_calls (hC : Cx p R s m args c D cA ad A cc nL own Ls xs) {d : Nat} (hR : d + 1 ≤ R.frames ∧ 40 * (d + 1) + 200 ≤ R.locals) (hcs : cells ≤ R.cells ∧ slots ≤ R.slots) {idx n : Nat} {y : MTy} {a rest : List MV} {Q' : QT} (hct : okCT own idx true n y) (hd : decode cc pc = .ok (.invokestatic idx, 3)) (hn : a.length = n) (hw : wsum rest ≤ 8)
    (hM : okl a → Met l y.2.2.2.2 (wsM y) (rmD d) (Pcc D cA ad A Ls xs a I L) (Qcc D cA ad A Ls xs Q') 0 0 A)
    (hk : ∀ r I' L', Q' r I' L' → Gl p l e R s m args below meth c cells slots Qw D cA ad A nL Ls xs (pc + 3) ls (r.toList ++ rest) I' L') : Gl p l e R s m args below meth c cells slots Qw D cA ad A nL Ls xs pc ls (a.reverse ++ rest) I L := by
  intro H locs la hP hS hL hs o1 o2
  obtain ⟨hx, hb, hml, hown, hts, hKt, hSh, hAd, hRf, hRl⟩ := hC
  obtain ⟨c1, c2, c3, c4, c5, c6, c7, c8, c9, c10⟩ := hct
  have c41 := c4.1 rfl
  have hoa : okl a := fun u hu => o2 u (List.mem_append_left _ (List.mem_reverse.mpr hu))
  have hor : okl rest := fun u hu => o2 u (List.mem_append_right _ hu)
  have hyo : okY y := ⟨c2, c5, c8, c10⟩
  have hcb := callB_of (R := R) (rm := rmD d) (own := cn own) (index := idx) n hts (wsM_good y hyo) rfl rfl rfl (hts _ c3) (hts _ c1) ⟨c6, c7, c9⟩ ⟨by show d + 1 ≤ R.frames; exact hR.1, by show 8 + (y.2.2.1 + 11) + (40 * d + 200) ≤ R.locals; omega⟩
  have hrun := va_runS (p := p) (l := l) (e := e) (R := R) (s := s) (m := m) (args := args) (below := below) (meth := meth) (c := c) (H := H) (locs := locs) (cells := cells) (slots := slots) (g := F0 m pc la ((a.reverse ++ rest).map (upv ad))) (As := a.map (upv ad)) (rest := rest.map (upv ad)) (n := n) (bytes := y.2.1) (maxL := y.2.2.1) (ret := y.2.2.2.1) (index := idx) (Ts := TW) (own := cn own)
    ⟨hx, hb, hml, hown, hts⟩ (hM hoa) ⟨hcb, hts _ c41⟩
    ⟨pcc_blind, fun U hU hW => pcc_at hKt hSh hP hS hs U hU hW⟩ rfl (by simpa using hn) hL.1 (by simp) (lv_room (by rw [map_cat]; exact hw)) hd ⟨hcs.1, hcs.2⟩
  refine run_on hrun hS ?_
  intro r' I' L' H1 locs1 hq hok hsc hP1 hS1
  have e1 : ((r'.map (upv ad)).toList ++ rest.map (upv ad)) = (r'.toList ++ rest).map (upv ad) := by cases r' <;> simp
  rw [e1]
  refine hk r' I' L' hq H1 locs1 la hP1 hS1 hL hsc o1 ?_
  intro u hu
  rcases List.mem_append.mp hu with q | q
  · exact hok u (Option.mem_toList.mp q)
  · exact hor u q
theorem gl_gets (hC : Cx p R s m args c D cA ad A cc nL own Ls xs) {k : Nat} (h1 : decode cc pc = .ok (.getstatic k, 3)) (h2 : GZl.contains (own, k) = true)
    (hk : ∀ v : MV, v = vN ∨ v = vR 4004 0 → Gl p l e R s m args below meth c cells slots Qw D cA ad A nL Ls xs (pc + 3) ls (v :: st) I L) : Gl p l e R s m args below meth c cells slots Qw D cA ad A nL Ls xs pc ls st I L := by
  intro H locs la hP hS hL hs o1 o2
  obtain ⟨hx, hb, hml, hown, hts, hKt, hSh, hAd, hRf, hRl⟩ := hC
  have hz := GZ_ok (List.contains_iff_mem.mp h2)
  rcases hSh.2.2.2.2.2 with q | q
  · exact va_gets hx hb q hS hown (hts _ hz) (fun _ h => h) h1 (hk vN (Or.inl rfl) H locs la hP hS hL hs o1 (okl_c trivial o2))
  · exact va_gets hx hb q hS hown (hts _ hz) (fun _ h => h) h1 (hk (vR 4004 0) (Or.inr rfl) H locs la hP hS hL hs o1 (okl_c (show 0 < cnt 4004 by decide) o2))
end Run
section Meth
variable {l : Launch} {D : va_G} {cA : Nat → ClassId} {ad : Nat → Nat → Nat} {A : Nat → Prop} {Ls : Nat} {xs : Nat → Int32}
theorem nfw : nativeFrameWords "java/lang/System" "arraycopy" 5 + 11 ≤ 200 := by decide
theorem met_of (hAd : Ad ad A) : ∀ (d : Nat) (y : MTy) (Q : QT) (a : List MV) (I : MI) (L : ML), okY y → okl a → (enL a).length ≤ y.2.2.1 → CC d y a I L Q → Met l y.2.2.2.2 (wsM y) (rmD d) (Pcc D cA ad A Ls xs a I L) (Qcc D cA ad A Ls xs Q) 0 0 A := by
  intro d
  induction d with
  | zero => intro y Q a I L _ _ _ h; exact False.elim h
  | succ d ih =>
    intro y Q a I L hy ha hlen h
    refine va_MetF (cc := y.2.1) (maxL := y.2.2.1) (ret := y.2.2.2.1) hy.2.2.1 rfl ?_
    intro p e s m args below meth c s₁ B hml hv
    obtain ⟨rfl, hP, hKt, hSh, hs⟩ := hv
    have hts := atoms_spec (ws := wsM y) B.pre
    have hown : s.vm.findClass (cn y.1) = some m.cls := by rw [← hy.2.1]; exact findClass_of_methodNamed B.named
    have hC : Cx p (headSpec (wsM y) (rmD (d + 1))).room s m (a.map (upv ad)).toArray c D cA ad A y.2.1 y.2.2.1 y.1 Ls xs :=
      ⟨B.exec, B.bytes, hml, hown, fun w hw => hts w (List.mem_cons_of_mem _ hw), hKt, hSh, hAd, by show 1 ≤ d + 1; omega, by show _ ≤ 40 * (d + 1) + 200; have := nfw; omega⟩
    have hlocks := B.notSynchronized
    have hr := B.returns
    rw [lg_entry_eq]
    have key := h (Gl p l e (headSpec (wsM y) (rmD (d + 1))).room s m (a.map (upv ad)).toArray below meth c 0 0 (MQ below (Qcc D cA ad A Ls xs Q) (a.map (upv ad)).toArray s 0 0 A) D cA ad A y.2.2.1 Ls xs) ?_
    · exact key s.heap [] _ hP va_S.rf (LR_ent hlen) hs (okl_ent ha) (fun v hv => by cases hv)
    · refine ⟨?_, ?_, ?_, ?_, ?_, ?_, ?_, ?_, ?_, ?_, ?_, ?_, ?_, ?_, ?_⟩
      · intro pc q ls st I L ls' st' I' L' P h1 h2 h3 h4
        exact g_all hC h1 h2 h3 h4
      · intro pc tgt off ls st I L h1 h2 h3
        exact gl_goto hC h1 h2 h3
      · intro pc tgt k off x ls st I L h1 h2 h3 h4
        exact gl_if hC h1 h2 h3 h4
      · intro pc tgt k off x y ls st I L h1 h2 h3 h4
        exact gl_icmp hC h1 h2 h3 h4
      · intro pc tgt off v ls st I L h1 h2 h0 h3 h4
        exact gl_null hC h1 h2 h0 h3 h4
      · intro pc tgt off v ls st I L h1 h2 h0 h3 h4
        exact gl_nonnull hC h1 h2 h0 h3 h4
      · intro pc len i ks dd x ls st I L h1 h2 h3 h4
        exact gl_sw hC h1 h2 h3 h4
      · intro pc x ls I L h1 h2 h3 H locs la hP hS hL hs o1 o2
        have hq : ∀ t : State, t.heap = H → s.WarmedH t.vm → Qcc D cA ad A Ls xs Q (a.map (upv ad)).toArray s (.returned (some (.int x))) t := fun t ht hW => ⟨⟨some (vI x), I, L, h3, rfl, fun v hv => by cases hv; trivial, hs, by rw [ht]; exact hP⟩, hS.F ht⟩
        cases hret : y.2.2.2.1 with
        | none => rw [hret] at h2; exact False.elim h2
        | some ty =>
          rw [hret] at h2 hr
          cases ty with
          | int => exact W.iret B.exec B.bytes hr hq hS.2.2 h1
          | boolean => exact W.zret B.exec B.bytes hr (by rcases h2 with rfl | rfl <;> rfl) hq hS.2.2 h1
          | _ => exact W.zret B.exec B.bytes hr h2.2 hq hS.2.2 h1
      · intro pc x ls I L h1 h2 h3 H locs la hP hS hL hs o1 o2
        rw [h2] at hr
        exact W.lret B.exec B.bytes hr (fun t ht hW => ⟨⟨some (vL x), I, L, h3, rfl, fun v hv => by cases hv; trivial, hs, by rw [ht]; exact hP⟩, hS.F ht⟩) hS.2.2 h1
      · intro pc v ls I L h1 h2 h0 h3 H locs la hP hS hL hs o1 o2
        obtain ⟨n, h2⟩ := h2
        rw [h2] at hr
        refine W.aret (v := upv ad v) B.exec B.bytes hr (Or.inl ⟨n, rfl⟩) ?_ (fun t ht hW => ⟨⟨some v, I, L, h3, rfl, fun u hu => by cases hu; exact okl_h o2, hs, by rw [ht]; exact hP⟩, hS.F ht⟩) hS.2.2 h1
        rcases h0 with rfl | ⟨r, i, rfl⟩
        · exact Or.inl rfl
        · exact Or.inr ⟨_, rfl⟩
      · intro pc ls I L h1 h2 h3 H locs la hP hS hL hs o1 o2
        rw [h2] at hr
        exact W.vret B.exec B.bytes hr (fun t ht hW => ⟨⟨none, I, L, h3, rfl, fun v hv => (by cases hv), hs, by rw [ht]; exact hP⟩, hS.F ht⟩) hS.2.2 h1
      · intro pc idx n y' v a' rest ls I L Q' h1 h2 h3 h4 h5 h8 h6 h7
        exact gl_callv hC (d := d) ⟨Nat.le_refl _, Nat.le_refl _⟩ ⟨Nat.zero_le _, Nat.zero_le _⟩ h1 h2 h3 h4 h5 (fun ho => ih y' Q' (v :: a') I L ⟨h1.2.1, h1.2.2.2.2.1, h1.2.2.2.2.2.2.2.1, h1.2.2.2.2.2.2.2.2.2⟩ ho h8 h6) h7
      · intro pc idx n y' a' rest ls I L Q' h1 h2 h3 h5 h8 h6 h7
        exact gl_calls hC (d := d) ⟨Nat.le_refl _, Nat.le_refl _⟩ ⟨Nat.zero_le _, Nat.zero_le _⟩ h1 h2 h3 h5 (fun ho => ih y' Q' a' I L ⟨h1.2.1, h1.2.2.2.2.1, h1.2.2.2.2.2.2.2.1, h1.2.2.2.2.2.2.2.2.2⟩ ho h8 h6) h7
      · intro pc ls ls' st I L h1 h2
        exact gl_wk h1 h2
      · intro pc k ls st I L h1 h2 h3
        exact gl_gets hC h1 h2 h3
end Meth
