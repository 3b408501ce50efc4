/-! THE LAW'S FRAME: the skeleton's first rows, then the small machine in the law's own frame, and the made world as the small machine has it -/
/-! THE CLAIM OUT OF ONE WALK OF THE LAW'S BODY. Your part is whole_start (and what it stands on); all else here is the same for every law, but numbers. -/
def R_law : String := "CoachWaitsLaw"
def lw_P (b : Addr) (xs : List Int32) (args : Array Value) (s : State) : Prop := args = #[.ref b] ∧ s.IntsAt b xs ∧ xs.length ≤ 3072 ∧ (Jvm.Cond.and given_1 narrow_1).before args s = true
def lw_Q (_ : Array Value) (s : State) (o : Outcome) (t : State) : Prop := o = .returned (some (.int 1)) ∧ Framed s o t [] 600000 7302249
def lw_Z (below : List Frame) (a : Array Value) (s : State) : State → Prop := fun t => ∃ o, t.status = .running ∧ Ended t below o ∧ lw_Q a s o t
/-- the law's own end, with 1 on the stack, nothing written that was there before, its room as the claim has it -/
theorem lw_ret {p : Program} {l : Launch} {e : Env} {s : State} {m : MethodId} {below : List Frame} {meth : Method} {c : Code} {b : Nat} (hx : p.tables.exec = Jvm.exec) (hb : c.code = code) (hr : meth.sig.returnType = ret) (hlocks : meth.locks = false) {pc : Nat} {H : Heap} {ls : Array Slot} (hdg : decode code pc = .ok (.ireturn, 1)) : W p l e room_1 s m #[Value.ref b] below meth c H [] 600000 7302249 (lw_Z below #[Value.ref b] s) (F0 m pc ls [.int 1]) := by
  intro T hT X
  obtain ⟨fs, hret, hrun, hended, hW, hframe⟩ := X.leave (v := some (.int 1)) (hlocks := hlocks) (fun h => by rw [hr] at h; cases h)
  have hmeth' : T.vm.method? m = some meth := X.method'
  refine ⟨T.setFrames fs, ?_, .returned (some (.int 1)), hrun, hended, rfl, ⟨_, rfl⟩, hW, hframe⟩
  jvm_step X.here [X.here.top, hx, hb, hdg, hmeth', hr, ret, narrow_b1]
  (try refine ⟨rfl, ?_⟩); (try refine ⟨rfl, ?_⟩)
  first | (intro acts; rw [hret _ acts rfl rfl rfl]) | rw [hret _ _ rfl rfl rfl]
  exact Steps.refl _
/-- what holds at the law's entry: the machine, the code, the tables' words (any of lw_tbl by 'hts w (by decide +kernel)'), the script of L ints xs at the cell b, what the Statement gives of the start (any of its parts by flat_of_before) -/
def lw_At (p : Program) (s : State) (m : MethodId) (meth : Method) (c : Code) (b L : Nat) (xs : Nat → Int32) : Prop :=
  p.tables.exec = Jvm.exec ∧ c.code = code ∧ meth.sig.returnType = ret ∧ c.maxLocals = 4 ∧ s.vm.findClass R_law = some m.cls ∧ (∀ w ∈ lw_tbl, w.before #[Value.ref b] s = true) ∧ va_X b L xs s s.heap ∧ b < s.heap.size ∧ meth.locks = false ∧ (Jvm.Cond.and given_1 narrow_1).before #[Value.ref b] s = true
def IVl : List (Nat × Nat) := [(0, 0), (64, 0), (65, 0), (128, 0), (129, 0), (130, 0), (131, 0), (132, 0), (133, 0), (134, 0), (135, 0), (128, 1), (129, 1), (130, 1), (131, 1), (132, 1), (133, 1), (134, 1), (135, 1), (192, 0), (256, 0), (257, 0), (258, 0), (259, 0), (256, 1), (257, 1), (258, 1), (259, 1), (256, 2), (257, 2), (258, 2), (259, 2), (320, 0), (384, 0), (385, 0), (386, 0), (323, 0), (324, 0), (325, 0), (326, 0), (327, 0), (328, 0), (448, 0), (452, 0), (453, 0), (454, 0), (512, 0), (515, 0), (516, 0), (256, 3), (257, 3), (258, 3), (259, 3), (256, 4), (257, 4), (258, 4), (259, 4), (256, 5), (257, 5), (258, 5), (259, 5), (256, 6), (257, 6), (258, 6), (259, 6), (256, 7), (257, 7), (258, 7), (259, 7), (256, 8), (257, 8), (258, 8), (259, 8), (576, 0), (577, 0), (256, 9), (257, 9), (258, 9), (259, 9), (256, 10), (257, 10), (258, 10), (259, 10), (256, 11), (257, 11), (258, 11), (259, 11), (256, 12), (257, 12), (258, 12), (259, 12), (256, 13), (257, 13), (258, 13), (259, 13), (256, 14), (257, 14), (258, 14), (259, 14), (256, 15), (257, 15), (258, 15), (259, 15), (256, 16), (257, 16), (258, 16), (259, 16), (256, 17), (257, 17), (258, 17), (259, 17), (256, 18), (257, 18), (258, 18), (259, 18), (12, 0), (13, 0), (14, 0), (15, 0), (16, 0), (640, 0), (641, 0), (640, 1), (641, 1), (640, 2), (641, 2), (640, 3), (641, 3), (128, 2), (129, 2), (130, 2), (131, 2), (132, 2), (133, 2), (134, 2), (135, 2), (256, 19), (257, 19), (258, 19), (259, 19), (128, 3), (129, 3), (130, 3), (131, 3), (132, 3), (133, 3), (134, 3), (135, 3), (256, 20), (257, 20), (258, 20), (259, 20), (704, 0), (706, 0), (707, 0), (708, 0), (709, 0), (721, 0), (722, 0), (723, 0), (724, 0), (725, 0), (728, 0), (737, 0), (738, 0), (739, 0), (742, 0), (743, 0), (744, 0)]

section Lw
variable {p : Program} {l : Launch} {e : Env} {s : State} {m : MethodId} {below : List Frame} {meth : Method} {c : Code} {cells slots : Nat} {b : Nat}
variable {D : va_G} {cA : Nat → ClassId} {ad : Nat → Nat → Nat} {Ls : Nat} {xs : Nat → Int32}
variable {pc : Nat} {ls st : List MV} {I : MI} {L : ML}
theorem gl_law (hC : Cx p room_1 s m #[Value.ref b] c D cA ad (fun q => s.heap.size ≤ q) code 4 12 Ls xs) (hr : meth.sig.returnType = ret) (hlocks : meth.locks = false) {d : Nat} (hdd : d + 1 ≤ 2048 ∧ 40 * (d + 1) + 200 ≤ 84000) (hcs : cells ≤ 600000 ∧ slots ≤ 7302249) (h : XX (d + 1) m_Lw_law (fun r _ _ => r = some (vI 1)) pc ls st I L) : Gl p l e room_1 s m #[Value.ref b] below meth c cells slots (lw_Z below #[Value.ref b] s) D cA ad (fun q => s.heap.size ≤ q) 4 Ls xs pc ls st I L := by
  have hAd := hC.2.2.2.2.2.2.2.1
  refine h (Gl p l e room_1 s m #[Value.ref b] below meth c cells slots (lw_Z below #[Value.ref b] s) D cA ad (fun q => s.heap.size ≤ q) 4 Ls xs) ?_
  refine ⟨?_, ?_, ?_, ?_, ?_, ?_, ?_, ?_, ?_, ?_, ?_, ?_, ?_, ?_, ?_⟩
  · intro pc q ls st I L ls' st' I' L' P h1 h2 h3 h4
    exact g_all hC h1 h2 h3 h4
  · intro pc tgt off ls st I L h1 h2 h3
    exact gl_goto hC h1 h2 h3
  · intro pc tgt k off x ls st I L h1 h2 h3 h4
    exact gl_if hC h1 h2 h3 h4
  · intro pc tgt k off x y ls st I L h1 h2 h3 h4
    exact gl_icmp hC h1 h2 h3 h4
  · intro pc tgt off v ls st I L h1 h2 h0 h3 h4
    exact gl_null hC h1 h2 h0 h3 h4
  · intro pc tgt off v ls st I L h1 h2 h0 h3 h4
    exact gl_nonnull hC h1 h2 h0 h3 h4
  · intro pc len i ks dd x ls st I L h1 h2 h3 h4
    exact gl_sw hC h1 h2 h3 h4
  · intro pc x ls I L h1 h2 h3 H locs la hP hS hL hs o1 o2
    cases h3
    refine va_forget (fun q hq => hS.2.2 q hq) ?_
    refine W.widen (k := 600000) (n := 7302249) hcs.1 hcs.2 ?_
    exact lw_ret hC.1 hC.2.1 hr hlocks h1
  · intro pc x ls I L h1 h2 h3
    cases h2
  · intro pc v ls I L h1 h2 h0 h3
    obtain ⟨n, h2⟩ := h2
    cases h2
  · intro pc ls I L h1 h2 h3
    cases h2
  · intro pc idx n y' v a' rest ls I L Q' h1 h2 h3 h4 h5 h8 h6 h7
    exact gl_callv hC (d := d) hdd hcs h1 h2 h3 h4 h5 (fun ho => met_of hAd d y' Q' (v :: a') I L ⟨h1.2.1, h1.2.2.2.2.1, h1.2.2.2.2.2.2.2.1, h1.2.2.2.2.2.2.2.2.2⟩ ho h8 h6) h7
  · intro pc idx n y' a' rest ls I L Q' h1 h2 h3 h5 h8 h6 h7
    exact gl_calls hC (d := d) hdd hcs h1 h2 h3 h5 (fun ho => met_of hAd d y' Q' a' I L ⟨h1.2.1, h1.2.2.2.2.1, h1.2.2.2.2.2.2.2.1, h1.2.2.2.2.2.2.2.2.2⟩ ho h8 h6) h7
  · intro pc ls ls' st I L h1 h2
    exact gl_wk h1 h2
  · intro pc k ls st I L h1 h2 h3
    exact gl_gets hC h1 h2 h3
end Lw
/-! the made world -/
def adW (sK sV : Nat → Nat) (b fm : Nat) (g : Nat → Nat) : Nat → Nat → Nat := fun r i => if r = 4000 then sK i else if r = 4001 then sV i else if r = 4002 then b else if r = 4004 then fm else g (ix r i)
def I0 (xs : Nat → Int32) (Ls : Nat) : MI := fun r _ j => if r = 4002 then xs j else if r = 4003 then Int32.ofNat Ls else lkp (tb r) j
def L0 : ML := fun _ _ _ => 0
theorem adW_lt {sK sV : Nat → Nat} {b fm : Nat} {g : Nat → Nat} {r i : Nat} (h : r < 4000) : adW sK sV b fm g r i = g (ix r i) := by
  unfold adW
  rw [if_neg (by omega), if_neg (by omega), if_neg (by omega), if_neg (by omega)]
theorem I0_lt {xs : Nat → Int32} {Ls r i j : Nat} (h : r < 4000) : I0 xs Ls r i j = lkp (tb r) j := by
  unfold I0
  rw [if_neg (by omega), if_neg (by omega)]
theorem oR_ck : ((List.range 12).all fun c => (List.range (nF (64 * c))).all fun j => decide ((oR (64 * c) j).1 < 4000)) = true := by decide +kernel
theorem eR_ck : ((List.range 768).all fun r => decide ((eR r).1 < 4000)) = true := by decide +kernel
theorem IV_ck : (CE.all fun q => decide (IVl[ix q.1 q.2]? = some q)) = true := by decide +kernel
theorem aK_ck : (CE.all fun q => decide (q.1 % 64 = 0) || decide ((aK q.1).1 < 7)) = true := by decide +kernel
theorem oR_c (a j : Nat) : oR (64 * (a / 64)) j = oR a j := by
  unfold oR
  rw [Nat.mul_div_cancel_left _ (by decide : 0 < 64)]
theorem arrV_x {c0 : ClassId} {n : Nat} {f f' : Nat → Value} (h : ∀ j : Nat, j < n → f j = f' j) : arrV c0 n f = arrV c0 n f' := by
  unfold arrV
  congr 1
  apply Array.ext_getElem?
  intro k
  rw [Array.getElem?_ofFn, Array.getElem?_ofFn]
  by_cases hk : k < n
  · rw [dif_pos hk, dif_pos hk, h k hk]
  · rw [dif_neg hk, dif_neg hk]
section Mw
variable {D : va_G} {cA : Nat → ClassId} {sK sV g : Nat → Nat} {b fm Ls : Nat} {xs : Nat → Int32} {H : Heap} {A : Nat → Prop}
theorem at_0 {r i : Nat} (hr : (r, i) ∈ CE) (h : va_at D CL (g (ix r i), nrC cA g (exC r i)) H) : va_at D CL (adW sK sV b fm g r i, cel (adW sK sV b fm g) cA (I0 xs Ls) L0 r i) H := by
  have hr7 : r < 768 := (CE_of hr).1
  rw [adW_lt (show r < 4000 by omega)]
  unfold exC at h
  unfold cel
  by_cases h0 : r % 64 = 0
  · rw [if_pos h0] at h ⊢
    have e : ((List.range (nF r)).map (fun j => match fK r j with
        | 0 => vI (lkp (tb r) j)
        | 1 => vI (lkp (tb r) j)
        | 2 => vL 0
        | 3 => vR 0 (ix (oR r j).1 (oR r j).2)
        | _ => vR 0 (ix (r + 1 + j) i))).map (upv (adF g)) = (List.range (nF r)).map (fv (adW sK sV b fm g) (I0 xs Ls) L0 r i) := by
      rw [List.map_map]
      apply List.map_congr_left
      intro j hj
      have hj : j < nF r := List.mem_range.mp hj
      have h12 : r / 64 < 12 := by omega
      have ho : (oR r j).1 < 4000 := by
        have h1 := List.all_eq_true.mp (List.all_eq_true.mp oR_ck (r / 64) (List.mem_range.mpr h12)) j (List.mem_range.mpr (by rw [nF_c]; exact hj))
        rw [oR_c] at h1
        exact of_decide_eq_true h1
      have hf : r + 1 + j < 4000 := by
        have : nF r ≤ 100 := by
          have h1 : ((List.range 12).all fun c => decide (nF (64 * c) ≤ 100)) = true := by decide +kernel
          have h2 := of_decide_eq_true (List.all_eq_true.mp h1 (r / 64) (List.mem_range.mpr h12))
          rw [nF_c] at h2
          exact h2
        omega
      show upv (adF g) (match fK r j with
        | 0 => vI (lkp (tb r) j)
        | 1 => vI (lkp (tb r) j)
        | 2 => vL 0
        | 3 => vR 0 (ix (oR r j).1 (oR r j).2)
        | _ => vR 0 (ix (r + 1 + j) i)) = fv (adW sK sV b fm g) (I0 xs Ls) L0 r i j
      unfold fv
      rw [adW_lt ho, adW_lt hf, I0_lt (show r < 4000 by omega)]
      generalize fK r j = f
      match f with
      | 0 => rfl
      | 1 => rfl
      | 2 => rfl
      | 3 => rfl
      | f + 4 => rfl
    have h : va_at D CL (g (ix r i), Sum.inr (r / 64, ((List.range (nF r)).map (fun j => match fK r j with
        | 0 => vI (lkp (tb r) j)
        | 1 => vI (lkp (tb r) j)
        | 2 => vL 0
        | 3 => vR 0 (ix (oR r j).1 (oR r j).2)
        | _ => vR 0 (ix (r + 1 + j) i))).map (upv (adF g)))) H := h
    rw [e] at h
    exact h
  · rw [if_neg h0] at h ⊢
    have eI : I0 xs Ls r i = lkp (tb r) := by
      funext j
      exact I0_lt (show r < 4000 by omega)
    have hk : (aK r).1 < 7 := by
      have h1 := List.all_eq_true.mp aK_ck (r, i) hr
      simp only [Bool.or_eq_true, decide_eq_true_eq] at h1
      rcases h1 with h1 | h1
      · exact absurd h1 h0
      · exact h1
    have heR : (eR r).1 < 4000 := of_decide_eq_true (List.all_eq_true.mp eR_ck r (List.mem_range.mpr hr7))
    unfold ar
    rw [eI]
    generalize (aK r).1 = t at h hk ⊢
    generalize (aK r).2 = n at h ⊢
    match t, hk with
    | 0, _ => exact h
    | 1, _ => exact h
    | 2, _ => exact h
    | 3, _ => exact h
    | t + 4, hk =>
      rw [if_neg (by omega)] at h
      have h : H[g (ix r i)]? = some (arrV (cA (t + 4)) n (fun k => va_rf ((((List.range n).map (fun k => some (ix (eR r).1 ((eR r).2 + k)))).getD k none).map g))) := h
      show H[g (ix r i)]? = some (arrV (cA (t + 4)) n (fun k => va_rf (some (adW sK sV b fm g (eR r).1 ((eR r).2 + k)))))
      rw [h, arrV_x (fun k hk => ?_)]
      rw [List.getD_eq_getElem?_getD, List.getElem?_map, List.getElem?_range hk, adW_lt heR]
      rfl
theorem P_0 {w : List NC} (hw : chB w = true) (hP : va_P D CL (nrW cA g w) H) : va_P D CL (wsI (adW sK sV b fm g) cA (I0 xs Ls) L0) H := by
  intro k q hq
  cases hk : CE[k]? with
  | none => simp [wsI, hk] at hq
  | some z =>
    rw [wsI_get hk] at hq
    cases hq
    have hz := List.mem_of_getElem? hk
    have h1 := List.all_eq_true.mp ((Bool.and_eq_true _ _).mp hw).2 z hz
    split at h1
    · rename_i c hc
      rw [eqC_ok h1] at hc
      exact at_0 hz (hP _ _ (nrW_get hc))
    · cases h1
theorem Ad_0 {w : List NC} (hw : chB w = true) (hD : va_D A (nrW cA g w)) : Ad (adW sK sV b fm g) A := by
  have hx : ∀ z ∈ CE, ∃ cc : NC, w[ix z.1 z.2]? = some cc := by
    intro z hz
    have h1 := List.all_eq_true.mp ((Bool.and_eq_true _ _).mp hw).2 z hz
    split at h1
    · rename_i c hc
      exact ⟨c, hc⟩
    · cases h1
  have hl : ∀ z ∈ CE, z.1 < 4000 := fun z hz => by have := (CE_of hz).1; omega
  refine ⟨fun q hq q' hq' e => ?_, fun q hq => ?_⟩
  · rw [adW_lt (hl q hq), adW_lt (hl q' hq')] at e
    obtain ⟨c1, h1⟩ := hx q hq
    obtain ⟨c2, h2⟩ := hx q' hq'
    have h3 := hD.1 _ _ _ _ (nrW_get (cA := cA) (g := g) h1) (nrW_get (cA := cA) (g := g) h2) e
    have a1 := of_decide_eq_true (List.all_eq_true.mp IV_ck q hq)
    have a2 := of_decide_eq_true (List.all_eq_true.mp IV_ck q' hq')
    rw [h3, a2] at a1
    exact (Option.some.inj a1).symm
  · rw [adW_lt (hl q hq)]
    obtain ⟨c1, h1⟩ := hx q hq
    exact hD.2 _ _ (nrW_get (cA := cA) (g := g) h1)
end Mw
