/-! the program's rings -/
def rgS : Nat → Nat → Prop := fun r a => (r = 448 ∨ r = 452) ∧ a = 0
def RgL (I : MI) (l : List Nat) : Prop := I 448 0 6 = nI (min l.length 1024) ∧ ∀ i, i < l.length → i < 1024 → I 452 0 i = nI (l.getD i 0)
def RgA (I : MI) (R : RD) : Prop := I 448 0 6 = nI (DL R).length ∧ ∀ i, i < (DL R).length → I 452 0 i = nI ((DL R).getD i 0)
def umN (mr fi : Nat) : Nat → Nat
  | 0 => 0
  | n + 1 => umN mr fi n + if fi < n ∧ mr.testBit n = false then 1 else 0
theorem um_le {mr fi : Nat} : ∀ n, umN mr fi n ≤ n
  | 0 => Nat.le_refl _
  | n + 1 => by have := um_le (mr := mr) (fi := fi) n; simp only [umN]; split <;> omega
theorem um_or {mr fi t : Nat} (h1 : fi < t) (h2 : mr.testBit t = false) : ∀ n, umN (mr ||| 2 ^ t) fi n + (if t < n then 1 else 0) = umN mr fi n
  | 0 => rfl
  | n + 1 => by
    have ih := um_or h1 h2 n
    simp only [umN]
    by_cases e : n = t
    · subst e
      rw [if_neg (Nat.lt_irrefl _)] at ih
      have hno : ¬ (fi < n ∧ (mr ||| 2 ^ n).testBit n = false) := fun z => (tb_or2f.mp z.2).2 rfl
      have hye : fi < n ∧ mr.testBit n = false := ⟨h1, h2⟩
      rw [if_pos (Nat.lt_succ_self _), if_neg hno, if_pos hye]
      omega
    · have e1 : (fi < n ∧ (mr ||| 2 ^ t).testBit n = false) ↔ (fi < n ∧ mr.testBit n = false) := ⟨fun z => ⟨z.1, (tb_or2f.mp z.2).1⟩, fun z => ⟨z.1, tb_or2f.mpr ⟨z.2, fun y => e y.symm⟩⟩⟩
      have e2 : (if t < n + 1 then 1 else 0) = (if t < n then 1 else 0) := by
        by_cases q : t < n
        · rw [if_pos q, if_pos (by omega)]
        · rw [if_neg q, if_neg (by omega)]
      rw [e2]
      by_cases q : fi < n ∧ mr.testBit n = false
      · rw [if_pos q, if_pos (e1.mpr q)]; omega
      · rw [if_neg q, if_neg (fun z => q (e1.mp z))]; omega
theorem or_1 {k w : Nat} (hk : k < 1024) (hw : w < 10) : nI k ||| ((1 : Int32) <<< (nI w &&& 31)) = nI (k ||| 2 ^ w) ∧ k ||| 2 ^ w < 1024 := by
  have tb := List.all_eq_true.mp (List.all_eq_true.mp or_tab w (List.mem_range.mpr hw)) k (List.mem_range.mpr hk)
  simp only [Bool.and_eq_true, decide_eq_true_eq] at tb
  exact tb
theorem po_tab : ((List.range 10).all fun w => (List.range 1024).all fun k => decide (popc 10 (k ||| 2 ^ w) ≤ popc 10 k + 1)) = true := by decide +kernel
theorem pop_or {k w : Nat} (hk : k < 1024) (hw : w < 10) : popc 10 (k ||| 2 ^ w) ≤ popc 10 k + 1 := of_decide_eq_true (List.all_eq_true.mp (List.all_eq_true.mp po_tab w (List.mem_range.mpr hw)) k (List.mem_range.mpr hk))
theorem RgL_same {I I' : MI} {l : List Nat} (h : RgL I l) (e1 : I' 448 0 = I 448 0) (e2 : I' 452 0 = I 452 0) : RgL I' l := by unfold RgL; rw [e1, e2]; exact h
theorem getD_app1 {l : List Nat} {x i : Nat} (h : i < l.length) : (l ++ [x]).getD i 0 = l.getD i 0 := by
  rw [List.getD_eq_getElem?_getD, List.getD_eq_getElem?_getD, List.getElem?_append_left h]
theorem getD_app2 {l : List Nat} {x : Nat} : (l ++ [x]).getD l.length 0 = x := by
  rw [List.getD_eq_getElem?_getD, List.getElem?_append_right (Nat.le_refl _), Nat.sub_self]; rfl
section FindC
variable {d : Nat} {I : MI} {L : ML} {R : RD} {s : SA} {P : List SA}
theorem c_Rg_add {l : List Nat} {x : Nat} {K : MI → ML → Prop} (hd : 1 ≤ d) (hl : RgL I l) (h : ∀ I', RgL I' (l ++ [x]) → Same rgS I I' → K I' L) : CV d m_Rg_add [vR 448 0, vI (nI x)] I L K := by
  refine toCV (n := 0) hd (r_Rg_add_0 ?_)
  rw [hl.1]
  refine ⟨fun q => ⟨rfl, h I ⟨?_, fun i hi hi2 => ?_⟩ Same.rf⟩, fun q => ⟨?_, rfl, h _ ⟨?_, fun i hi hi2 => ?_⟩ ?_⟩⟩
  · have : 1024 ≤ min l.length 1024 := (nI_leI (a := 1024) (by omega) (by omega)).mp q
    rw [hl.1, List.length_append]
    congr 1
    simp; omega
  · have : 1024 ≤ min l.length 1024 := (nI_leI (a := 1024) (by omega) (by omega)).mp q
    rw [getD_app1 (by omega)]
    exact hl.2 i (by omega) hi2
  all_goals have hlt : l.length < 1024 := by
              rcases Nat.lt_or_ge l.length 1024 with z | z
              · exact z
              · exact absurd (nI_le (a := 1024) (b := min l.length 1024) (by omega) (by omega)) q
  all_goals have em : min l.length 1024 = l.length := by omega
  · exact vin (by omega) (by omega)
  · rw [ui_s, ui_r (by decide), hl.1, nI_1, List.length_append]
    congr 1
    simp; omega
  · rw [ui_r (by decide), em, cl_n (by omega)]
    rw [List.length_append] at hi
    simp at hi
    by_cases e : i = l.length
    · subst e; rw [ui_s, getD_app2]
    · rw [ui_k e, getD_app1 (by omega)]
      exact hl.2 i (by omega) hi2
  · exact (Same.rf.ui ⟨Or.inr rfl, rfl⟩).ui ⟨Or.inl rfl, rfl⟩
theorem rg_road {r k : Nat} (h1 : 128 ≤ r) (h2 : r ≤ 135) : ¬ rgS r k := fun q => by rcases q.1 with z | z <;> omega
theorem c_Rg_follow (hR : WF R) {fi : Nat} (hfi : fi < rC R) : ∀ (f : Nat) {d he mr ws : Nat} {I : MI} {l : List Nat} {K : MI → ML → Prop}, f + 1 ≤ d → umN mr fi (rC R) + 1 ≤ f → popc 10 ws + umN mr fi (rC R) ≤ 6 → RoadA I 0 R → RgL I l → he < rC R → mr < 1024 → ws < 1024 → (∀ I', RgL I' (l ++ dfs R fi f he mr ws) → Same rgS I I' → K I' L) → CV d m_Rg_follow [vR 448 0, vI (nI fi), vI (nI he), vI (nI mr), vI (nI ws)] I L K := by
  have hC := hR.1
  have hW := hR.2.1
  intro f
  induction f with
  | zero => intro d he mr ws I l K _ hu; omega
  | succ f ih =>
    intro d he mr ws I l K hd hu hpo hA hl hhe hmr hws h
    refine toCV (n := f + 1) (by omega) (r_Rg_follow_0 ?_)
    have key : ∀ (m w : Nat) (J : MI), w + m = rW R → RgL J (l ++ lp (fun w => if rf R w = he then (if rt R w = fi then [ws ||| 2 ^ w] else if fi < rt R w ∧ mr.testBit (rt R w) = false then dfs R fi f (rt R w) (mr ||| 2 ^ rt R w) (ws ||| 2 ^ w) else []) else []) w) → Same rgS I J → XX (f + 1 + 1) m_Rg_follow (fun r I' L' => r = none ∧ K I' L') 3 [vR 448 0, vI (nI fi), vI (nI he), vI (nI mr), vI (nI ws), vI (nI w), vD] [] J L := by
      intro m
      induction m with
      | zero =>
        intro w J hw hlJ hS
        have hAJ := hA.same hS (fun r h1 h2 => rg_road h1 h2)
        refine r_Rg_follow_3 ?_
        rw [hAJ.2.1]
        refine ⟨fun _ => ⟨rfl, h J ?_ hS⟩, fun q => absurd (nI_le (show rW R ≤ w by omega) (by omega)) q⟩
        rw [show w = rW R by omega] at hlJ
        exact hlJ
      | succ m ihm =>
        intro w J hw hlJ hS
        have hAJ := hA.same hS (fun r h1 h2 => rg_road h1 h2)
        obtain ⟨a1, a2, _, _⟩ := hAJ.2.2.2.2.2.1 w (by omega)
        obtain ⟨b1, b2, _, _⟩ := hR.2.2.1 w (by omega)
        have nxt := ihm (w + 1)
        simp only [lp] at nxt
        rw [← List.append_assoc] at nxt
        refine r_Rg_follow_3 ?_
        rw [hAJ.2.1]
        refine ⟨fun q => absurd q (nI_ge (show w < rW R by omega) (by omega)), fun _ => c_Road_fromOf (by omega) (by omega) ?_⟩
        rw [a1, nI_1]
        refine ⟨fun q => ?_, fun q => ?_⟩
        · have e : ¬ rf R w = he := fun z => q (by rw [z])
          refine nxt J (by omega) ?_ hS
          rw [if_neg e, List.append_nil]
          exact hlJ
        · have e : rf R w = he := (nI_eq (by omega) (by omega)).mp (Classical.not_not.mp q)
          refine c_Road_toOf (by omega) (by omega) ?_
          rw [a2]
          obtain ⟨o1, o2⟩ := or_1 (k := ws) (w := w) hws (by omega)
          obtain ⟨o3, o4⟩ := or_1 (k := mr) (w := rt R w) hmr (by omega)
          refine ⟨fun q => ?_, fun q => ?_⟩
          · have e2 : ¬ rt R w = fi := fun z => q (by rw [z])
            refine ⟨fun q => ?_, fun q => ?_⟩
            · have hle := (nI_leI (by omega) (by omega)).mp q
              refine nxt J (by omega) ?_ hS
              rw [if_pos e, if_neg e2, if_neg (fun z => by omega), List.append_nil]
              exact hlJ
            · have hlt : fi < rt R w := by
                rcases Nat.lt_or_ge fi (rt R w) with z | z
                · exact z
                · exact absurd (nI_le z (by omega)) q
              rw [bit_1 hmr (by omega), o1, o3]
              refine ⟨fun q => ?_, fun q => ?_⟩
              · have hb : ¬ mr.testBit (rt R w) = false := fun z => by rw [z] at q; exact q rfl
                refine nxt J (by omega) ?_ hS
                rw [if_pos e, if_neg e2, if_neg (fun z => hb z.2), List.append_nil]
                exact hlJ
              · have hb : mr.testBit (rt R w) = false := by
                  cases z : mr.testBit (rt R w) with
                  | false => rfl
                  | true => rw [z] at q; exact absurd (by decide) q
                have hum := um_or hlt hb (rC R)
                rw [if_pos b2] at hum
                have hpn := pop_or (k := ws) (w := w) hws (by omega)
                refine c_bc (by omega) (fun y hy => ?_)
                rw [hy ws hws rfl]
                refine ⟨fun q => absurd q (nle_c (m := 6) (by omega) (by omega)), fun _ => ?_⟩
                refine ih (by omega) (by omega) (by omega) hAJ hlJ b2 o4 o2 (fun J2 hl2 hS2 => nxt J2 (by omega) ?_ (hS.tr hS2))
                rw [if_pos e, if_neg e2, if_pos ⟨hlt, hb⟩]
                exact hl2
          · have e2 : rt R w = fi := (nI_eq (by omega) (by omega)).mp (Classical.not_not.mp q)
            rw [o1]
            refine c_Rg_add (by omega) hlJ (fun J2 hl2 hS2 => nxt J2 (by omega) ?_ (hS.tr hS2))
            rw [if_pos e, if_pos e2]
            exact hl2
    exact key (rW R) 0 I (by omega) (by show RgL I (l ++ []); rw [List.append_nil]; exact hl) Same.rf
theorem c_Rg_find {K : MI → ML → Prop} (hd : 9 ≤ d) (hR : WF R) (hA : RoadA I 0 R) (h : ∀ I', RgA I' R → Same rgS I I' → K I' L) : CV d m_Rg_find [vR 448 0] I L K := by
  have hC := hR.1
  refine toCV (n := 8) hd (r_Rg_find_0 ?_)
  have key : ∀ (m c : Nat) (J : MI), c + m = rC R → RgL J (lp (fun c => dfs R c 7 c 0 0) c) → Same rgS I J → XX (8 + 1) m_Rg_find (fun r I' L' => r = none ∧ K I' L') 7 [vR 448 0, vI (nI c)] [] J L := by
    intro m
    induction m with
    | zero =>
      intro c J hc hl hS
      have hAJ := hA.same hS (fun r h1 h2 => rg_road h1 h2)
      refine r_Rg_find_7 ?_
      rw [hAJ.1]
      refine ⟨fun _ => ⟨rfl, h J ?_ hS⟩, fun q => absurd (nI_le (show rC R ≤ c by omega) (by omega)) q⟩
      rw [show c = rC R by omega] at hl
      have hlen := DL_len hR
      have hl : RgL J (DL R) := hl
      refine ⟨?_, fun i hi => hl.2 i hi (by omega)⟩
      rw [hl.1, Nat.min_eq_left (by omega)]
    | succ m ih =>
      intro c J hc hl hS
      have hAJ := hA.same hS (fun r h1 h2 => rg_road h1 h2)
      refine r_Rg_find_7 ?_
      rw [hAJ.1, nI_1]
      have hu := um_le (mr := 0) (fi := c) (rC R)
      exact ⟨fun q => absurd q (nI_ge (show c < rC R by omega) (by omega)), fun _ => c_Rg_follow hR (fi := c) (by omega) 7 (he := c) (mr := 0) (ws := 0) (by omega) (by omega) (by rw [show popc 10 0 = 0 from rfl]; omega) hAJ hl (by omega) (by omega) (by omega) (fun J2 hl2 hS2 => ih (c + 1) J2 (by omega) hl2 (hS.tr hS2))⟩
  refine key (rC R) 0 _ (by omega) ⟨by rw [ui_s]; rfl, fun i hi => absurd hi (by simp [lp])⟩ (Same.rf.ui ⟨Or.inl rfl, rfl⟩)
/-! one ring -/
def rgK (R : RD) (i : Nat) : Nat := (DL R).getD i 0
theorem rgK_R (hR : WF R) {i : Nat} (h : i < (DL R).length) : Rng R (rgK R i) := by
  refine (DL_mem hR).mp ?_
  unfold rgK
  rw [List.getD_eq_getElem?_getD, List.getElem?_eq_getElem h]
  exact List.getElem_mem h
theorem rgK_ex (hR : WF R) {k : Nat} (h : Rng R k) : ∃ i, i < (DL R).length ∧ rgK R i = k := by
  obtain ⟨i, hi, e⟩ := List.mem_iff_getElem.mp ((DL_mem hR).mpr h)
  refine ⟨i, hi, ?_⟩
  unfold rgK
  rw [List.getD_eq_getElem?_getD, List.getElem?_eq_getElem hi, e]; rfl
theorem Rng_1k (hR : WF R) {k : Nat} (h : Rng R k) : k < 1024 := Nat.lt_of_lt_of_le (Rng_lt h).1 (Nat.pow_le_pow_right (n := 2) (j := 10) (by omega) hR.2.1)
theorem c_Rg_ringAt {i : Nat} {K : Int32 → MI → ML → Prop} (hd : 1 ≤ d) (hR : WF R) (hr : RgA I R) (hi : i < (DL R).length) (h : K (nI (rgK R i)) I L) : CI d m_Rg_ringAt [vR 448 0, vI (nI i)] I L K := by
  have hlen := DL_len hR
  refine toCI (n := 0) hd (r_Rg_ringAt_0 ?_)
  rw [hr.1, cl_n (by omega), hr.2 i hi]
  exact ⟨fun q => absurd q (nlt0 (by omega)), fun _ => ⟨fun q => absurd q (nI_ge hi (by omega)), fun _ => ⟨fun q => absurd q (nle_c (m := 1024) (by omega) (by omega)), fun _ => ⟨vin (by omega) (by omega), _, rfl, h⟩⟩⟩⟩
theorem c_Rg_ringAtN {K : Int32 → MI → ML → Prop} (hd : 1 ≤ d) (h : K 0 I L) : CI d m_Rg_ringAt [vR 448 0, vI (-1)] I L K := toCI (n := 0) hd (r_Rg_ringAt_0 ⟨fun _ => ⟨_, rfl, h⟩, fun q => absurd (by decide) q⟩)
/-- rings stand over what changes elsewhere -/
theorem RgA_same {S : Nat → Nat → Prop} {I' : MI} (h : RgA I R) (hS : Same S I I') (h1 : ¬ S 448 0) (h2 : ¬ S 452 0) : RgA I' R := by
  unfold RgA
  rw [hS 448 0 h1, hS 452 0 h2]
  exact h
theorem go_no448 {r : Nat} (h : r = 448 ∨ r = 452) : ¬ goS r 0 := fun q => by rcases q.1 with y | y | y | y | y | y | y | y | y <;> omega
theorem CoC_go {I' : MI} (hc : CoC I R s P) (hG : GoA I' R) (hS : Same goS I I') : CoC I' R s P := CoC_tu hc (i := 1) (by omega) (by omega) hG (hS.mono (fun _ _ q => Or.inl q))
theorem rm_go {I I' : MI} (h : Same rmS I I') : Same goS I I' := h.mono (fun r a q => ⟨by rcases q.1 with y | y | y | y | y | y <;> simp [y], q.2⟩)
theorem c_Rg_timesOf {i m : Nat} {K : Int32 → MI → ML → Prop} (hd : 5 ≤ d) (hO : CoO R s P) (hc : CoC I R s P) (hr : RgA I R) (em : s.2.2.2.1 = nI m) (hm : m ≤ 9) (hi : i < (DL R).length) (h : ∀ I', CoC I' R s P → RgA I' R → Same goS I I' → K (nI (rgT R m (rgK R i))) I' L) : CI d m_Rg_timesOf [vR 448 0, vI (nI i)] I L K := by
  have hR := hO.1
  have hW := hR.2.1
  have hk := Rng_1k hR (rgK_R hR hi)
  refine toCI (n := 4) hd (r_Rg_timesOf_0 (c_Rg_ringAt (by omega) hR hr hi ?_))
  rw [hc.2.1.2.2.2.1, em]
  refine c_Go_reckon (by omega) hR hc.1 hc.2.2.1 hm (fun I1 hG1 ht1 _ hS1 => ?_)
  have hS1 := rm_go hS1
  have hc1 := CoC_go hc hG1 hS1
  have hr1 := RgA_same hr hS1 (go_no448 (Or.inl rfl)) (go_no448 (Or.inr rfl))
  have fin := h I1 hc1 hr1 hS1
  have key : ∀ (b w : Nat), w + b = rW R → XX (4 + 1) m_Rg_timesOf (fun r I' L' => ∃ x, r = some (vI x) ∧ K x I' L') 25 [vR 448 0, vD, vI (nI (rgK R i)), vI (nI (sbN (tN R m) (rgK R i) w)), vI (nI w)] [] I1 L := by
    intro b
    induction b with
    | zero =>
      intro w hw
      refine r_Rg_timesOf_25 ?_
      rw [hc1.1.2.1]
      refine ⟨fun _ => ⟨_, rfl, ?_⟩, fun q => absurd (nI_le (show rW R ≤ w by omega) (by omega)) q⟩
      rw [show w = rW R by omega]
      exact fin
    | succ b ih =>
      intro w hw
      have nxt := ih (w + 1) (by omega)
      simp only [sbN] at nxt
      refine r_Rg_timesOf_25 ?_
      rw [hc1.1.2.1, bit_1 hk (by omega), nI_1]
      refine ⟨fun q => absurd q (nI_ge (show w < rW R by omega) (by omega)), fun _ => ?_⟩
      by_cases e : (rgK R i).testBit w = true
      · rw [if_pos e] at nxt ⊢
        refine ⟨fun q => absurd q (by decide), fun _ => c_Go_timeReckoned (by omega) (by omega) ?_⟩
        rw [(ht1 w (by omega)).1, (tN_ok hR (show w < rW R by omega) hm).1, nI_add]
        exact nxt
      · rw [if_neg e] at nxt ⊢
        exact ⟨fun _ => nxt, fun q => absurd rfl q⟩
  exact key (rW R) 0 (by omega)
theorem c_Rg_lagsOf0 {k : Nat} {x : Int32} {K : Int32 → MI → ML → Prop} (hd : 2 ≤ d) (hR : WF R) (hA : RoadA I 0 R) (hk : k < 1024) (hx : ∀ K' : Int32 → MI → ML → Prop, K' (nI k) I L → CI 1 m_Rg_ringAt [vR 448 0, vI x] I L K') (h : K (nI (rgL R k)) I L) : CI d m_Rg_lagsOf [vR 448 0, vI x] I L K := by
  have hW := hR.2.1
  refine toCI (n := 1) hd (r_Rg_lagsOf_0 (hx _ ?_))
  have key : ∀ (b w : Nat), w + b = rW R → XX (1 + 1) m_Rg_lagsOf (fun r I' L' => ∃ x, r = some (vI x) ∧ K x I' L') 11 [vR 448 0, vD, vI (nI k), vI (nI (sbN (rl R) k w)), vI (nI w)] [] I L := by
    intro b
    induction b with
    | zero =>
      intro w hw
      refine r_Rg_lagsOf_11 ?_
      rw [hA.2.1]
      refine ⟨fun _ => ⟨_, rfl, ?_⟩, fun q => absurd (nI_le (show rW R ≤ w by omega) (by omega)) q⟩
      rw [show w = rW R by omega]
      exact h
    | succ b ih =>
      intro w hw
      have nxt := ih (w + 1) (by omega)
      simp only [sbN] at nxt
      obtain ⟨_, _, _, a4⟩ := hA.2.2.2.2.2.1 w (by omega)
      refine r_Rg_lagsOf_11 ?_
      rw [hA.2.1, bit_1 hk (by omega), nI_1]
      refine ⟨fun q => absurd q (nI_ge (show w < rW R by omega) (by omega)), fun _ => ?_⟩
      by_cases e : k.testBit w = true
      · rw [if_pos e] at nxt ⊢
        refine ⟨fun q => absurd q (by decide), fun _ => c_Road_lagOf (by omega) (by omega) ?_⟩
        rw [a4, nI_add]
        exact nxt
      · rw [if_neg e] at nxt ⊢
        exact ⟨fun _ => nxt, fun q => absurd rfl q⟩
  exact key (rW R) 0 (by omega)
theorem c_Rg_lagsOf {i : Nat} {K : Int32 → MI → ML → Prop} (hd : 2 ≤ d) (hR : WF R) (hA : RoadA I 0 R) (hr : RgA I R) (hi : i < (DL R).length) (h : K (nI (rgL R (rgK R i))) I L) : CI d m_Rg_lagsOf [vR 448 0, vI (nI i)] I L K := c_Rg_lagsOf0 hd hR hA (Rng_1k hR (rgK_R hR hi)) (fun _ hK => c_Rg_ringAt (by omega) hR hr hi hK) h
theorem c_Rg_lagsOfN {K : Int32 → MI → ML → Prop} (hd : 2 ≤ d) (hR : WF R) (hA : RoadA I 0 R) (h : K 0 I L) : CI d m_Rg_lagsOf [vR 448 0, vI (-1)] I L K := c_Rg_lagsOf0 (k := 0) hd hR hA (by omega) (fun _ hK => c_Rg_ringAtN (by omega) hK) (by unfold rgL; rw [sb_0]; exact h)
end FindC
