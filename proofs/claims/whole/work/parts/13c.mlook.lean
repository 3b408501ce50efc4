/-! muds, look of the reference -/
theorem bit_t2 : ((List.range 10).all fun o => (List.range 1024).all fun k => decide ((((nI k).toInt64 >>> ((nI o).toInt64 &&& 63)) &&& (1 : Int64)) = if k.testBit o = true then 1 else 0)) = true := by decide +kernel
theorem bit_2 {k o : Nat} (hk : k < 1024) (ho : o < 10) : (((nI k).toInt64 >>> ((nI o).toInt64 &&& 63)) &&& (1 : Int64)) = if k.testBit o = true then 1 else 0 := of_decide_eq_true (List.all_eq_true.mp (List.all_eq_true.mp bit_t2 o (List.mem_range.mpr ho)) k (List.mem_range.mpr hk))
def F39 (I : MI) (F : Nat → Nat → Int32) (C m : Nat) : Prop := ∀ o c, o < m → c < C → I 739 0 (6 * o + c) = F o c
section LookM
variable {d : Nat} {I : MI} {L : ML} {R : RD} {s : SA} {P : List SA}
theorem c_M_isIn {k o : Nat} {K : Int32 → MI → ML → Prop} (hd : 1 ≤ d) (hk : k < 1024) (ho : o < 10) (h1 : k.testBit o = true → K 1 I L) (h0 : ¬ k.testBit o = true → K 0 I L) : CI d m_M_isIn [vL (nI k).toInt64, vI (nI o)] I L K := by
  refine toCI (n := 0) hd (r_M_isIn_0 ?_)
  rw [bit_2 hk ho, cmp_eq]
  by_cases e : k.testBit o = true
  · rw [if_pos e]
    exact ⟨fun q => absurd rfl q, fun _ => ⟨_, rfl, h1 e⟩⟩
  · rw [if_neg e]
    exact ⟨fun _ => ⟨_, rfl, h0 e⟩, fun q => absurd (by decide) q⟩
theorem c_M_noSeen {T : Nat → TA} {a c : Int32} {K : Int32 → MI → ML → Prop} (hd : 3 ≤ d) (hO : CoO R s P) (hc : CoM I R s P) (hT : tsM I L T) (h2 : ¬ (is3 a ∧ isC R c) → K (-2) I L) (h6 : is3 a → isC R c → T a.toInt.toNat = none → K (-6) I L) (h4 : ∀ so n f, is3 a → isC R c → T a.toInt.toNat = some (so, n, f) → ¬ (1 ≤ n ∧ n ≤ 8) → K (-4) I L) (h3 : ∀ so n f, is3 a → isC R c → T a.toInt.toNat = some (so, n, f) → 1 ≤ n → n ≤ 8 → ngP f n → K (-3) I L) (h1 : ∀ so n f, is3 a → isC R c → T a.toInt.toNat = some (so, n, f) → 1 ≤ n → n ≤ 8 → ¬ ngP f n → K 0 I L) : CI d m_M_noSeen [vR 704 0, vI a, vI c] I L K := by
  have hR := hO.1
  have ea := Int32.toInt_toInt64 a
  have ec := Int32.toInt_toInt64 c
  have c0 : (0 : Int64).toInt = 0 := rfl
  have c1 : (1 : Int64).toInt = 1 := rfl
  have c3 : (3 : Int64).toInt = 3 := rfl
  have c8 : (8 : Int64).toInt = 8 := rfl
  refine toCI (n := 2) hd (r_M_noSeen_0 (c_M_within (by omega) (fun g1 g2 => ⟨fun q => absurd q (by decide), fun _ => ?_⟩) (fun g => ⟨fun _ => ⟨_, rfl, h2 (fun z => g (by rw [ea, c0, c3]; exact z.1))⟩, fun q => absurd rfl q⟩)))
  rw [ea, c0] at g1
  rw [ea, c3] at g2
  refine c_M_isCoach (by omega) hR hc.1 (fun g3 g4 => ⟨fun _ => ?_, fun q => absurd (by decide) q⟩) (fun g => ⟨fun q => absurd rfl q, fun _ => ⟨_, rfl, h2 (fun z => g (by rw [ec]; exact z.2))⟩⟩)
  rw [ec] at g3 g4
  have ha4 : a.toInt.toNat < 4 := by omega
  refine c_M_noTray (t := T a.toInt.toNat) (by omega) (fun z => hT _ ha4) (fun g => absurd ⟨g1, g2⟩ g) (fun g e => ⟨fun q => absurd q (by decide), fun _ => ⟨_, rfl, h6 g ⟨g3, g4⟩ e⟩⟩) (fun so n f g e hso hn => ⟨fun _ => ?_, fun q => absurd rfl q⟩)
  have hTr := (hT a.toInt.toNat ha4).2
  rw [e] at hTr
  obtain ⟨t1, t2, t3⟩ := hTr
  have t2 : I 743 0 a.toInt.toNat = nI n := t2
  have t3 : ∀ k, k < n → L 744 0 (40 * a.toInt.toNat + k) = f k := t3
  have e2 := ge_nI g1
  have f4 := h4 so n f g ⟨g3, g4⟩ e
  have f3 := h3 so n f g ⟨g3, g4⟩ e
  have f1 := h1 so n f g ⟨g3, g4⟩ e
  clear h1 h2 h3 h4 h6 g1 g2 g e ea
  generalize a.toInt.toNat = a' at *
  subst e2
  rw [cl_n (by omega), t2]
  have en : (nI n).toInt64.toInt = n := by rw [nI_l (by omega), pk_lT (by omega)]
  refine ⟨vin ha4 (by omega), c_M_within (by omega) (fun g5 g6 => ⟨fun _ => ?_, fun q => absurd (by decide) q⟩) (fun g => ⟨fun q => absurd rfl q, fun _ => ⟨_, rfl, f4 (fun z => g (by rw [en, c1, c8]; omega))⟩⟩)⟩
  rw [en, c1] at g5
  rw [en, c8] at g6
  have n1 : 1 ≤ n := by omega
  have n8 : n ≤ 8 := by omega
  have key : ∀ (l k : Nat), k + l = n → (∀ i, i < k → ¬ (f i).toInt < 0) → XX (2 + 1) m_M_noSeen (fun r I' L' => ∃ x, r = some (vI x) ∧ K x I' L') 59 [vR 704 0, vI (nI a'), vD, vD, vI (nI k)] [] I L := by
    intro l
    induction l with
    | zero =>
      intro k hk hg
      refine r_M_noSeen_59 ?_
      rw [cl_n (by omega), t2]
      exact ⟨vin ha4 (by omega), fun _ => ⟨_, rfl, f1 n1 n8 (fun ⟨i, hi, hneg⟩ => hg i (by omega) hneg)⟩, fun q => absurd (nI_le (show n ≤ k by omega) (by omega)) q⟩
    | succ l ih =>
      intro k hk hg
      have eix : ((40 : Int32) * nI a') + nI k = nI (40 * a' + k) := by
        have x1 : (40 : Int32) * nI a' = nI (40 * a') := pk_mul 40 a'
        rw [x1, nI_add]
      refine r_M_noSeen_59 ?_
      rw [cl_n (by omega), t2, eix, cl_n (by omega), t3 k (by omega), nI_1]
      refine ⟨vin ha4 (by omega), fun q => absurd q (nI_ge (show k < n by omega) (by omega)), fun _ => ⟨vin (by omega) (by omega), fun q => ih (k + 1) (by omega) (fun i hi => ?_), fun q => ⟨_, rfl, f3 n1 n8 ⟨k, by omega, ?_⟩⟩⟩⟩
      · by_cases y : i = k
        · subst y
          have := fun z => Int32.not_lt.mpr q (cmp_lt.mpr z)
          exact this
        · exact hg i (by omega)
      · exact cmp_lt.mp (Int32.not_le.mp q)
  exact key n 0 (by omega) (fun i hi => by omega)
theorem c_M_mudsOf {so n c j : Nat} {f : Nat → Int64} {K : Int32 → MI → ML → Prop} (hd : 7 ≤ d) (hO : CoO R s P) (hc : CoM I R s P) (hT : TrM I L j (some (so, n, f))) (hj : j < 4) (hn : n ≤ 40) (hcl : c < rC R) (h : ∀ I', CoM I' R s P → Same grS I I' → ofl I I' → K (nI (mdN R s c n f)) I' L) : CI d m_M_mudsOf [vR 704 0, vI (nI j), vI (nI c)] I L K := by
  have hR := hO.1
  have hC := hR.1
  obtain ⟨t1, t2, t3⟩ := hT
  have t2 : I 743 0 j = nI n := t2
  have t3 : ∀ k, k < n → L 744 0 (40 * j + k) = f k := t3
  refine toCI (n := 6) hd (r_M_mudsOf_0 ?_)
  have key : ∀ (l m : Nat) (J : MI), m + l = 10 → CoM J R s P → Same grS I J → ofl I J → XX (6 + 1) m_M_mudsOf (fun r I' L' => ∃ x, r = some (vI x) ∧ K x I' L') 5 [vR 704 0, vI (nI j), vI (nI c), vI (bmN (fun m => snB R s c f m n) m), vI (nI m), vD, vD] [] J L := by
    intro l
    induction l with
    | zero =>
      intro m J hm hcJ hS ho
      have em : m = 10 := by omega
      subst em
      refine r_M_mudsOf_5 ⟨fun _ => ⟨_, rfl, ?_⟩, fun q => absurd (by decide) q⟩
      rw [(bmK_ok _ 10 (by omega)).2]
      exact h J hcJ hS ho
    | succ l ih =>
      intro m J hm hcJ hS ho
      refine r_M_mudsOf_5 ⟨fun q => absurd q (nle_c (m := 10) (by omega) (by omega)), fun _ => c_M_begins (s := s) (m := m) (by omega) hR hcJ.1 (by omega) hcJ.2.1 (fun I1 hG1 _ ho1 hS1 => ?_)⟩
      have n1 := ih (m + 1)
      simp only [bmN] at n1
      have hok := mud_Ok (m := m) hO.2.1 (by omega)
      have inn : ∀ (b k : Nat) (J1 : MI), k + b = n → MGr J1 R k (itN R (mudS s (nI m)) k) → Same grS I J1 → ofl I J1 → XX (6 + 1) m_M_mudsOf (fun r I' L' => ∃ x, r = some (vI x) ∧ K x I' L') 24 [vR 704 0, vI (nI j), vI (nI c), vI (bmN (fun m => snB R s c f m n) m), vI (nI m), vI (if snB R s c f m k = true then 1 else 0), vI (nI k)] [] J1 L := by
        intro b
        induction b with
        | zero =>
          intro k J1 hk hG hS1 ho1
          have ek : n = k := by omega
          have n3 : J1 743 0 = I 743 0 := gr_no hS1 (by decide)
          have n6 : J1 706 0 = I 706 0 := gr_no hS1 (by decide)
          refine r_M_mudsOf_24 ?_
          rw [cl_n (by omega), n3, t2, nI_1]
          refine ⟨vin hj (by omega), fun _ => ?_, fun q => absurd (nI_le (show n ≤ k by omega) (by omega)) q⟩
          have n2 := n1 J1 (by omega) (CoM_cg hR hc n6) hS1 ho1
          rw [← ek]
          by_cases e : snB R s c f m n = true
          · rw [if_pos e] at n2 ⊢
            exact ⟨fun q => absurd q (by decide), fun _ => n2⟩
          · rw [if_neg e] at n2 ⊢
            rw [Int32.or_zero]
            exact ⟨fun _ => n2, fun q => absurd rfl q⟩
        | succ b ihb =>
          intro k J1 hk hG hS1 ho1
          have n3 : J1 743 0 = I 743 0 := gr_no hS1 (by decide)
          have n6 : J1 706 0 = I 706 0 := gr_no hS1 (by decide)
          have eix : ((40 : Int32) * nI j) + nI k = nI (40 * j + k) := by
            have x1 : (40 : Int32) * nI j = nI (40 * j) := pk_mul 40 j
            rw [x1, nI_add]
          refine r_M_mudsOf_24 ?_
          rw [cl_n (by omega), n3, t2, eix, cl_n (by omega), nI_1 (a := k)]
          refine ⟨vin hj (by omega), fun q => absurd q (nI_ge (show k < n by omega) (by omega)), fun _ => ?_⟩
          refine c_M_goes (s := itN R (mudS s (nI m)) k) (by omega) hR (by rw [n6]; exact hc.1) (by omega) hG ((itN_Ok hR hok k).1.mono (by omega)) (fun J2 hG2 _ ho2 hS2 => c_M_lateAt (by omega) (by omega) (by omega) ⟨vin (by omega) (by omega), ?_⟩)
          have hG2' : MGr J2 R (k + 1) (itN R (mudS s (nI m)) (k + 1)) := hG2
          rw [(hG2'.1 c hcl).1, t3 k (by omega)]
          have n2 := ihb (k + 1) J2 (by omega) hG2' (hS1.tr (gs_gr hS2)) (ho1.tr ho2)
          have eb : snB R s c f m (k + 1) = (snB R s c f m k && decide (((itN R (mudS s (nI m)) (k + 1)).1 c).toInt64 = f k)) := rfl
          rw [eb] at n2
          refine ⟨fun q => ?_, fun q => ?_⟩
          · rw [decide_eq_false (fun z => q (cmp_eq.mpr z)), Bool.and_false] at n2
            rw [Int32.and_zero]
            exact n2
          · rw [decide_eq_true (cmp_eq.mp (Classical.not_not.mp q)), Bool.and_true] at n2
            have e1 : (if snB R s c f m k = true then (1 : Int32) else 0) &&& 1 = if snB R s c f m k = true then 1 else 0 := by split <;> decide
            rw [e1]
            exact n2
      have n2 := inn n 0 I1 (by omega) hG1 (hS.tr hS1) (ho.tr ho1)
      exact n2
  exact key 10 0 I (by omega) hc Same.rf (fun _ _ _ => rfl)
theorem m_muds {T : Nat → TA} {a c : Int32} {K : Int32 → MI → ML → Prop} (hd : 8 ≤ d) (hO : CoO R s P) (hc : CoM I R s P) (hT : tsM I L T) (h2 : ¬ (is3 a ∧ isC R c) → K (-2) (ui I 704 0 0 0) L) (h6 : is3 a → isC R c → T a.toInt.toNat = none → K (-6) (ui I 704 0 0 0) L) (h4 : ∀ so n f, is3 a → isC R c → T a.toInt.toNat = some (so, n, f) → ¬ (1 ≤ n ∧ n ≤ 8) → K (-4) (ui I 704 0 0 0) L) (h3 : ∀ so n f, is3 a → isC R c → T a.toInt.toNat = some (so, n, f) → 1 ≤ n → n ≤ 8 → ngP f n → K (-3) (ui I 704 0 0 0) L) (h1 : ∀ so n f, is3 a → isC R c → T a.toInt.toNat = some (so, n, f) → 1 ≤ n → n ≤ 8 → ¬ ngP f n → ∀ I', CoM I' R s P → mFr I I' → K (nI (mdN R s c.toInt.toNat n f)) I' L) : CI d m_M_muds [vR 704 0, vI a, vI c] I L K := by
  have hR := hO.1
  have hc0 : CoM (ui I 704 0 0 0) R s P := CoM_cg hR hc t0_6
  have hT0 : tsM (ui I 704 0 0 0) L T := fun i hi => ⟨(hT i hi).1, TrM_F (hT i hi).2 t0_F⟩
  have m2 : ¬ (-2 : Int32) = 0 := by decide
  have m3 : ¬ (-3 : Int32) = 0 := by decide
  have m4 : ¬ (-4 : Int32) = 0 := by decide
  have m6 : ¬ (-6 : Int32) = 0 := by decide
  refine toCI (n := 7) hd (r_M_muds_0 (c_M_noSeen (by omega) hO hc0 hT0 (fun g => ⟨fun q => absurd q m2, fun _ => ⟨_, rfl, h2 g⟩⟩) (fun g1 g e => ⟨fun q => absurd q m6, fun _ => ⟨_, rfl, h6 g1 g e⟩⟩) (fun so n f g1 g e z => ⟨fun q => absurd q m4, fun _ => ⟨_, rfl, h4 so n f g1 g e z⟩⟩) (fun so n f g1 g e z1 z2 z3 => ⟨fun q => absurd q m3, fun _ => ⟨_, rfl, h3 so n f g1 g e z1 z2 z3⟩⟩) (fun so n f g1 g e z1 z2 z3 => ⟨fun _ => ?_, fun q => absurd rfl q⟩)))
  have fin := h1 so n f g1 g e z1 z2 z3
  obtain ⟨x1, x2⟩ := g1
  have hTr := (hT0 a.toInt.toNat (by omega)).2
  rw [e] at hTr
  obtain ⟨y1, y2⟩ := g
  have e1 := ge_nI y1
  have e2 := ge_nI x1
  have b1 : c.toInt.toNat < rC R := by omega
  have b2 : a.toInt.toNat < 4 := by omega
  clear h1 h2 h3 h4 h6 e hT hT0
  generalize c.toInt.toNat = c' at *
  generalize a.toInt.toNat = a' at *
  subst e1 e2
  exact c_M_mudsOf (by omega) hO hc0 hTr b2 (by omega) b1 (fun I' hc' hS' ho' => ⟨_, rfl, fin I' hc' ⟨t0_F.tr (gr_F0 hS' ho'), by rw [ho' 0 (by decide) (by decide), ui_s]⟩⟩)
theorem c_M_mostAlike {k c C : Nat} {F : Nat → Nat → Int32} {K : Int32 → MI → ML → Prop} (hd : 2 ≤ d) (hk : k < 1024) (hc : c < C) (hC : C ≤ 6) (hF : F39 I F C 10) (h : K (nI (moN k F c 10)) I L) : CI d m_M_mostAlike [vR 704 0, vI (nI k), vI (nI c)] I L K := by
  refine toCI (n := 1) hd (r_M_mostAlike_0 ?_)
  have ix : ∀ o, ((6 : Int32) * nI o) + nI c = nI (6 * o + c) := fun o => by
    have : (6 : Int32) * nI o = nI (6 * o) := pk_mul 6 o
    rw [this, nI_add]
  have out : ∀ (l m : Nat), m + l = 10 → XX (1 + 1) m_M_mostAlike (fun r I' L' => ∃ x, r = some (vI x) ∧ K x I' L') 5 [vR 704 0, vI (nI k), vI (nI c), vI (nI (moN k F c m)), vI (nI m), vD, vD] [] I L := by
    intro l
    induction l with
    | zero =>
      intro m hm
      have em : m = 10 := by omega
      subst em
      exact r_M_mostAlike_5 ⟨fun _ => ⟨_, rfl, h⟩, fun q => absurd (by decide) q⟩
    | succ l ih =>
      intro m hm
      refine r_M_mostAlike_5 ⟨fun q => absurd q (nle_c (m := 10) (by omega) (by omega)), fun _ => ?_⟩
      have nxt := ih (m + 1) (by omega)
      simp only [moN] at nxt
      have h1 := moN_le (k := k) (F := F) (c := c) m
      have h2 := alN_le (k := k) (F := F) (c := c) (m := m) 10
      have inn : ∀ (b o : Nat), o + b = 10 → XX (1 + 1) m_M_mostAlike (fun r I' L' => ∃ x, r = some (vI x) ∧ K x I' L') 18 [vR 704 0, vI (nI k), vI (nI c), vI (nI (moN k F c m)), vI (nI m), vI (nI (if k.testBit m = true then alN k F c m o else 0)), vI (nI o)] [] I L := by
        intro b
        induction b with
        | zero =>
          intro o ho
          have eo : o = 10 := by omega
          subst eo
          refine r_M_mostAlike_18 ⟨fun _ => ?_, fun q => absurd (by decide) q⟩
          rw [nI_1]
          by_cases e : k.testBit m = true
          · rw [if_pos e] at nxt ⊢
            refine ⟨fun q => ?_, fun q => ?_⟩
            · have := (nI_leI (by omega) (by omega)).mp q
              rw [Nat.max_eq_left (by omega)] at nxt
              exact nxt
            · have : ¬ alN k F c m 10 ≤ moN k F c m := fun z => q (nI_le z (by omega))
              rw [Nat.max_eq_right (by omega)] at nxt
              exact nxt
          · rw [if_neg e] at nxt ⊢
            exact ⟨fun _ => nxt, fun q => absurd (nI_le (Nat.zero_le _) (by omega)) q⟩
        | succ b ihb =>
          intro o ho
          have n2 := ihb (o + 1) (by omega)
          simp only [alN] at n2
          have z0 : ∀ x : Nat, nI x + (0 : Int32) = nI x := fun x => Int32.add_zero _
          refine r_M_mostAlike_18 ⟨fun q => absurd q (nle_c (m := 10) (by omega) (by omega)), fun _ => c_M_isIn (by omega) hk (by omega) (fun e => ?_) (fun e => ?_)⟩
          · rw [if_pos e] at n2
            rw [if_pos e, nI_1]
            refine ⟨fun q => absurd q (by decide), fun _ => c_M_isIn (by omega) hk (by omega) (fun e2 => ⟨fun q => absurd q (by decide), fun _ => ?_⟩) (fun e2 => ⟨fun _ => ?_, fun q => absurd rfl q⟩)⟩
            · rw [ix o, ix m, cl_n (by omega), cl_n (by omega), hF o c (by omega) hc, hF m c (by omega) hc]
              refine ⟨vin (by omega) (by omega), vin (by omega) (by omega), fun q => ?_, fun q => ?_⟩
              · rw [if_neg (fun z => q z.2.symm), Nat.add_zero] at n2
                rw [z0]
                exact n2
              · rw [if_pos ⟨e2, (Classical.not_not.mp q).symm⟩] at n2
                rw [nI_1]
                exact n2
            · rw [if_neg (fun z => e2 z.1), Nat.add_zero] at n2
              rw [z0]
              exact n2
          · rw [if_neg e] at n2
            rw [if_neg e]
            refine ⟨fun _ => ?_, fun q => absurd rfl q⟩
            rw [z0, nI_1]
            exact n2
      have := inn 10 0 (by omega)
      have e0 : (if k.testBit m = true then alN k F c m 0 else 0) = 0 := by split <;> rfl
      rw [e0] at this
      exact this
  exact out 10 0 (by omega)
end LookM
