/-! the slowest rings, of the program -/
theorem and_n (a b : Nat) : nI a &&& nI b = nI (a &&& b) := by
  apply Int32.toBitVec_inj.1
  show BitVec.ofNat 32 a &&& BitVec.ofNat 32 b = BitVec.ofNat 32 (a &&& b)
  apply BitVec.eq_of_getLsbD_eq
  intro i hi
  simp [BitVec.getLsbD_ofNat, hi, Nat.testBit_and]
theorem or_n (a b : Nat) : nI a ||| nI b = nI (a ||| b) := by
  apply Int32.toBitVec_inj.1
  show BitVec.ofNat 32 a ||| BitVec.ofNat 32 b = BitVec.ofNat 32 (a ||| b)
  apply BitVec.eq_of_getLsbD_eq
  intro i hi
  simp [BitVec.getLsbD_ofNat, hi, Nat.testBit_or]
theorem and_0 {k o : Nat} (hk : k < 1024) : nI k &&& nI o = 0 ↔ k &&& o = 0 := by
  rw [and_n]
  have : k &&& o ≤ k := Nat.and_le_left
  exact ⟨fun z => (nI_eq (b := 0) (by omega) (by omega)).mp z, fun z => by rw [z]; rfl⟩
theorem fr_tr {a b c d e f : Nat} (hd : 0 < d) (h1 : a * d ≤ c * b) (h2 : c * f ≤ e * d) : a * f ≤ e * b := by
  refine Nat.le_of_mul_le_mul_left (c := d) ?_ hd
  have e1 : d * (a * f) = a * d * f := by rw [← Nat.mul_assoc, Nat.mul_comm d a]
  have e2 : c * b * f = c * f * b := by rw [Nat.mul_assoc, Nat.mul_comm b f, ← Nat.mul_assoc]
  have e3 : d * (e * b) = e * d * b := by rw [← Nat.mul_assoc, Nat.mul_comm d e]
  have h3 := Nat.mul_le_mul_right f h1
  have h4 := Nat.mul_le_mul_right b h2
  omega
/-- the pace of one ring is at most that of another -/
def ple (R : RD) (m k1 k2 : Nat) : Prop := rgT R m k1 * rgL R k2 ≤ rgT R m k2 * rgL R k1
theorem ple_tr {R : RD} (hR : WF R) {m k1 k2 k3 : Nat} (h : Rng R k2) (h1 : ple R m k1 k2) (h2 : ple R m k2 k3) : ple R m k1 k3 := fr_tr (rgL_pos hR h) h1 h2
def mxP (R : RD) (m o k : Nat) : Prop := Rng R k ∧ k &&& o = 0 ∧ ∀ k', Rng R k' → k' &&& o = 0 → ple R m k' k
/-- the program's choice of a slowest ring -/
def slP (R : RD) (m o : Nat) (x : Int32) : Prop := (x = -1 ∧ ∀ k, Rng R k → k &&& o ≠ 0) ∨ ∃ i, i < (DL R).length ∧ x = nI i ∧ mxP R m o (rgK R i)
theorem inN_lt {R : RD} (hR : WF R) {k : Nat} : ∀ n, n ≤ rW R → inN (rt R) k n < 64
  | 0, _ => by show 0 < 64; omega
  | n + 1, h => by
    have ih := inN_lt hR (k := k) n (by omega)
    have h2 := (hR.2.2.1 n (by omega)).2.1
    have := hR.1
    simp only [inN]
    split
    · exact Nat.or_lt_two_pow (n := 6) ih (Nat.pow_lt_pow_right (by omega) (by omega))
    · exact ih
def whP (R : RD) (m : Nat) (x : Int32) : Prop := ∃ who, who < 64 ∧ x = nI who ∧ ∀ c, who.testBit c = true ↔ ∃ k, mxP R m 0 k ∧ (inN (rt R) k (rW R)).testBit c = true
theorem eq_tb {a b : Nat} (h : ∀ i, a.testBit i = true ↔ b.testBit i = true) : a = b := by
  refine Nat.eq_of_testBit_eq (fun i => ?_)
  have := h i
  cases x : a.testBit i <;> cases y : b.testBit i
  · rfl
  · have := this.mpr y; rw [x] at this; exact this
  · have := this.mp x; rw [y] at this; exact this.symm
  · rfl
theorem whP_1 {R : RD} {m : Nat} {x y : Int32} (h1 : whP R m x) (h2 : whP R m y) : x = y := by
  obtain ⟨a, _, e1, c1⟩ := h1
  obtain ⟨b, _, e2, c2⟩ := h2
  rw [e1, e2, eq_tb (fun i => (c1 i).trans (c2 i).symm)]
def prP (R : RD) (m : Nat) (x : Int32) : Prop := ((∀ k, ¬ Rng R k) ∧ x = 1) ∨ ∃ k, mxP R m 0 k ∧ x = nI (max 1 ((rgT R m k + rgL R k - 1) / rgL R k))
def swP (R : RD) (m : Nat) (w x : Int32) : Prop := ((∀ k, ¬ Rng R k) ∧ x = -1) ∨ ∃ k, mxP R m 0 k ∧ x = nI ((if w = 0 then rgT R m k else rgL R k) / Nat.gcd (rgT R m k) (rgL R k))
theorem and_z {k : Nat} : k &&& 0 = 0 := Nat.and_zero k
theorem fr_eq {a b c d : Nat} (hb : 0 < b) (hd : 0 < d) (h : a * d = c * b) : a / Nat.gcd a b = c / Nat.gcd c d ∧ b / Nat.gcd a b = d / Nat.gcd c d := by
  have g1 : 0 < Nat.gcd a b := Nat.gcd_pos_of_pos_right a hb
  have g2 : 0 < Nat.gcd c d := Nat.gcd_pos_of_pos_right c hd
  have k1 : Nat.gcd a b * d = b * Nat.gcd c d := by
    have x1 : Nat.gcd a b * d = Nat.gcd (a * d) (b * d) := (Nat.gcd_mul_right a d b).symm
    have x2 : b * Nat.gcd c d = Nat.gcd (b * c) (b * d) := (Nat.gcd_mul_left b c d).symm
    rw [x1, x2, h, Nat.mul_comm c b]
  have k2 : Nat.gcd a b * c = a * Nat.gcd c d := by
    have x1 : Nat.gcd a b * c = Nat.gcd (a * c) (b * c) := (Nat.gcd_mul_right a c b).symm
    have x2 : a * Nat.gcd c d = Nat.gcd (a * c) (a * d) := (Nat.gcd_mul_left a c d).symm
    rw [x1, x2, h, Nat.mul_comm c b]
  obtain ⟨p, ep⟩ := Nat.gcd_dvd_left a b
  obtain ⟨q, eq⟩ := Nat.gcd_dvd_right a b
  obtain ⟨r, er⟩ := Nat.gcd_dvd_left c d
  obtain ⟨t, et⟩ := Nat.gcd_dvd_right c d
  generalize Nat.gcd a b = g at *
  generalize Nat.gcd c d = g' at *
  have e1 : a / g = p := by rw [ep, Nat.mul_div_cancel_left p g1]
  have e2 : b / g = q := by rw [eq, Nat.mul_div_cancel_left q g1]
  have e3 : c / g' = r := by rw [er, Nat.mul_div_cancel_left r g2]
  have e4 : d / g' = t := by rw [et, Nat.mul_div_cancel_left t g2]
  rw [e1, e2, e3, e4]
  constructor
  · refine (Nat.eq_of_mul_eq_mul_left (n := g * g') (Nat.mul_pos g1 g2) ?_)
    have : g * (g' * r) = g * p * g' := by rw [← er, ← ep]; exact k2
    rw [Nat.mul_assoc g g' r, this, Nat.mul_assoc g g' p, Nat.mul_assoc g p g', Nat.mul_comm g' p]
  · refine (Nat.eq_of_mul_eq_mul_left (n := g * g') (Nat.mul_pos g1 g2) ?_)
    have : g * (g' * t) = g * q * g' := by rw [← et, ← eq]; exact k1
    rw [Nat.mul_assoc g g' t, this, Nat.mul_assoc g g' q, Nat.mul_assoc g q g', Nat.mul_comm g' q]
theorem mx_eq {R : RD} {m o k1 k2 : Nat} (h1 : mxP R m o k1) (h2 : mxP R m o k2) : rgT R m k1 * rgL R k2 = rgT R m k2 * rgL R k1 := Nat.le_antisymm (h2.2.2 k1 h1.1 h1.2.1) (h1.2.2 k2 h2.1 h2.2.1)
theorem swP_1 {R : RD} (hR : WF R) {m : Nat} {w x y : Int32} (h1 : swP R m w x) (h2 : swP R m w y) : x = y := by
  rcases h1 with ⟨n1, e1⟩ | ⟨k1, m1, e1⟩ <;> rcases h2 with ⟨n2, e2⟩ | ⟨k2, m2, e2⟩
  · rw [e1, e2]
  · exact absurd m2.1 (n1 k2)
  · exact absurd m1.1 (n2 k1)
  · have := fr_eq (rgL_pos hR m1.1) (rgL_pos hR m2.1) (mx_eq m1 m2)
    rw [e1, e2]
    by_cases z : w = 0
    · rw [if_pos z, if_pos z, this.1]
    · rw [if_neg z, if_neg z, this.2]
/-- rounded up -/
theorem cl_eq {a b c d : Nat} (hb : 0 < b) (hd : 0 < d) (h : a * d = c * b) : (a + b - 1) / b = (c + d - 1) / d := by
  have up : ∀ a b c d : Nat, 0 < b → 0 < d → a * d = c * b → (a + b - 1) / b ≤ (c + d - 1) / d := by
    intro a b c d hb hd h
    rw [Nat.div_le_iff_le_mul_add_pred hb]
    generalize hx : (c + d - 1) / d = x
    have hc : c ≤ x * d := by
      have h1 := Nat.div_add_mod (c + d - 1) d
      have h2 := Nat.mod_lt (c + d - 1) hd
      rw [hx, Nat.mul_comm] at h1
      omega
    have ha : a * d ≤ (x * b) * d := by
      rw [h]
      have := Nat.mul_le_mul_right b hc
      rw [Nat.mul_assoc, Nat.mul_comm d b, ← Nat.mul_assoc] at this
      exact this
    have := Nat.le_of_mul_le_mul_right ha hd
    rw [Nat.mul_comm b x]
    omega
  exact Nat.le_antisymm (up a b c d hb hd h) (up c d a b hd hb h.symm)
theorem prP_1 {R : RD} (hR : WF R) {m : Nat} {x y : Int32} (h1 : prP R m x) (h2 : prP R m y) : x = y := by
  rcases h1 with ⟨n1, e1⟩ | ⟨k1, m1, e1⟩ <;> rcases h2 with ⟨n2, e2⟩ | ⟨k2, m2, e2⟩
  · rw [e1, e2]
  · exact absurd m2.1 (n1 k2)
  · exact absurd m1.1 (n2 k1)
  · rw [e1, e2, cl_eq (rgL_pos hR m1.1) (rgL_pos hR m2.1) (mx_eq m1 m2)]
section SlowC
variable {d : Nat} {I : MI} {L : ML} {R : RD} {s : SA} {P : List SA}
theorem c_Rg_isBelow {i j m : Nat} {K : Int32 → MI → ML → Prop} (hd : 6 ≤ d) (hO : CoO R s P) (hc : CoC I R s P) (hr : RgA I R) (em : s.2.2.2.1 = nI m) (hm : m ≤ 9) (hi : i < (DL R).length) (hj : j < (DL R).length) (h1 : ¬ ple R m (rgK R j) (rgK R i) → ∀ I', CoC I' R s P → RgA I' R → Same goS I I' → K 1 I' L) (h0 : ple R m (rgK R j) (rgK R i) → ∀ I', CoC I' R s P → RgA I' R → Same goS I I' → K 0 I' L) : CI d m_Rg_isBelow [vR 448 0, vI (nI i), vI (nI j)] I L K := by
  have hR := hO.1
  have hlen := DL_len hR
  have t1 := rgT_le hR (m := m) (k := rgK R i) hm
  have t2 := rgT_le hR (m := m) (k := rgK R j) hm
  have l1 := rgL_le hR (k := rgK R i)
  have l2 := rgL_le hR (k := rgK R j)
  have p1 := Nat.mul_le_mul t1 l2
  have p2 := Nat.mul_le_mul t2 l1
  refine toCI (n := 5) hd (r_Rg_isBelow_0 ⟨fun q => absurd q (nI_m1 (by omega)), fun _ => ⟨fun _ => ?_, fun q => absurd (nI_m1 (by omega)) q⟩⟩)
  refine c_Rg_timesOf (by omega) hO hc hr em hm hi (fun I1 hc1 hr1 hS1 => ?_)
  refine c_Rg_lagsOf (by omega) hR hc1.1 hr1 hj ?_
  refine c_Rg_timesOf (by omega) hO hc1 hr1 em hm hj (fun I2 hc2 hr2 hS2 => ?_)
  refine c_Rg_lagsOf (by omega) hR hc2.1 hr2 hi ?_
  rw [pk_mul, pk_mul]
  refine ⟨fun q => ⟨_, rfl, h0 ?_ I2 hc2 hr2 (hS1.tr hS2)⟩, fun q => ⟨_, rfl, h1 (fun z => q ?_) I2 hc2 hr2 (hS1.tr hS2)⟩⟩
  · exact (nI_leI (by omega) (by omega)).mp q
  · exact nI_le z (by omega)
theorem c_Rg_slowestWithout {o m : Nat} {K : Int32 → MI → ML → Prop} (hd : 7 ≤ d) (hO : CoO R s P) (hc : CoC I R s P) (hr : RgA I R) (em : s.2.2.2.1 = nI m) (hm : m ≤ 9) (h : ∀ x I', slP R m o x → CoC I' R s P → RgA I' R → Same goS I I' → K x I' L) : CI d m_Rg_slowestWithout [vR 448 0, vI (nI o)] I L K := by
  have hR := hO.1
  have hlen := DL_len hR
  refine toCI (n := 6) hd (r_Rg_slowestWithout_0 ?_)
  have key : ∀ (b j : Nat) (x : Int32) (J : MI), j + b = (DL R).length → ((x = -1 ∧ ∀ i, i < j → rgK R i &&& o ≠ 0) ∨ ∃ i, i < j ∧ x = nI i ∧ rgK R i &&& o = 0 ∧ ∀ i', i' < j → rgK R i' &&& o = 0 → ple R m (rgK R i') (rgK R i)) → CoC J R s P → RgA J R → Same goS I J → XX (6 + 1) m_Rg_slowestWithout (fun r I' L' => ∃ x, r = some (vI x) ∧ K x I' L') 4 [vR 448 0, vI (nI o), vI x, vI (nI j)] [] J L := by
    intro b
    induction b with
    | zero =>
      intro j x J hj hx hcJ hrJ hS
      refine r_Rg_slowestWithout_4 ?_
      rw [hrJ.1]
      refine ⟨fun _ => ⟨_, rfl, h x J ?_ hcJ hrJ hS⟩, fun q => absurd (nI_le (show (DL R).length ≤ j by omega) (by omega)) q⟩
      rcases hx with ⟨e, hx⟩ | ⟨i, hi, e, hz, hx⟩
      · refine Or.inl ⟨e, fun k hk => ?_⟩
        obtain ⟨i, hi, ei⟩ := rgK_ex hR hk
        rw [← ei]; exact hx i (by omega)
      · refine Or.inr ⟨i, by omega, e, rgK_R hR (by omega), hz, fun k hk hkz => ?_⟩
        obtain ⟨i', hi', ei⟩ := rgK_ex hR hk
        rw [← ei] at hkz ⊢; exact hx i' (by omega) hkz
    | succ b ih =>
      intro j x J hj hx hcJ hrJ hS
      have hjl : j < (DL R).length := by omega
      have hk := Rng_1k hR (rgK_R hR hjl)
      refine r_Rg_slowestWithout_4 ?_
      rw [hrJ.1]
      refine ⟨fun q => absurd q (nI_ge hjl (by omega)), fun _ => c_Rg_ringAt (by omega) hR hrJ hjl ?_⟩
      rw [nI_1]
      refine ⟨fun q => ih (j + 1) x J (by omega) ?_ hcJ hrJ hS, fun q => ?_⟩
      · have hno : rgK R j &&& o ≠ 0 := fun z => q ((and_0 hk).mpr z)
        rcases hx with ⟨e, hx⟩ | ⟨i, hi, e, hz, hx⟩
        · refine Or.inl ⟨e, fun i hi => ?_⟩
          by_cases y : i = j
          · rw [y]; exact hno
          · exact hx i (by omega)
        · refine Or.inr ⟨i, by omega, e, hz, fun i' hi' hz' => ?_⟩
          by_cases y : i' = j
          · rw [y] at hz'; exact absurd hz' hno
          · exact hx i' (by omega) hz'
      · have hyes : rgK R j &&& o = 0 := (and_0 hk).mp (Classical.not_not.mp q)
        rcases hx with ⟨e, hx⟩ | ⟨i, hi, e, hz, hx⟩
        · subst e
          refine toCI (n := 5) (by omega) (r_Rg_isBelow_0 ⟨fun _ => ⟨fun q => absurd q (nI_m1 (by omega)), fun _ => ⟨_, rfl, ⟨fun q => absurd q (by decide), fun _ => ih (j + 1) (nI j) J (by omega) (Or.inr ⟨j, by omega, rfl, hyes, fun i' hi' hz' => ?_⟩) hcJ hrJ hS⟩⟩⟩, fun q => absurd rfl q⟩)
          by_cases y : i' = j
          · rw [y]; exact Nat.le_refl _
          · exact absurd hz' (hx i' (by omega))
        · subst e
          refine c_Rg_isBelow (by omega) hO hcJ hrJ em hm (by omega) hjl (fun hp J2 hc2 hr2 hS2 => ⟨fun q => absurd q (by decide), fun _ => ih (j + 1) (nI j) J2 (by omega) (Or.inr ⟨j, by omega, rfl, hyes, fun i' hi' hz' => ?_⟩) hc2 hr2 (hS.tr hS2)⟩) (fun hp J2 hc2 hr2 hS2 => ⟨fun _ => ih (j + 1) (nI i) J2 (by omega) (Or.inr ⟨i, by omega, rfl, hz, fun i' hi' hz' => ?_⟩) hc2 hr2 (hS.tr hS2), fun q => absurd rfl q⟩)
          · by_cases y : i' = j
            · rw [y]; exact Nat.le_refl _
            · have hp' : ple R m (rgK R i) (rgK R j) := by unfold ple at hp ⊢; omega
              exact ple_tr hR (rgK_R hR (by omega)) (hx i' (by omega) hz') hp'
          · by_cases y : i' = j
            · rw [y]; exact hp
            · exact hx i' (by omega) hz'
  exact key (DL R).length 0 (-1) I (by omega) (Or.inl ⟨rfl, fun i hi => by omega⟩) hc hr Same.rf
theorem c_Rg_coachesOf {k : Nat} {K : Int32 → MI → ML → Prop} (hd : 2 ≤ d) (hR : WF R) (hA : RoadA I 0 R) (hk : k < 1024) (h : K (nI (inN (rt R) k (rW R))) I L) : CI d m_Rg_coachesOf [vR 448 0, vI (nI k)] I L K := by
  have hW := hR.2.1
  have hC := hR.1
  refine toCI (n := 1) hd (r_Rg_coachesOf_0 ?_)
  have key : ∀ (b w : Nat), w + b = rW R → XX (1 + 1) m_Rg_coachesOf (fun r I' L' => ∃ x, r = some (vI x) ∧ K x I' L') 4 [vR 448 0, vI (nI k), vI (nI (inN (rt R) k w)), vI (nI w)] [] I L := by
    intro b
    induction b with
    | zero =>
      intro w hw
      refine r_Rg_coachesOf_4 ?_
      rw [hA.2.1]
      refine ⟨fun _ => ⟨_, rfl, ?_⟩, fun q => absurd (nI_le (show rW R ≤ w by omega) (by omega)) q⟩
      rw [show w = rW R by omega]
      exact h
    | succ b ih =>
      intro w hw
      have nxt := ih (w + 1) (by omega)
      simp only [inN] at nxt
      obtain ⟨_, a2, _, _⟩ := hA.2.2.2.2.2.1 w (by omega)
      have hlt := inN_lt hR (k := k) w (by omega)
      have ht := (hR.2.2.1 w (by omega)).2.1
      refine r_Rg_coachesOf_4 ?_
      rw [hA.2.1, bit_1 hk (by omega), nI_1]
      refine ⟨fun q => absurd q (nI_ge (show w < rW R by omega) (by omega)), fun _ => ?_⟩
      by_cases e : k.testBit w = true
      · rw [if_pos e] at nxt ⊢
        refine ⟨fun q => absurd q (by decide), fun _ => c_Road_toOf (by omega) (by omega) ?_⟩
        rw [a2, (or_1 (k := inN (rt R) k w) (w := rt R w) (by omega) (by omega)).1]
        exact nxt
      · rw [if_neg e] at nxt ⊢
        exact ⟨fun _ => nxt, fun q => absurd rfl q⟩
  exact key (rW R) 0 (by omega)
theorem go_cd {I I' : MI} (h : Same goS I I') : Same cdS I I' := h.mono (fun _ _ q => Or.inr (Or.inl q))
theorem w_slow {m : Nat} {K : Int32 → MI → ML → Prop} (hd : 9 ≤ d) (hO : CoO R s P) (hc : CoC I R s P) (hr : RgA I R) (em : s.2.2.2.1 = nI m) (hm : m ≤ 9) (h : ∀ x I', whP R m x → CoC I' R s P → Same cdS I I' → K x I' L) : CI d m_W_slow [vR 0 0] I L K := by
  have hR := hO.1
  have hlen := DL_len hR
  refine toCI (n := 8) hd (r_W_slow_0 (toCI (n := 7) (by omega) (r_Rg_slowCoaches_0 (c_Rg_slowestWithout (o := 0) (by omega) hO hc hr em hm (fun x I1 hx hc1 hr1 hS1 => ?_)))))
  have key : ∀ (b j who : Nat) (J : MI), j + b = (DL R).length → who < 64 → (∀ c, who.testBit c = true ↔ ∃ i, i < j ∧ mxP R m 0 (rgK R i) ∧ (inN (rt R) (rgK R i) (rW R)).testBit c = true) → CoC J R s P → RgA J R → Same goS I J → XX (7 + 1) m_Rg_slowCoaches (fun r I' L' => ∃ x, r = some (vI x) ∧ (fun x3 I1 L2 => ∃ x, some (vI x3) = some (vI x) ∧ K x I1 L2) x I' L') 10 [vR 448 0, vI x, vI (nI who), vI (nI j)] [] J L := by
    intro b
    induction b with
    | zero =>
      intro j who J hj hw hb hcJ hrJ hS
      refine r_Rg_slowCoaches_10 ?_
      rw [hrJ.1]
      refine ⟨fun _ => ⟨_, rfl, _, rfl, h _ J ⟨who, hw, rfl, fun c => (hb c).trans ⟨?_, ?_⟩⟩ hcJ (go_cd hS)⟩, fun q => absurd (nI_le (show (DL R).length ≤ j by omega) (by omega)) q⟩
      · rintro ⟨i, _, h1, h2⟩; exact ⟨_, h1, h2⟩
      · rintro ⟨k, h1, h2⟩
        obtain ⟨i, hi, ei⟩ := rgK_ex hR h1.1
        exact ⟨i, by omega, by rw [ei]; exact h1, by rw [ei]; exact h2⟩
    | succ b ih =>
      intro j who J hj hw hb hcJ hrJ hS
      have hjl : j < (DL R).length := by omega
      have hRj := rgK_R hR hjl
      have hk := Rng_1k hR hRj
      rcases hx with ⟨_, hx⟩ | ⟨i, hi, e, hmx⟩
      · exact absurd and_z (hx _ hRj)
      · subst e
        refine r_Rg_slowCoaches_10 ?_
        rw [hrJ.1, nI_1]
        refine ⟨fun q => absurd q (nI_ge hjl (by omega)), fun _ => c_Rg_isBelow (by omega) hO hcJ hrJ em hm hjl hi (fun hp J2 hc2 hr2 hS2 => ⟨fun _ => ih (j + 1) who J2 (by omega) hw (fun c => ?_) hc2 hr2 (hS.tr hS2), fun q => absurd (by decide) q⟩) (fun hp J2 hc2 hr2 hS2 => ⟨fun q => absurd rfl q, fun _ => c_Rg_ringAt (by omega) hR hr2 hjl (c_Rg_coachesOf (by omega) hR hc2.1 hk ?_)⟩)⟩
        · rw [hb c]
          constructor
          · rintro ⟨i', a, b⟩; exact ⟨i', by omega, b⟩
          · rintro ⟨i', a, b1, b2⟩
            by_cases y : i' = j
            · rw [y] at b1; exact absurd (b1.2.2 _ hmx.1 hmx.2.1) hp
            · exact ⟨i', by omega, b1, b2⟩
        · have hil := inN_lt hR (k := rgK R j) (rW R) (Nat.le_refl _)
          rw [or_n]
          refine ih (j + 1) _ J2 (by omega) (Nat.or_lt_two_pow (n := 6) hw hil) (fun c => ?_) hc2 hr2 (hS.tr hS2)
          rw [Nat.testBit_or, Bool.or_eq_true, hb c]
          have hmj : mxP R m 0 (rgK R j) := ⟨hRj, and_z, fun k' hk' hz' => ple_tr hR hmx.1 (hmx.2.2 k' hk' hz') hp⟩
          constructor
          · rintro (⟨i', a, b⟩ | b)
            · exact ⟨i', by omega, b⟩
            · exact ⟨j, by omega, hmj, b⟩
          · rintro ⟨i', a, b1, b2⟩
            by_cases y : i' = j
            · rw [y] at b2; exact Or.inr b2
            · exact Or.inl ⟨i', by omega, b1, b2⟩
  exact key (DL R).length 0 0 I1 (by omega) (by omega) (fun c => ⟨fun z => by simp at z, fun ⟨i, z, _⟩ => by omega⟩) hc1 hr1 hS1
theorem w_rings {K : Int32 → MI → ML → Prop} (hd : 2 ≤ d) (hr : RgA I R) (h : K (nI (DL R).length) I L) : CI d m_W_rings [vR 0 0] I L K := by
  refine toCI (n := 1) hd (r_W_rings_0 (toCI (n := 0) (by omega) (r_Rg_size_0 ⟨_, rfl, ?_⟩)))
  rw [hr.1]
  exact ⟨_, rfl, h⟩
theorem w_period {m : Nat} {K : Int32 → MI → ML → Prop} (hd : 9 ≤ d) (hO : CoO R s P) (hc : CoC I R s P) (hr : RgA I R) (em : s.2.2.2.1 = nI m) (hm : m ≤ 9) (h : ∀ x I', prP R m x → CoC I' R s P → Same cdS I I' → K x I' L) : CI d m_W_period [vR 0 0] I L K := by
  have hR := hO.1
  refine toCI (n := 8) hd (r_W_period_0 (toCI (n := 7) (by omega) (r_Rg_leastPeriod_0 (c_Rg_slowestWithout (o := 0) (by omega) hO hc hr em hm (fun x I1 hx hc1 hr1 hS1 => ?_)))))
  rcases hx with ⟨e, hx⟩ | ⟨i, hi, e, hmx⟩
  · subst e
    exact c_Rg_lagsOfN (by omega) hR hc1.1 ⟨fun q => absurd q (by decide), fun _ => ⟨_, rfl, _, rfl, h _ I1 (Or.inl ⟨fun k hk => hx k hk and_z, rfl⟩) hc1 (go_cd hS1)⟩⟩
  · subst e
    have l1 := rgL_le hR (k := rgK R i)
    have lp := rgL_pos hR hmx.1
    have t1 := rgT_le hR (m := m) (k := rgK R i) hm
    refine c_Rg_lagsOf (by omega) hR hc1.1 hr1 hi ⟨fun _ => ?_, fun q => absurd (nI_le (a := 1) lp (by omega)) q⟩
    refine c_Rg_timesOf (by omega) hO hc1 hr1 em hm hi (fun I2 hc2 hr2 hS2 => ⟨nI_ne0 lp (by omega), c_max (by omega) ⟨_, rfl, _, rfl, ?_⟩⟩)
    have e1 : ((nI (rgT R m (rgK R i)) + nI (rgL R (rgK R i))) - (1 : Int32)) / nI (rgL R (rgK R i)) = nI ((rgT R m (rgK R i) + rgL R (rgK R i) - 1) / rgL R (rgK R i)) := by
      rw [nI_add, show (1 : Int32) = nI 1 from rfl, nI_sub (by omega), pk_div (by omega) lp (by omega)]
    rw [e1]
    have hq : (rgT R m (rgK R i) + rgL R (rgK R i) - 1) / rgL R (rgK R i) ≤ 20000 := Nat.le_trans (Nat.div_le_self _ _) (by omega)
    refine h _ I2 (Or.inr ⟨_, hmx, ?_⟩) hc2 (go_cd (hS1.tr hS2))
    generalize (rgT R m (rgK R i) + rgL R (rgK R i) - 1) / rgL R (rgK R i) = q at *
    show (if nI 1 < nI q then nI q else nI 1) = _
    by_cases y : 1 < q
    · rw [if_pos (nI_lt (a := 1) y (by omega)), Nat.max_eq_right (by omega)]
    · rw [if_neg (nI_nlt (b := q) (a := 1) (by omega) (by omega)), Nat.max_eq_left (by omega)]
theorem w_slowest {m : Nat} {w : Int32} {K : Int32 → MI → ML → Prop} (hd : 8 ≤ d) (hO : CoO R s P) (hc : CoC I R s P) (hr : RgA I R) (em : s.2.2.2.1 = nI m) (hm : m ≤ 9) (h2 : ¬ lwR w → K (-2) I L) (h : lwR w → ∀ x I', swP R m w x → CoC I' R s P → Same cdS I I' → K x I' L) : CI d m_W_slowest [vR 0 0, vI w] I L K := by
  have hR := hO.1
  have hlen := DL_len hR
  have z0 : (0 : Int32).toInt = 0 := rfl
  have z1 : (1 : Int32).toInt = 1 := rfl
  refine toCI (n := 7) hd (r_W_slowest_0 ⟨fun q => ⟨_, rfl, h2 (fun z => ?_)⟩, fun q => ⟨fun q2 => ?_, fun q2 => ⟨_, rfl, h2 (fun z => ?_)⟩⟩⟩)
  · have := Int32.lt_iff_toInt_lt.mp q; have := z.1; omega
  · have a1 := Int32.le_iff_toInt_le.mp (Int32.not_lt.mp q)
    have a2 := Int32.le_iff_toInt_le.mp q2
    have hw : lwR w := ⟨by omega, by omega⟩
    refine c_Rg_slowestWithout (o := 0) (by omega) hO hc hr em hm (fun x I1 hx hc1 hr1 hS1 => ?_)
    rcases hx with ⟨e, hx⟩ | ⟨i, hi, e, hmx⟩
    · subst e
      exact ⟨fun q => absurd rfl q, fun _ => ⟨_, rfl, h hw _ I1 (Or.inl ⟨fun k hk => hx k hk and_z, rfl⟩) hc1 (go_cd hS1)⟩⟩
    · subst e
      have l1 := rgL_le hR (k := rgK R i)
      have lp := rgL_pos hR hmx.1
      have t1 := rgT_le hR (m := m) (k := rgK R i) hm
      refine ⟨fun _ => ?_, fun q => absurd (nI_m1 (by omega)) q⟩
      refine c_Rg_timesOf (by omega) hO hc1 hr1 em hm hi (fun I2 hc2 hr2 hS2 => c_Rg_lagsOf (by omega) hR hc2.1 hr2 hi ?_)
      rw [nI_l (by omega), nI_l (by omega)]
      refine c_W_lowest (by omega) lp (by omega) (by omega) ⟨_, rfl, h hw _ I2 (Or.inr ⟨_, hmx, ?_⟩) hc2 (go_cd (hS1.tr hS2))⟩
      have gp : 0 < Nat.gcd (rgT R m (rgK R i)) (rgL R (rgK R i)) := Nat.gcd_pos_of_pos_right _ lp
      have gl : Nat.gcd (rgT R m (rgK R i)) (rgL R (rgK R i)) ≤ rgL R (rgK R i) := Nat.le_of_dvd lp (Nat.gcd_dvd_right _ _)
      unfold lwO
      by_cases y : w = 0
      · rw [if_pos y, if_pos y, pk_lDiv (by omega) gp (by omega), lN_i]
      · rw [if_neg y, if_neg y, pk_lDiv (by omega) gp (by omega), lN_i]
  · have := Int32.lt_iff_toInt_lt.mp (Int32.not_le.mp q2); have := z.2; omega
end SlowC
