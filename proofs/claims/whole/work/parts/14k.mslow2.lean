/-! slowest, slow, rings, period, leave, room of the reference -/
theorem rem_n {a b : Nat} (ha : a < 2 ^ 31) (hb : b < 2 ^ 31) : nI a % nI b = nI (a % b) := by
  apply Int32.toInt_inj.mp
  have : a % b ≤ a := Nat.mod_le a b
  rw [Int32.toInt_mod, nI_toInt ha, nI_toInt hb, nI_toInt (by omega)]
  exact (Int.ofNat_tmod a b).symm
theorem mxj_P {R : RD} {m o k : Nat} : mxj R m o (2 ^ rW R) k ↔ mxP R m o k := ⟨fun ⟨a, _, c, e⟩ => ⟨a, c, fun k' x z => e k' x (Rng_lt x).1 z⟩, fun ⟨a, c, e⟩ => ⟨a, (Rng_lt a).1, c, fun k' x _ z => e k' x z⟩⟩
section SlowM2
variable {d : Nat} {I : MI} {L : ML} {R : RD} {s : SA} {P : List SA}
theorem c_M_common : ∀ (f : Nat) {d x y : Nat} {K : Int32 → MI → ML → Prop}, 2 * f + 1 ≤ d → y < 2 ^ f → x < 2 ^ 31 → y < 2 ^ 31 → K (nI (Nat.gcd x y)) I L → CI d m_M_common [vI (nI x), vI (nI y)] I L K := by
  have stop : ∀ {d x : Nat} {K : Int32 → MI → ML → Prop}, 1 ≤ d → K (nI (Nat.gcd x 0)) I L → CI d m_M_common [vI (nI x), vI (nI 0)] I L K := by
    intro d x K hd h
    rw [Nat.gcd_zero_right] at h
    exact toCI (n := 0) hd (r_M_common_0 ⟨fun q => absurd rfl q, fun _ => ⟨_, rfl, h⟩⟩)
  have step : ∀ {n d x y : Nat} {K : Int32 → MI → ML → Prop}, n + 1 ≤ d → 0 < y → x < 2 ^ 31 → y < 2 ^ 31 → CI n m_M_common [vI (nI y), vI (nI (x % y))] I L (fun x3 I1 L2 => ∃ x, some (vI x3) = some (vI x) ∧ K x I1 L2) → CI d m_M_common [vI (nI x), vI (nI y)] I L K := by
    intro n d x y K hd hy hx hy3 h
    refine toCI (n := n) hd (r_M_common_0 ⟨fun _ => ⟨nI_ne0 hy hy3, ?_⟩, fun q => absurd (nI_ne0 hy hy3) q⟩)
    rw [rem_n hx hy3]
    exact h
  intro f
  induction f with
  | zero =>
    intro d x y K hd hy hx hy3 h
    have : y = 0 := by have : (2 : Nat) ^ 0 = 1 := rfl; omega
    subst this
    exact stop (by omega) h
  | succ f ih =>
    intro d x y K hd hy hx hy3 h
    rcases Nat.eq_zero_or_pos y with z | z
    · subst z; exact stop (by omega) h
    · refine step (n := d - 1) (by omega) z hx hy3 ?_
      have h1 := Nat.mod_lt x z
      rw [← gcd_st x y] at h
      rcases Nat.eq_zero_or_pos (x % y) with z2 | z2
      · rw [z2] at h ⊢
        exact stop (by omega) ⟨_, rfl, h⟩
      · have hh := gc_half z z2
        rw [← gcd_st y] at h
        refine step (n := d - 2) (by omega) z2 hy3 (by omega) (ih (by omega) ?_ (by omega) ?_ ⟨_, rfl, _, rfl, h⟩)
        · rw [Nat.pow_succ] at hy; omega
        · have := Nat.mod_lt y z2; omega
theorem m_slow {m : Nat} {K : Int32 → MI → ML → Prop} (hd : 7 ≤ d) (hO : CoO R s P) (hc : CoM I R s P) (em : s.2.2.2.1 = nI m) (hm : m ≤ 9) (h : ∀ x I', whP R m x → CoM I' R s P → mFr I I' → K x I' L) : CI d m_M_slow [vR 704 0] I L K := by
  have hR := hO.1
  have hc0 : CoM (ui I 704 0 0 0) R s P := CoM_cg hR hc t0_6
  refine toCI (n := 6) hd (r_M_slow_0 (c_M_laysSlow (o := 0) (by omega) hO hc0 em hm (fun I' hA _ hc' hF' ht' => ⟨_, rfl, h _ I' ?_ hc' ⟨t0_F.tr hF', by rw [ht', ui_s]⟩⟩)))
  rcases hA with ⟨h1, h2, h3, h4⟩ | ⟨k0, who, h1, h2, h3, h4, h5, h6⟩
  · exact ⟨0, by omega, h4, fun c => ⟨fun z => by simp at z, fun ⟨k, a, _⟩ => absurd and_z (h1 k a.1 (Rng_lt a.1).1)⟩⟩
  · refine ⟨who, h4, h5, fun c => (h6 c).trans ⟨?_, ?_⟩⟩
    · rintro ⟨k, a, b⟩; exact ⟨k, mxj_P.mp a, b⟩
    · rintro ⟨k, a, b⟩; exact ⟨k, mxj_P.mpr a, b⟩
theorem m_rings {m : Nat} {K : Int32 → MI → ML → Prop} (hd : 7 ≤ d) (hO : CoO R s P) (hc : CoM I R s P) (em : s.2.2.2.1 = nI m) (hm : m ≤ 9) (h : ∀ I', CoM I' R s P → mFr I I' → K (nI (DL R).length) I' L) : CI d m_M_rings [vR 704 0] I L K := by
  have hR := hO.1
  have hc0 : CoM (ui I 704 0 0 0) R s P := CoM_cg hR hc t0_6
  refine toCI (n := 6) hd (r_M_rings_0 (c_M_laysSlow (o := 0) (by omega) hO hc0 em hm (fun I' _ hB hc' hF' ht' => ?_)))
  obtain ⟨fl, a1, a2, a3, a4⟩ := hB
  have e : fl.length = (DL R).length := Nat.le_antisymm (nd_len a1 (fun x hx => (DL_mem hR).mpr ((a3 x).mp hx).1)) (nd_len DL_nd (fun x hx => (a3 x).mpr ⟨(DL_mem hR).mp hx, (Rng_lt ((DL_mem hR).mp hx)).1, and_z⟩))
  rw [a4, e]
  exact ⟨_, rfl, h I' hc' ⟨t0_F.tr hF', by rw [ht', ui_s]⟩⟩
theorem m_period {m : Nat} {K : Int32 → MI → ML → Prop} (hd : 7 ≤ d) (hO : CoO R s P) (hc : CoM I R s P) (em : s.2.2.2.1 = nI m) (hm : m ≤ 9) (h : ∀ x I', prP R m x → CoM I' R s P → mFr I I' → K x I' L) : CI d m_M_period [vR 704 0] I L K := by
  have hR := hO.1
  have hc0 : CoM (ui I 704 0 0 0) R s P := CoM_cg hR hc t0_6
  refine toCI (n := 6) hd (r_M_period_0 (c_M_laysSlow (o := 0) (by omega) hO hc0 em hm (fun I' hA _ hc' hF' ht' => ?_)))
  have hFr : mFr I I' := ⟨t0_F.tr hF', by rw [ht', ui_s]⟩
  rcases hA with ⟨h1, h2, h3, h4⟩ | ⟨k0, who, h1, h2, h3, h4, h5, h6⟩
  · rw [h3]
    refine ⟨fun q => absurd rfl q, fun _ => ⟨fun _ => ⟨_, rfl, h _ I' (Or.inl ⟨fun k hk => h1 k hk (Rng_lt hk).1 and_z, rfl⟩) hc' hFr⟩, fun q => absurd (by decide) q⟩⟩
  · have l1 := rgL_le hR (k := k0)
    have lp := rgL_pos hR h1.1
    have t1 := rgT_le hR (m := m) (k := k0) hm
    have e1 : ((nI (rgT R m k0) + nI (rgL R k0)) - (1 : Int32)) / nI (rgL R k0) = nI ((rgT R m k0 + rgL R k0 - 1) / rgL R k0) := by
      rw [nI_add, show (1 : Int32) = nI 1 from rfl, nI_sub (by omega), pk_div (by omega) lp (by omega)]
    have hq : (rgT R m k0 + rgL R k0 - 1) / rgL R k0 ≤ 20000 := Nat.le_trans (Nat.div_le_self _ _) (by omega)
    have hx : ∀ x, x = nI (max 1 ((rgT R m k0 + rgL R k0 - 1) / rgL R k0)) → prP R m x := fun x ex => Or.inr ⟨k0, mxj_P.mp h1, ex⟩
    rw [h2, h3, e1]
    generalize (rgT R m k0 + rgL R k0 - 1) / rgL R k0 = q at *
    refine ⟨fun _ => ⟨nI_ne0 lp (by omega), fun y => ⟨_, rfl, h _ I' (hx _ ?_) hc' hFr⟩, fun y => ⟨_, rfl, h _ I' (hx _ ?_) hc' hFr⟩⟩, fun q => absurd (nI_ne0 lp (by omega)) q⟩
    · have := (nI_leI (a := 1) (by omega) (by omega)).mp y
      rw [Nat.max_eq_right (by omega)]
    · have : ¬ 1 ≤ q := fun z => y (nI_le (a := 1) z (by omega))
      rw [Nat.max_eq_left (by omega)]; rfl
theorem m_slowest {m : Nat} {w : Int32} {K : Int32 → MI → ML → Prop} (hd : 20 ≤ d) (hO : CoO R s P) (hc : CoM I R s P) (em : s.2.2.2.1 = nI m) (hm : m ≤ 9) (h2 : ¬ lwR w → K (-2) (ui I 704 0 0 0) L) (h : lwR w → ∀ x I', swP R m w x → CoM I' R s P → mFr I I' → K x I' L) : CI d m_M_slowest [vR 704 0, vI w] I L K := by
  have hR := hO.1
  have ew := Int32.toInt_toInt64 w
  have o0 : (0 : Int64).toInt = 0 := rfl
  have o1 : (1 : Int64).toInt = 1 := rfl
  have hc0 : CoM (ui I 704 0 0 0) R s P := CoM_cg hR hc t0_6
  refine toCI (n := 19) hd (r_M_slowest_0 (c_M_within (by omega) (fun g1 g2 => ⟨fun _ => ?_, fun q => absurd (by decide) q⟩) (fun g => ⟨fun q => absurd rfl q, fun _ => ⟨_, rfl, h2 (fun z => g (by rw [ew, o0, o1]; exact z))⟩⟩)))
  rw [ew, o0] at g1
  rw [ew, o1] at g2
  refine c_M_laysSlow (o := 0) (by omega) hO hc0 em hm (fun I' hA _ hc' hF' ht' => ?_)
  have hFr : mFr I I' := ⟨t0_F.tr hF', by rw [ht', ui_s]⟩
  have fin := h ⟨g1, g2⟩
  rcases hA with ⟨h1, h2, h3, h4⟩ | ⟨k0, who, h1, h2, h3, h4, h5, h6⟩
  · rw [h3]
    exact ⟨fun q => absurd rfl q, fun _ => ⟨_, rfl, fin _ I' (Or.inl ⟨fun k hk => h1 k hk (Rng_lt hk).1 and_z, rfl⟩) hc' hFr⟩⟩
  · have l1 := rgL_le hR (k := k0)
    have lp := rgL_pos hR h1.1
    have t1 := rgT_le hR (m := m) (k := k0) hm
    have gp : 0 < Nat.gcd (rgT R m k0) (rgL R k0) := Nat.gcd_pos_of_pos_right _ lp
    have gl : Nat.gcd (rgT R m k0) (rgL R k0) ≤ rgL R k0 := Nat.le_of_dvd lp (Nat.gcd_dvd_right _ _)
    rw [h2, h3]
    refine ⟨fun _ => ⟨fun q => c_M_common 5 (by omega) (by omega) (by omega) (by omega) ⟨nI_ne0 gp (by omega), _, rfl, fin _ I' (Or.inr ⟨k0, mxj_P.mp h1, ?_⟩) hc' hFr⟩, fun q => c_M_common 5 (by omega) (by omega) (by omega) (by omega) ⟨nI_ne0 gp (by omega), _, rfl, fin _ I' (Or.inr ⟨k0, mxj_P.mp h1, ?_⟩) hc' hFr⟩⟩, fun q => absurd (nI_ne0 lp (by omega)) q⟩
    · rw [if_neg q, pk_div (by omega) gp (by omega)]
    · rw [if_pos (Classical.not_not.mp q), pk_div (by omega) gp (by omega)]
theorem m_leave {m : Nat} {K : Int32 → MI → ML → Prop} (hd : 7 ≤ d) (hO : CoO R s P) (hc : CoM I R s P) (em : s.2.2.2.1 = nI m) (hm : m ≤ 9) (h : ∀ x I', lvP R m x → CoM I' R s P → mFr I I' → K x I' L) : CI d m_M_leave [vR 704 0] I L K := by
  have hR := hO.1
  have hW := hR.2.1
  have hc0 : CoM (ui I 704 0 0 0) R s P := CoM_cg hR hc t0_6
  refine toCI (n := 6) hd (r_M_leave_0 ?_)
  have key : ∀ (l w : Nat) (x a b : Int32) (J : MI), w + l = rW R → ((w = 0 ∧ x = -1) ∨ ∃ v, v < w ∧ x = nI v ∧ (((∀ k, Rng R k → k &&& 2 ^ v ≠ 0) ∧ a = 0 ∧ b = 0) ∨ ∃ k0, mxP R m (2 ^ v) k0 ∧ a = nI (rgT R m k0) ∧ b = nI (rgL R k0)) ∧ (∀ u, u < w → mle R m v u) ∧ ∀ u, u < v → ¬ mle R m u v) → CoM J R s P → mF0 I J → J 704 0 0 = 0 → XX (6 + 1) m_M_leave (fun r I' L' => ∃ x, r = some (vI x) ∧ K x I' L') 14 [vR 704 0, vI x, vI a, vI b, vI (nI w), vD] [] J L := by
    intro l
    induction l with
    | zero =>
      intro w x a b J hw hx hcJ hF ht
      refine r_M_leave_14 ?_
      rw [hcJ.1.2.1]
      refine ⟨fun _ => ⟨_, rfl, h _ J ?_ hcJ ⟨hF, ht⟩⟩, fun q => absurd (nI_le (show rW R ≤ w by omega) (by omega)) q⟩
      have ew : w = rW R := by omega
      rw [ew] at hx
      rcases hx with ⟨e, ex⟩ | ⟨v, hv, ex, _, h1, h2⟩
      · exact Or.inl ⟨e, ex⟩
      · exact Or.inr ⟨v, hv, ex, h1, h2⟩
    | succ l ih =>
      intro w x a b J hw hx hcJ hF ht
      refine r_M_leave_14 ?_
      rw [hcJ.1.2.1, sh_1 (by omega)]
      refine ⟨fun q => absurd q (nI_ge (show w < rW R by omega) (by omega)), fun _ => c_M_laysSlow (o := 2 ^ w) (by omega) hO hcJ em hm (fun J1 hA _ hc1 hF1 ht1 => ?_)⟩
      rw [nI_1]
      have hF2 := hF.tr hF1
      have ht2 : J1 704 0 0 = 0 := ht1.trans ht
      have hz : ((∀ k, Rng R k → k &&& 2 ^ w ≠ 0) ∧ J1 704 0 28 = 0 ∧ J1 704 0 29 = 0) ∨ ∃ k0, mxP R m (2 ^ w) k0 ∧ J1 704 0 28 = nI (rgT R m k0) ∧ J1 704 0 29 = nI (rgL R k0) := by
        rcases hA with ⟨h1, h2, h3, h4⟩ | ⟨k0, who, h1, h2, h3, h4, h5, h6⟩
        · exact Or.inl ⟨fun k hk => h1 k hk (Rng_lt hk).1, h2, h3⟩
        · exact Or.inr ⟨k0, mxj_P.mp h1, h2, h3⟩
      generalize J1 704 0 28 = a2 at *
      generalize J1 704 0 29 = b2 at *
      rcases hx with ⟨e, ex⟩ | ⟨v, hv, ex, hy, h1, h2⟩
      · subst ex
        have fst : XX (6 + 1) m_M_leave (fun r I' L' => ∃ x, r = some (vI x) ∧ K x I' L') 14 [vR 704 0, vI (nI w), vI a2, vI b2, vI (nI (w + 1)), vD] [] J1 L := ih (w + 1) (nI w) a2 b2 J1 (by omega) (Or.inr ⟨w, by omega, rfl, hz, fun u hu => by rw [show u = w by omega]; exact mle_rf, fun u hu => by omega⟩) hc1 hF2 ht2
        exact ⟨fun _ => ⟨fun _ => ⟨fun _ => fst, fun q => absurd rfl q⟩, fun _ => ⟨fun _ => ⟨fun _ => fst, fun q => absurd rfl q⟩, fun _ => ⟨fun _ => fst, fun q => absurd rfl q⟩⟩⟩, fun _ => ⟨fun _ => ⟨fun _ => fst, fun q => absurd rfl q⟩, fun _ => ⟨fun _ => fst, fun q => absurd rfl q⟩⟩⟩
      · subst ex
        have nm1 : ¬ nI v = (-1 : Int32) := nI_m1 (by omega)
        have better : ¬ mle R m v w → mle R m w v → XX (6 + 1) m_M_leave (fun r I' L' => ∃ x, r = some (vI x) ∧ K x I' L') 14 [vR 704 0, vI (nI w), vI a2, vI b2, vI (nI (w + 1)), vD] [] J1 L := by
          intro hno hle
          refine ih (w + 1) (nI w) a2 b2 J1 (by omega) (Or.inr ⟨w, by omega, rfl, hz, fun u hu => ?_, fun u hu hu2 => ?_⟩) hc1 hF2 ht2
          · by_cases q : u = w
            · rw [q]; exact mle_rf
            · exact mle_tr hR hle (h1 u (by omega))
          · exact hno (mle_tr hR (h1 u hu) hu2)
        have worse : mle R m v w → XX (6 + 1) m_M_leave (fun r I' L' => ∃ x, r = some (vI x) ∧ K x I' L') 14 [vR 704 0, vI (nI v), vI a, vI b, vI (nI (w + 1)), vD] [] J1 L := by
          intro hle
          refine ih (w + 1) (nI v) a b J1 (by omega) (Or.inr ⟨v, by omega, rfl, hy, fun u hu => ?_, h2⟩) hc1 hF2 ht2
          by_cases q : u = w
          · rw [q]; exact hle
          · exact h1 u (by omega)
        have one0 : ¬ ¬ ¬ (1 : Int32) = 0 := fun q => q (by decide)
        rcases hz with ⟨z1, za, zb⟩ | ⟨k1, z1, za, zb⟩ <;> rcases hy with ⟨y1, ya, yb⟩ | ⟨k2, y1, ya, yb⟩
        · subst za zb ya yb
          exact ⟨fun q => absurd rfl q, fun _ => ⟨fun _ => ⟨fun q => absurd q nm1, fun _ => ⟨fun q => absurd rfl q, fun _ => worse (fun k hk hz' => absurd hz' (y1 k hk))⟩⟩, fun q => absurd (by decide) q⟩⟩
        · subst za zb ya yb
          have lp := rgL_pos hR y1.1
          have l1 := rgL_le hR (k := k2)
          refine ⟨fun q => absurd rfl q, fun _ => ⟨fun q => absurd q (nI_nle lp (by omega)), fun _ => ⟨fun q => absurd q nm1, fun _ => ⟨fun _ => better (fun hb2 => ?_) (fun k hk hz' => absurd hz' (z1 k hk)), fun q => absurd (by decide) q⟩⟩⟩⟩
          obtain ⟨k', r', z', _⟩ := hb2 _ y1.1 y1.2.1
          exact z1 k' r' z'
        · subst za zb ya yb
          have lp := rgL_pos hR z1.1
          have l1 := rgL_le hR (k := k1)
          exact ⟨fun _ => ⟨fun _ => ⟨fun q => absurd q nm1, fun _ => ⟨fun q => absurd rfl q, fun _ => worse (fun k hk hz' => absurd hz' (y1 k hk))⟩⟩, fun q => absurd (by decide) q⟩, fun q => absurd (nI_ne0 lp (by omega)) q⟩
        · subst za zb ya yb
          have lp1 := rgL_pos hR z1.1
          have l1 := rgL_le hR (k := k1)
          have t1 := rgT_le hR (m := m) (k := k1) hm
          have lp2 := rgL_pos hR y1.1
          have l2 := rgL_le hR (k := k2)
          have t2 := rgT_le hR (m := m) (k := k2) hm
          have p1 := Nat.mul_le_mul t1 l2
          have p2 := Nat.mul_le_mul t2 l1
          rw [nI_l (n := rgT R m k1) (by omega), nI_l (n := rgL R k2) (by omega), nI_l (n := rgT R m k2) (by omega), nI_l (n := rgL R k1) (by omega), lN_mul, lN_mul]
          refine ⟨fun _ => ⟨fun q => absurd q (nI_nle lp2 (by omega)), fun _ => ⟨fun q => ⟨fun q => absurd q nm1, fun _ => ⟨fun q => absurd rfl q, fun _ => worse ?_⟩⟩, fun q => ⟨fun q => absurd q nm1, fun _ => ⟨fun _ => better ?_ ?_, fun q => absurd (by decide) q⟩⟩⟩⟩, fun q => absurd (nI_ne0 lp1 (by omega)) q⟩
          · have q := Int32.not_lt.mpr q
            rw [cmp_lt, pk_lT (by omega), pk_lT (by omega)] at q
            have hp : ple R m k2 k1 := by unfold ple; omega
            exact fun k hk hz' => ⟨_, z1.1, z1.2.1, ple_tr hR y1.1 (y1.2.2 k hk hz') hp⟩
          · have q := Int32.not_le.mp q
            rw [cmp_lt, pk_lT (by omega), pk_lT (by omega)] at q
            have hp : ¬ ple R m k2 k1 := by unfold ple; omega
            intro hb2
            obtain ⟨k', r', z', p'⟩ := hb2 _ y1.1 y1.2.1
            exact hp (ple_tr hR r' p' (z1.2.2 k' r' z'))
          · have q := Int32.not_le.mp q
            rw [cmp_lt, pk_lT (by omega), pk_lT (by omega)] at q
            have hp : ple R m k1 k2 := by unfold ple; omega
            exact fun k hk hz' => ⟨_, y1.1, y1.2.1, ple_tr hR z1.1 (z1.2.2 k hk hz') hp⟩
  exact key (rW R) 0 (-1) 0 0 _ (by omega) (Or.inl ⟨rfl, rfl⟩) hc0 t0_F (by rw [ui_s])
theorem m_room {m : Nat} {w : Int32} {K : Int32 → MI → ML → Prop} (hd : 6 ≤ d) (hO : CoO R s P) (hc : CoM I R s P) (em : s.2.2.2.1 = nI m) (hm : m ≤ 9) (h2 : ¬ (0 ≤ w.toInt ∧ w.toInt < rW R) → K (-2) (ui I 704 0 0 0) L) (h : 0 ≤ w.toInt → w.toInt < rW R → ∀ x I', rmP R m w.toInt.toNat x → CoM I' R s P → mFr I I' → K x I' L) : CI d m_M_room [vR 704 0, vI w] I L K := by
  have hR := hO.1
  have hW := hR.2.1
  have hW2 : 2 ^ rW R ≤ 1024 := Nat.pow_le_pow_right (n := 2) (j := 10) (by omega) hW
  have hWp : 0 < 2 ^ rW R := Nat.pow_pos (by omega)
  have hc0 : CoM (ui I 704 0 0 0) R s P := CoM_cg hR hc t0_6
  refine toCI (n := 5) hd (r_M_room_0 (c_M_isWait (by omega) hR hc0.1 (fun g1 g2 => ⟨fun _ => ?_, fun q => absurd (by decide) q⟩) (fun g => ⟨fun q => absurd rfl q, fun _ => ⟨_, rfl, h2 g⟩⟩)))
  have fin := h g1 g2
  have e1 := ge_nI g1
  have b1 : w.toInt.toNat < rW R := by omega
  clear g1 g2 h2 h
  generalize w.toInt.toNat = w' at *
  subst e1
  rw [hc0.2.1.2.1, em]
  refine c_M_laysTimes (by omega) hR hc0.1 hm (fun I1 ht1 _ ho1 hS1 => ?_)
  have hS1 : Same grS (ui I 704 0 0 0) I1 := hS1.mono (fun r a q => ⟨by rcases q.1 with y | y | y | y <;> simp [y], q.2⟩)
  have n61 : I1 706 0 = ui I 704 0 0 0 706 0 := gr_no hS1 (by decide)
  have hc1 : CoM I1 R s P := CoM_cg hR hc0 n61
  have hF1 : mF0 I I1 := t0_F.tr (gr_F0 hS1 ho1)
  have t1 : I1 704 0 0 = 0 := by rw [ho1 0 (by decide) (by decide), ui_s]
  have zF : (268435456 : Int32).toInt = 268435456 := rfl
  have key : ∀ (f j : Nat) (y : Int32) (J : MI), j + f = 2 ^ rW R → ((y = 268435456 ∧ ∀ k, Rng R k → k < j → k.testBit w' = false) ∨ ∃ k, Rng R k ∧ k < j ∧ k.testBit w' = true ∧ y.toInt = vrN R m k ∧ ∀ k', Rng R k' → k' < j → k'.testBit w' = true → vrN R m k ≤ vrN R m k') → rfB I1 J → XX (5 + 1) m_M_room (fun r I' L' => ∃ x, r = some (vI x) ∧ K x I' L') 33 [vR 704 0, vI (nI w'), vI y, vI (nI j), vD] [] J L := by
    intro f
    induction f with
    | zero =>
      intro j y J hj hy hF
      have n6 : J 706 0 = I1 706 0 := rfB_r hF (by decide)
      have hcJ : CoM J R s P := CoM_cg hR hc1 n6
      have hFr : mFr I J := ⟨hF1.tr (rfB_F hF), by rw [hF.2 0 (by omega)]; exact t1⟩
      refine r_M_room_33 ?_
      rw [hcJ.1.2.1, sh_1 hW]
      refine ⟨fun _ => ?_, fun q => absurd (nI_le (show 2 ^ rW R ≤ j by omega) (by omega)) q⟩
      rcases hy with ⟨ey, hy⟩ | ⟨k, hk, hkj, hb, hv, hy⟩
      · subst ey
        refine ⟨fun q => absurd rfl q, fun _ => ⟨_, rfl, fin _ J (Or.inl ⟨fun k hk => hy k hk ?_, rfl⟩) hcJ hFr⟩⟩
        have := (Rng_lt hk).1; omega
      · have rv := vr_rg hR (m := m) (k := k) hm
        have pr : ∀ x, x = (if 0 ≤ y then y else y - (1000000 : Int32)) → rmP R m w' x := fun x ex => Or.inr ⟨k, y, hk, hb, hv, fun k' hk' hb' => hy k' hk' (by have := (Rng_lt hk').1; omega) hb', ex⟩
        refine ⟨fun _ => ⟨fun q => ⟨_, rfl, fin _ J (pr _ (by rw [if_pos q])) hcJ hFr⟩, fun q => ⟨_, rfl, fin _ J (pr _ (by rw [if_neg q])) hcJ hFr⟩⟩, fun q => ?_⟩
        have q := Classical.not_not.mp q
        rw [q, zF] at hv
        omega
    | succ f ih =>
      intro j y J hj hy hF
      have n6 : J 706 0 = I1 706 0 := rfB_r hF (by decide)
      have n3 : J 723 0 = I1 723 0 := rfB_r hF (by decide)
      have hMJ : MRo (J 706 0) R := by rw [n6]; exact hc1.1
      have skip : ∀ J2, ¬ (Rng R j ∧ j.testBit w' = true) → rfB I1 J2 → XX (5 + 1) m_M_room (fun r I' L' => ∃ x, r = some (vI x) ∧ K x I' L') 33 [vR 704 0, vI (nI w'), vI y, vI (nI (j + 1)), vD] [] J2 L := by
        intro J2 hno hF2
        refine ih (j + 1) y J2 (by omega) ?_ hF2
        rcases hy with ⟨ey, hy⟩ | ⟨k, hk, hkj, hb, hv, hy⟩
        · refine Or.inl ⟨ey, fun k hk hkj => ?_⟩
          by_cases q : k = j
          · subst q
            cases z : k.testBit w' with
            | false => rfl
            | true => exact absurd ⟨hk, z⟩ hno
          · exact hy k hk (by omega)
        · refine Or.inr ⟨k, hk, by omega, hb, hv, fun k' hk' hkj' hb' => ?_⟩
          by_cases q : k' = j
          · subst q; exact absurd ⟨hk', hb'⟩ hno
          · exact hy k' hk' (by omega) hb'
      refine r_M_room_33 ?_
      rw [hMJ.2.1, sh_1 hW, nI_1]
      refine ⟨fun q => absurd q (nI_ge (show j < 2 ^ rW R by omega) (by omega)), fun _ => c_M_isIn (by omega) (by omega) (by omega) (fun e => ⟨fun q => absurd q (by decide), fun _ => c_M_isRing (by omega) hR hMJ hm (fun w hw => by rw [n3]; exact ht1 w hw) (by omega) (fun hr J3 j26 j27 hF3 => ⟨fun _ => ?_, fun q => absurd (by decide) q⟩) (fun hr J3 hF3 => ⟨fun q => absurd rfl q, fun _ => skip J3 (fun z => hr z.1) (hF.tr (rf6_B hF3))⟩)⟩) (fun e => ⟨fun _ => skip J (fun z => e z.2) hF, fun q => absurd rfl q⟩)⟩
      have hF4 := hF.tr (rf6_B hF3)
      have eP : J3 706 0 1 = rP R := by rw [rf6_r hF3 (by decide)]; exact hMJ.2.2.1
      have ev := vr_i hR (m := m) (k := j) hm
      have rv := vr_rg hR (m := m) (k := j) hm
      rw [j26, j27, eP]
      generalize hz : ((rP R * nI (rgL R j)) - nI (rgT R m j)) = z at *
      refine ⟨fun q => ih (j + 1) y J3 (by omega) ?_ hF4, fun q => ih (j + 1) z J3 (by omega) (Or.inr ⟨j, hr, by omega, e, ev, fun k' hk' hkj' hb' => ?_⟩) hF4⟩
      · have q := Int32.le_iff_toInt_le.mp q
        rcases hy with ⟨ey, hy⟩ | ⟨k, hk, hkj, hb, hv, hy⟩
        · rw [ey, zF, ev] at q; omega
        · refine Or.inr ⟨k, hk, by omega, hb, hv, fun k' hk' hkj' hb' => ?_⟩
          by_cases q2 : k' = j
          · rw [q2]; omega
          · exact hy k' hk' (by omega) hb'
      · have q := Int32.lt_iff_toInt_lt.mp (Int32.not_le.mp q)
        by_cases q2 : k' = j
        · rw [q2]; exact Int.le_refl _
        · rcases hy with ⟨ey, hy⟩ | ⟨k, hk, hkj, hb, hv, hy⟩
          · rw [hy k' hk' (by omega)] at hb'; exact absurd hb' (by decide)
          · have := hy k' hk' (by omega) hb'; omega
  exact key (2 ^ rW R - 1) 1 _ I1 (by omega) (Or.inl ⟨rfl, fun k hk hlt => absurd (show k = 0 by omega) (Rng_lt hk).2⟩) rfB.rf
end SlowM2
