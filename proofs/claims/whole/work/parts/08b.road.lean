/-! THE ROAD as numbers; how long one is under way -/
abbrev DN : Type := (Nat → Int32) → Int32
/-- coaches, waits; from, to, lag of a wait; hour, patience of a coach; as told; period, lines; the laws -/
abbrev RD : Type := Nat × Nat × (Nat → Nat) × (Nat → Nat) × (Nat → Nat) × (Nat → Int32) × (Nat → Int32) × (Nat → Int32) × Int32 × Int32 × Option DN × Option DN
def rC (R : RD) : Nat := R.1
def rW (R : RD) : Nat := R.2.1
def rf (R : RD) : Nat → Nat := R.2.2.1
def rt (R : RD) : Nat → Nat := R.2.2.2.1
def rl (R : RD) : Nat → Nat := R.2.2.2.2.1
def rh (R : RD) : Nat → Int32 := R.2.2.2.2.2.1
def rp (R : RD) : Nat → Int32 := R.2.2.2.2.2.2.1
def rk (R : RD) : Nat → Int32 := R.2.2.2.2.2.2.2.1
def rP (R : RD) : Int32 := R.2.2.2.2.2.2.2.2.1
def rN (R : RD) : Int32 := R.2.2.2.2.2.2.2.2.2.1
def rT (R : RD) : Option DN := R.2.2.2.2.2.2.2.2.2.2.1
def rU (R : RD) : Option DN := R.2.2.2.2.2.2.2.2.2.2.2
def rg (x : Int32) (a b : Int) : Prop := a ≤ x.toInt ∧ x.toInt ≤ b
theorem rg_n {n : Nat} {a b : Int} (h1 : a ≤ (n : Int)) (h2 : (n : Int) ≤ b) (hn : n < 2 ^ 31) : rg (nI n) a b := by
  unfold rg
  rw [nI_toInt hn]
  exact ⟨h1, h2⟩
theorem rg.mono {x : Int32} {a b a' b' : Int} (h : rg x a b) (h1 : a' ≤ a) (h2 : b ≤ b') : rg x a' b' := ⟨by have := h.1; omega, by have := h.2; omega⟩
def Bd (nm : Nat → Int32) : Prop := ∀ k, rg (nm k) (-200000) 200000
def LwA (c : Nat → Int32) (b e : Nat) (f : DN) : Prop := b < e ∧ e ≤ 900 ∧ ∀ nm, Bd nm → ∃ N, N ≤ 900 ∧ lgo c nm e 64 N b [] e [f nm]
def lawA (I : MI) (k jb je : Nat) (o : Option DN) : Prop := match o with
  | none => I 128 k je ≤ I 128 k jb
  | some f => ∃ b e : Nat, I 128 k jb = nI b ∧ I 128 k je = nI e ∧ LwA (I 135 k) b e f
def RoadA (I : MI) (k : Nat) (R : RD) : Prop :=
  I 128 k 10 = nI (rC R) ∧ I 128 k 11 = nI (rW R) ∧ I 128 k 8 = rP R ∧ I 128 k 12 = rN R ∧ (∀ c, c < rC R → I 129 k c = rh R c ∧ I 130 k c = rp R c) ∧
  (∀ w, w < rW R → I 131 k w = nI (rf R w) ∧ I 132 k w = nI (rt R w) ∧ I 133 k w = rk R w ∧ I 134 k w = nI (rl R w)) ∧ lawA I k 13 14 (rT R) ∧ lawA I k 15 16 (rU R)
/-- the cells of a road -/
def rdS (k : Nat) : Nat → Nat → Prop := fun r a => 128 ≤ r ∧ r ≤ 135 ∧ a = k
theorem RoadA.same {S : Nat → Nat → Prop} {I I' : MI} {k : Nat} {R : RD} (h : RoadA I k R) (hs : Same S I I') (hn : ∀ r, 128 ≤ r → r ≤ 135 → ¬ S r k) : RoadA I' k R := by
  have e0 := hs 128 k (hn 128 (by omega) (by omega))
  have e1 := hs 129 k (hn 129 (by omega) (by omega))
  have e2 := hs 130 k (hn 130 (by omega) (by omega))
  have e3 := hs 131 k (hn 131 (by omega) (by omega))
  have e4 := hs 132 k (hn 132 (by omega) (by omega))
  have e5 := hs 133 k (hn 133 (by omega) (by omega))
  have e6 := hs 134 k (hn 134 (by omega) (by omega))
  have e7 := hs 135 k (hn 135 (by omega) (by omega))
  unfold RoadA lawA
  rw [e0, e1, e2, e3, e4, e5, e6, e7]
  exact h
def WF (R : RD) : Prop :=
  rC R ≤ 6 ∧ rW R ≤ 10 ∧ (∀ w, w < rW R → rf R w < rC R ∧ rt R w < rC R ∧ rl R w ≤ 2 ∧ (rl R w = 0 → rf R w < rt R w)) ∧ rg (rP R) 1 99 ∧ (∀ c, c < rC R → rg (rh R c) 0 99 ∧ rg (rp R c) 0 99) ∧ (∀ w, w < rW R → rg (rk R w) 0 99) ∧
  (∀ f, rU R = some f → ∀ nm, Bd nm → f nm = 0 ∨ f nm = 1) ∧ (∀ f, rT R = some f → ∀ nm, Bd nm → rg (f nm) (-1000000) 1000000)
def nmO (R : RD) (w : Nat) (mud x : Int32) : Nat → Int32 := fun k => match k with
  | 0 => nI (rf R w)
  | 1 => nI (rt R w)
  | 2 => mud
  | 3 => x
  | _ => rp R (rt R w)
def tmO (R : RD) (mud : Int32) (w : Nat) : Int32 := match rT R with
  | none => rk R w + mud
  | some f => mx 0 (mn 999 (f (nmO R w mud (rk R w))))
def gpO (R : RD) (mud : Int32) (w : Nat) : Int32 := ((rh R (rf R w) - rh R (rt R w)) + tmO R mud w) - nI (rl R w) * rP R
theorem Bd_nm {R : RD} (hR : WF R) {w m : Nat} {x : Int32} (hw : w < rW R) (hm : m ≤ 9) (hx : rg x (-200000) 200000) : Bd (nmO R w (nI m) x) := by
  obtain ⟨h1, h2, h3, h4, h5, h6, h7⟩ := hR
  obtain ⟨a1, a2, a3, a4⟩ := h3 w hw
  intro k
  match k with
  | 0 => exact rg_n (by omega) (by omega) (by omega)
  | 1 => exact rg_n (by omega) (by omega) (by omega)
  | 2 => exact rg_n (by omega) (by omega) (by omega)
  | 3 => exact hx
  | k + 4 => exact (h5 _ a2).2.mono (by omega) (by omega)
def nmS : Nat → Nat → Prop := fun r a => r = 385 ∧ a = 0
section Road
variable {d i : Nat} {I : MI} {L : ML} {R : RD}
theorem c_Law_setNames {w : Nat} {mud x : Int32} {K : MI → ML → Prop} (hd : 2 ≤ d) (hR : WF R) (hA : RoadA I i R) (hw : w < rW R) (h : ∀ I', (∀ k, k < 5 → I' 385 0 k = nmO R w mud x k) → Same nmS I I' → K I' L) : CV d m_Law_setNames [vR 384 0, vR 128 i, vI (nI w), vI mud, vI x] I L K := by
  have hw10 : w < 10 := by have := hR.2.1; omega
  obtain ⟨g1, g2, g3, g4, g5, g6, g7, g8⟩ := hA
  obtain ⟨f1, f2, f3, f4⟩ := g6 w hw
  obtain ⟨b1, b2, b3, b4⟩ := hR.2.2.1 w hw
  have hC := hR.1
  refine toCV (n := 1) hd (r_Law_setNames_0 ?_)
  refine c_Road_fromOf (by omega) hw10 (c_Road_toOf (by omega) hw10 (c_Road_toOf (by omega) hw10 ?_))
  have e : (ui (ui (ui (ui I 385 0 0 (I 131 i w)) 385 0 1 ((ui I 385 0 0 (I 131 i w)) 132 i w)) 385 0 2 mud) 385 0 3 x) 132 i w = nI (rt R w) := by simp [ui, f2]
  rw [e]
  refine c_Road_patienceOf (by omega) (by omega) ⟨rfl, h _ (fun k hk => ?_) (((((Same.rf.ui ⟨rfl, rfl⟩).ui ⟨rfl, rfl⟩).ui ⟨rfl, rfl⟩).ui ⟨rfl, rfl⟩).ui ⟨rfl, rfl⟩)⟩
  match k, hk with
  | 0, _ => simp [ui, nmO, f1]
  | 1, _ => simp [ui, nmO, f2]
  | 2, _ => simp [ui, nmO]
  | 3, _ => simp [ui, nmO]
  | 4, _ => simp [ui, nmO, (g5 _ b2).2]
theorem c_Road_hasTakesLaw {K : Int32 → MI → ML → Prop} (hd : 1 ≤ d) (hA : RoadA I i R) (h0 : rT R = none → K 0 I L) (h1 : ∀ f, rT R = some f → K 1 I L) : CI d m_Road_hasTakesLaw [vR 128 i] I L K := by
  refine toCI (n := 0) hd (r_Road_hasTakesLaw_0 ?_)
  have hl := hA.2.2.2.2.2.2.1
  cases hT : rT R with
  | none =>
    rw [hT] at hl
    exact ⟨fun _ => ⟨_, rfl, h0 hT⟩, fun q => absurd hl q⟩
  | some f =>
    rw [hT] at hl
    obtain ⟨b, e, e1, e2, e3⟩ := hl
    rw [e1, e2]
    exact ⟨fun q => absurd q (nI_ge e3.1 (by have := e3.2.1; omega)), fun _ => ⟨_, rfl, h1 f hT⟩⟩
theorem c_Road_hasWaitsLaw {K : Int32 → MI → ML → Prop} (hd : 1 ≤ d) (hA : RoadA I i R) (h0 : rU R = none → K 0 I L) (h1 : ∀ f, rU R = some f → K 1 I L) : CI d m_Road_hasWaitsLaw [vR 128 i] I L K := by
  refine toCI (n := 0) hd (r_Road_hasWaitsLaw_0 ?_)
  have hl := hA.2.2.2.2.2.2.2
  cases hT : rU R with
  | none =>
    rw [hT] at hl
    exact ⟨fun _ => ⟨_, rfl, h0 hT⟩, fun q => absurd hl q⟩
  | some f =>
    rw [hT] at hl
    obtain ⟨b, e, e1, e2, e3⟩ := hl
    rw [e1, e2]
    exact ⟨fun q => absurd q (nI_ge e3.1 (by have := e3.2.1; omega)), fun _ => ⟨_, rfl, h1 f hT⟩⟩
def rkS : Nat → Nat → Prop := fun r a => (r = 323 ∨ r = 324 ∨ r = 384 ∨ r = 385 ∨ r = 386) ∧ a = 0
/-- the times of mud m are laid -/
def tmA (I : MI) (R : RD) (m : Nat) (n : Nat) : Prop := ∀ w, w < n → I 323 0 w = tmO R (nI m) w ∧ I 324 0 w = gpO R (nI m) w
theorem l_Go_reckon {Q : QT} {m : Nat} (hd : 3 ≤ d) (hR : WF R) (hm : m ≤ 9) {I0 : MI} (hA : RoadA I0 0 R) (hk : ∀ I', tmA I' R m (rW R) → Same rkS I0 I' → Q none I' L) :
    ∀ (n w : Nat) (I : MI), w + n = rW R → tmA I R m w → Same rkS I0 I → XX (d + 1) m_Go_reckon Q 16 [vR 320 0, vI (nI m), vI (nI w), vD] [] I L := by
  intro n
  induction n with
  | zero =>
    intro w I hw ht hS
    have hA1 := hA.same hS (fun r h1 h2 q => by rcases q.1 with z | z | z | z | z <;> omega)
    refine r_Go_reckon_16 ⟨fun _ => hk I (by rw [show rW R = w by omega]; exact ht) hS, fun q => ?_⟩
    rw [hA1.2.1] at q
    exact absurd (nI_le (show rW R ≤ w by omega) (by have := hR.2.1; omega)) q
  | succ n ih =>
    intro w I hw ht hS
    have hW := hR.2.1
    have hw10 : w < 10 := by omega
    have hwR : w < rW R := by omega
    have hC := hR.1
    have hv : vp_in (nI w) 10 := vin hw10 (by omega)
    have hA1 := hA.same hS (fun r h1 h2 q => by rcases q.1 with z | z | z | z | z <;> omega)
    obtain ⟨f1, f2, f3, f4⟩ := hA1.2.2.2.2.2.1 w hwR
    obtain ⟨b1, b2, b3, b4⟩ := hR.2.2.1 w hwR
    refine r_Go_reckon_16 ⟨fun q => ?_, fun _ => ⟨fun q => absurd q (nle_c (m := 10) hw10 (by omega)), fun _ => ?_⟩⟩
    · rw [hA1.2.1] at q
      exact absurd q (nI_ge hwR (by omega))
    have tail : ∀ (J : MI), Same rkS I0 J → tmA J R m w → J 323 0 w = tmO R (nI m) w → CI d m_Road_fromOf [vR 128 0, vI (nI w)] J L (fun x10 I8 L9 => CI d m_Road_hourOf [vR 128 0, vI x10] I8 L9 (fun x13 I11 L12 => CI d m_Road_toOf [vR 128 0, vI (nI w)] I11 L12 (fun x16 I14 L15 => CI d m_Road_hourOf [vR 128 0, vI x16] I14 L15 (fun x19 I17 L18 => (vp_in (nI w) 10) ∧ (CI d m_Road_lagOf [vR 128 0, vI (nI w)] I17 L18 (fun x22 I20 L21 => (vp_in (nI w) 10) ∧ (XX (d + 1) m_Go_reckon Q 16 [vR 320 0, vI (nI m), vI (nI w + 1), vD] [] (ui I20 324 0 w (((x13 - x19) + (I17 323 0 w)) - (x22 * (I20 128 0 8)))) L21))))))) := by
      intro J hSJ htJ hJ
      have hAJ := hA.same hSJ (fun r h1 h2 q => by rcases q.1 with z | z | z | z | z <;> omega)
      obtain ⟨e1, e2, e3, e4⟩ := hAJ.2.2.2.2.2.1 w hwR
      refine c_Road_fromOf (by omega) hw10 ?_
      rw [e1]
      refine c_Road_hourOf (by omega) (by omega) (c_Road_toOf (by omega) hw10 ?_)
      rw [e2]
      refine c_Road_hourOf (by omega) (by omega) ⟨hv, c_Road_lagOf (by omega) hw10 ⟨hv, ?_⟩⟩
      rw [nI_1, e4, hJ, hAJ.2.2.1, (hAJ.2.2.2.2.1 _ b1).1, (hAJ.2.2.2.2.1 _ b2).1]
      refine ih (w + 1) _ (by omega) (fun k hk => ?_) (hSJ.ui ⟨by simp, rfl⟩)
      by_cases e : k = w
      · subst e
        exact ⟨by rw [ui_r (by decide)]; exact hJ, by rw [ui_s]; rfl⟩
      · obtain ⟨z1, z2⟩ := htJ k (by omega)
        exact ⟨by rw [ui_r (by decide)]; exact z1, by rw [ui_k e]; exact z2⟩
    refine c_Road_takesOf (by omega) hw10 ⟨hv, ?_⟩
    rw [cl_n (by omega), f3]
    have hS2 : Same rkS I0 (ui I 323 0 w (rk R w + nI m)) := hS.ui ⟨by simp, rfl⟩
    have hA2 := hA.same hS2 (fun r h1 h2 q => by rcases q.1 with z | z | z | z | z <;> omega)
    have keep : ∀ x : Int32, tmA (ui I 323 0 w x) R m w := fun x k hk => by
      obtain ⟨z1, z2⟩ := ht k hk
      exact ⟨by rw [ui_k (by omega)]; exact z1, by rw [ui_r (by decide)]; exact z2⟩
    refine c_Road_hasTakesLaw (by omega) hA2 (fun hT => ⟨fun _ => ?_, fun q => absurd rfl q⟩) (fun f hT => ⟨fun q => absurd q (by decide), fun _ => ?_⟩)
    · refine tail _ hS2 (keep _) ?_
      rw [ui_s]
      simp [tmO, hT]
    · refine c_Road_takesOf (by omega) hw10 ?_
      have ek : (ui I 323 0 w (rk R w + nI m)) 133 0 w = rk R w := by rw [ui_r (by decide)]; exact f3
      rw [ek]
      refine c_Law_setNames (by omega) hR hA2 hwR (fun J hJn hJs => ?_)
      have hS3 : Same rkS I0 J := hS2.tr (hJs.mono (fun r a q => ⟨by simp [q.1], q.2⟩))
      have hA3 := hA.same hS3 (fun r h1 h2 q => by rcases q.1 with z | z | z | z | z <;> omega)
      have hl := hA3.2.2.2.2.2.2.1
      rw [hT] at hl
      obtain ⟨b, e, g1, g2, g3⟩ := hl
      rw [g1, g2]
      obtain ⟨N, hN, hgo⟩ := g3.2.2 (nmO R w (nI m) (rk R w)) (Bd_nm hR hwR hm ((hR.2.2.2.2.2.1 w hwR).mono (by omega) (by omega)))
      refine c_Law_tell (by omega) g3.2.1 (fun p hp => rfl) hJn hgo hN (by have := g3.1; omega) (fun J2 hJ2 => ?_)
      have hS4 : Same rkS I0 J2 := hS3.tr (hJ2.mono (fun r a q => ⟨by rcases q.1 with z | z <;> simp [z], q.2⟩))
      refine c_min (by omega) (c_max (by omega) ⟨hv, ?_⟩)
      refine tail _ (hS4.ui ⟨Or.inl rfl, rfl⟩) ?_ ?_
      · intro k hk
        obtain ⟨z1, z2⟩ := ht k hk
        have q1 : J2 323 0 = (ui I 323 0 w (rk R w + nI m)) 323 0 := by rw [hJ2 323 0 (fun q => by rcases q.1 with z | z <;> exact absurd z (by decide)), hJs 323 0 (fun q => absurd q.1 (by decide))]
        have q2 : J2 324 0 = (ui I 323 0 w (rk R w + nI m)) 324 0 := by rw [hJ2 324 0 (fun q => by rcases q.1 with z | z <;> exact absurd z (by decide)), hJs 324 0 (fun q => absurd q.1 (by decide))]
        refine ⟨?_, ?_⟩
        · rw [ui_k (by omega), q1, ui_k (by omega)]; exact z1
        · rw [ui_r (by decide), q2, ui_r (by decide)]; exact z2
      · rw [ui_s]
        simp [tmO, hT]
end Road
