/-! contracts: first words -/
theorem toCI {d n : Nat} {y : MTy} {a : List MV} {I : MI} {L : ML} {K : Int32 → MI → ML → Prop} (hd : n + 1 ≤ d) (h : XX (n + 1) y (fun r I' L' => ∃ x, r = some (vI x) ∧ K x I' L') 0 (ent y.2.2.1 a) [] I L) : CI d y a I L K := XX_le hd h
theorem toCJ {d n : Nat} {y : MTy} {a : List MV} {I : MI} {L : ML} {K : Int64 → MI → ML → Prop} (hd : n + 1 ≤ d) (h : XX (n + 1) y (fun r I' L' => ∃ x, r = some (vL x) ∧ K x I' L') 0 (ent y.2.2.1 a) [] I L) : CJ d y a I L K := XX_le hd h
theorem toCV {d n : Nat} {y : MTy} {a : List MV} {I : MI} {L : ML} {K : MI → ML → Prop} (hd : n + 1 ≤ d) (h : XX (n + 1) y (fun r I' L' => r = none ∧ K I' L') 0 (ent y.2.2.1 a) [] I L) : CV d y a I L K := XX_le hd h
theorem toCA {d n : Nat} {y : MTy} {a : List MV} {I : MI} {L : ML} {rr : Nat} {K0 : MI → ML → Prop} {K : Nat → MI → ML → Prop} (hd : n + 1 ≤ d) (h : XX (n + 1) y (fun r I' L' => (r = some vN ∧ K0 I' L') ∨ ∃ i, r = some (vR rr i) ∧ K i I' L') 0 (ent y.2.2.1 a) [] I L) : CA d y a I L rr K0 K := XX_le hd h
/-- nothing but the cells of S has changed -/
def Same (S : Nat → Nat → Prop) (I I' : MI) : Prop := ∀ r a : Nat, ¬ S r a → I' r a = I r a
theorem Same.rf {S : Nat → Nat → Prop} {I : MI} : Same S I I := fun _ _ _ => rfl
theorem Same.tr {S : Nat → Nat → Prop} {I I' I'' : MI} (h : Same S I I') (h' : Same S I' I'') : Same S I I'' := fun r a hn => (h' r a hn).trans (h r a hn)
theorem Same.mono {S S' : Nat → Nat → Prop} {I I' : MI} (h : Same S I I') (hs : ∀ r a, S r a → S' r a) : Same S' I I' := fun r a hn => h r a (fun q => hn (hs r a q))
theorem Same.ui {S : Nat → Nat → Prop} {I I' : MI} {r i k : Nat} {x : Int32} (h : Same S I I') (hs : S r i) : Same S I (ui I' r i k x) := fun a b hn => by
  rw [ui_off (fun q => hn (by rw [q.1, q.2]; exact hs))]
  exact h a b hn
theorem Same.ua {S : Nat → Nat → Prop} {I I' : MI} {r i : Nat} {f : Nat → Int32} (h : Same S I I') (hs : S r i) : Same S I (ua I' r i f) := fun a b hn => by
  rw [ua_off (fun q => hn (by rw [q.1, q.2]; exact hs))]
  exact h a b hn
theorem ui_s {I : MI} {r i k : Nat} {x : Int32} : ui I r i k x r i k = x := by simp [ui]
theorem ui_k {I : MI} {r i k j : Nat} {x : Int32} (h : j ≠ k) : ui I r i k x r i j = I r i j := by simp [ui, h]
theorem ui_r {I : MI} {r i k a b j : Nat} {x : Int32} (h : a ≠ r) : ui I r i k x a b j = I a b j := by simp [ui, h]
theorem ui_i {I : MI} {r i k a b j : Nat} {x : Int32} (h : b ≠ i) : ui I r i k x a b j = I a b j := by simp [ui, h]
theorem nlt0 {n : Nat} (h : n < 2 ^ 31) : ¬ nI n < 0 := nI_pos h
theorem nle_c {m j : Nat} (h : j < m) (hm : m < 2 ^ 31) : ¬ nI m ≤ nI j := nI_ge h hm
theorem le_c {m j : Nat} (h : m ≤ j) (hj : j < 2 ^ 31) : nI m ≤ nI j := nI_le h hj
theorem vin {j n : Nat} (h : j < n) (hn : n < 2 ^ 31) : vp_in (nI j) n := vp_in_nI h hn
theorem cl_n {j : Nat} (h : j < 2 ^ 31) : (nI j).toNatClampNeg = j := nI_clamp h
section JDK
variable {d : Nat} {I : MI} {L : ML}
def mx (a b : Int32) : Int32 := if a < b then b else a
def mn (a b : Int32) : Int32 := if b < a then b else a
def mxL (a b : Int64) : Int64 := if lg_cmp a b < 0 then b else a
def mnL (a b : Int64) : Int64 := if 0 < lg_cmp a b then b else a
theorem c_max {a b : Int32} {K : Int32 → MI → ML → Prop} (hd : 1 ≤ d) (h : K (mx a b) I L) : CI d m_Math_max_II [vI a, vI b] I L K := by
  refine toCI (n := 0) hd (r_Math_max_II_0 ?_)
  unfold mx at h
  refine ⟨fun q => ⟨_, rfl, ?_⟩, fun q => ⟨_, rfl, ?_⟩⟩
  · rw [if_pos q] at h; exact h
  · rw [if_neg q] at h; exact h
theorem c_min {a b : Int32} {K : Int32 → MI → ML → Prop} (hd : 1 ≤ d) (h : K (mn a b) I L) : CI d m_Math_min_II [vI a, vI b] I L K := by
  refine toCI (n := 0) hd (r_Math_min_II_0 ?_)
  unfold mn at h
  refine ⟨fun q => ⟨_, rfl, ?_⟩, fun q => ⟨_, rfl, ?_⟩⟩
  · rw [if_pos q] at h; exact h
  · rw [if_neg q] at h; exact h
theorem fm_ck : ((List.range 20).all fun n => decide (0 ≤ (nI n ^^^ (10 : Int32))) && decide (nI n % (10 : Int32) = nI (n % 10))) = true := by decide +kernel
theorem c_fm10 {n : Nat} {K : Int32 → MI → ML → Prop} (hd : 1 ≤ d) (hn : n < 20) (h : K (nI (n % 10)) I L) : CI d m_Math_floorMod [vI (nI n), vI 10] I L K := by
  refine toCI (n := 0) hd (r_Math_floorMod_0 ?_)
  have hc := List.all_eq_true.mp fm_ck n (List.mem_range.mpr hn)
  simp only [Bool.and_eq_true, decide_eq_true_eq] at hc
  refine ⟨by decide, fun _ => ⟨_, rfl, ?_⟩, fun q => absurd hc.1 q⟩
  rw [hc.2]
  exact h
def popc : Nat → Nat → Nat
  | 0, _ => 0
  | k + 1, n => n % 2 + popc k (n / 2)
theorem c_bc {x : Int32} {K : Int32 → MI → ML → Prop} (hd : 1 ≤ d) (h : ∀ y, (∀ n, n < 1024 → x = nI n → y = nI (popc 10 n)) → K y I L) : CI d m_Int_bitCount [vI x] I L K := by
  refine toCI (n := 0) hd (r_Int_bitCount_0 ?_)
  refine ⟨_, rfl, h _ ?_⟩
  intro n hn e
  subst e
  clear h hd
  revert n
  decide +kernel
end JDK
