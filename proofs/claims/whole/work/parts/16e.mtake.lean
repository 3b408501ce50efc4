/-! the reference takes a TOKEN -/
def PsM (I : MI) (B : Nat → Nat) (n p : Nat) : Prop := TxM I B n ∧ TkM I (tkn B n p) ∧ p ≤ n ∧ I 704 0 11 = 0
def FtM (I : MI) (k pl : Nat) : Prop := I 704 0 11 = nI k ∧ 1 ≤ k ∧ k ≤ 4 ∧ I 704 0 12 = nI pl
section TakeM
variable {d : Nat} {I : MI} {L : ML} {B : Nat → Nat} {n p : Nat}
theorem FtM_ne {k pl : Nat} (h : FtM I k pl) : I 704 0 11 ≠ 0 := by
  rw [h.1]
  exact nI_ne0 (by have := h.2.1; omega) (by have := h.2.2.1; omega)
theorem c_M_next {K : MI → ML → Prop} (hd : 6 ≤ d) (hP : PsM I B n p) (h : ∀ I', PsM I' B n (tkn B n p).2.2.1 → frW I I' → K I' L) : CV d m_M_next [vR 704 0] I L K := by
  obtain ⟨hT, hC, hp, h0⟩ := hP
  have hf := tk_f (B := B) hp
  refine toCV (n := 5) hd (x_M_next (by omega) hT hC.2.1 hf.2.2.1 (fun I' h1 h2 => ⟨rfl, h I' ⟨TxM_fr hT (frW_N h2), h1, hf.2.2.1, by rw [h2.2 11 (by omega)]; exact h0⟩ h2⟩))
theorem tk_lt (hp : p ≤ n) : (tkn B n p).1 ≤ 41 := by
  have := (tk_f (B := B) hp).2.2.2.2.2.2.2.2.1
  omega
theorem c_M_is {j : Nat} {K : Int32 → MI → ML → Prop} (hd : 1 ≤ d) (hP : PsM I B n p) (hj : j ≤ 100) (h1 : (tkn B n p).1 = j → K 1 I L) (h0 : (tkn B n p).1 ≠ j → K 0 I L) : CI d m_M_is [vR 704 0, vI (nI j)] I L K := by
  have hl := tk_lt (B := B) hP.2.2.1
  refine toCI (n := 0) hd (r_M_is_0 ?_)
  rw [hP.2.2.2, hP.2.1.2.2.1]
  exact ⟨fun q => absurd rfl q, fun _ => ⟨fun q => ⟨_, rfl, h0 (fun z => q (by rw [z]))⟩, fun q => ⟨_, rfl, h1 ((nI_eq (by omega) (by omega)).mp (Classical.not_not.mp q))⟩⟩⟩
theorem c_M_isF {k pl : Nat} {j : Int32} {K : Int32 → MI → ML → Prop} (hd : 1 ≤ d) (hF : FtM I k pl) (h : K 0 I L) : CI d m_M_is [vR 704 0, vI j] I L K := toCI (n := 0) hd (r_M_is_0 ⟨fun _ => ⟨_, rfl, h⟩, fun q => absurd (FtM_ne hF) q⟩)
theorem c_M_eats {j : Nat} {K : Int32 → MI → ML → Prop} (hd : 7 ≤ d) (hP : PsM I B n p) (hj : j ≤ 100) (h1 : (tkn B n p).1 = j → ∀ I', PsM I' B n (tkn B n p).2.2.1 → frW I I' → K 1 I' L) (h0 : (tkn B n p).1 ≠ j → K 0 I L) : CI d m_M_eats [vR 704 0, vI (nI j)] I L K := toCI (n := 6) hd (r_M_eats_0 (c_M_is (by omega) hP hj (fun e => ⟨fun _ => c_M_next (by omega) hP (fun I' h' hF => ⟨_, rfl, h1 e I' h' hF⟩), fun q => absurd (by decide) q⟩) (fun e => ⟨fun q => absurd rfl q, fun _ => ⟨_, rfl, h0 e⟩⟩)))
theorem c_M_eatsF {k pl : Nat} {j : Int32} {K : Int32 → MI → ML → Prop} (hd : 2 ≤ d) (hF : FtM I k pl) (h : K 0 I L) : CI d m_M_eats [vR 704 0, vI j] I L K := toCI (n := 1) hd (r_M_eats_0 (c_M_isF (by omega) hF ⟨fun q => absurd rfl q, fun _ => ⟨_, rfl, h⟩⟩))
theorem c_M_fails {w : Nat} {K : MI → ML → Prop} (hd : 1 ≤ d) (hP : PsM I B n p) (hw1 : 1 ≤ w) (hw : w ≤ 4) (h : ∀ I', FtM I' (fkN (tkn B n p).1 w) (tkn B n p).2.1 → frN I I' → K I' L) : CV d m_M_fails [vR 704 0, vI (nI w)] I L K := by
  have hl := tk_lt (B := B) hP.2.2.1
  have fr : ∀ x y, frN I (ui (ui I 704 0 11 x) 704 0 12 y) := fun x y => ⟨fun r a z => by rw [ui_off z, ui_off z], fun j hj => by rw [ui_k (by omega), ui_k (by omega)]⟩
  unfold fkN at h
  refine toCV (n := 0) hd (r_M_fails_0 ?_)
  rw [hP.2.1.2.2.1]
  refine ⟨fun _ => ⟨fun q => ⟨rfl, ?_⟩, fun q => ⟨rfl, ?_⟩⟩, fun q => absurd hP.2.2.2 q⟩
  · have e : (tkn B n p).1 ≠ 25 := fun z => q (by rw [z]; rfl)
    rw [if_neg e] at h
    refine h _ ⟨by rw [ui_k (by decide), ui_s], hw1, hw, ?_⟩ (fr _ _)
    rw [ui_s, ui_k (by decide)]; exact hP.2.1.1
  · have e : (tkn B n p).1 = 25 := (nI_eq (b := 25) (by omega) (by omega)).mp (Classical.not_not.mp q)
    rw [if_pos e] at h
    refine h _ ⟨by rw [ui_k (by decide), ui_s]; rfl, by omega, by omega, ?_⟩ (fr _ _)
    rw [ui_s, ui_k (by decide)]; exact hP.2.1.1
theorem c_M_failsF {k pl : Nat} {w : Int32} {K : MI → ML → Prop} (hd : 1 ≤ d) (hF : FtM I k pl) (h : K I L) : CV d m_M_fails [vR 704 0, vI w] I L K := toCV (n := 0) hd (r_M_fails_0 ⟨fun q => absurd q (FtM_ne hF), fun _ => ⟨rfl, h⟩⟩)
theorem c_M_takes {a : Nat} {b : Int32} {K : Int32 → MI → ML → Prop} (hd : 7 ≤ d) (hP : PsM I B n p) (ha : a ≤ 999) (h1 : (tkn B n p).1 = 23 → a ≤ (tkn B n p).2.2.2 → nI (tkn B n p).2.2.2 ≤ b → ∀ I', PsM I' B n (tkn B n p).2.2.1 → frN I I' → K (nI (tkn B n p).2.2.2) I' L) (h3 : (tkn B n p).1 = 23 → ¬ (a ≤ (tkn B n p).2.2.2 ∧ nI (tkn B n p).2.2.2 ≤ b) → ∀ x I', FtM I' 3 (tkn B n p).2.1 → frN I I' → K x I' L) (h2 : (tkn B n p).1 ≠ 23 → ∀ x I', FtM I' (fkN (tkn B n p).1 2) (tkn B n p).2.1 → frN I I' → K x I' L) : CI d m_M_takes [vR 704 0, vI (nI a), vI b] I L K := by
  have hv := (tk_f (B := B) hP.2.2.1).2.2.2.2.2.2.2.1
  have f3 : ∀ k, k = 23 → fkN k 3 = 3 := fun k hk => by unfold fkN; rw [if_neg (by omega)]
  refine toCI (n := 6) hd (r_M_takes_0 (c_M_is (j := 23) (by omega) hP (by omega) (fun e => ⟨fun _ => ?_, fun q => absurd (by decide) q⟩) (fun e => ⟨fun q => absurd rfl q, fun _ => c_M_fails (w := 2) (by omega) hP (by omega) (by omega) (fun I' h' hF => ⟨fun _ => ⟨_, rfl, h2 e _ I' h' hF⟩, fun q => absurd (FtM_ne h') q⟩)⟩)))
  have hv := hv e
  rw [hP.2.1.2.2.2 e]
  have e1 := Int32.toInt_toInt64 (nI (tkn B n p).2.2.2)
  have e2 := Int32.toInt_toInt64 (nI a)
  have e3 := Int32.toInt_toInt64 b
  rw [nI_toInt (by omega)] at e1 e2
  refine c_M_within (by omega) (fun g1 g2 => ⟨fun _ => ?_, fun q => absurd (by decide) q⟩) (fun g => ⟨fun q => absurd rfl q, fun _ => c_M_fails (w := 3) (by omega) hP (by omega) (by omega) (fun I' h' hF => ⟨fun _ => ⟨_, rfl, h3 e (fun z => g ?_) _ I' (by rw [f3 _ e] at h'; exact h') hF⟩, fun q => absurd (FtM_ne h') q⟩)⟩)
  · rw [e1, e2] at g1
    rw [e1, e3] at g2
    rw [hP.2.2.2, hP.2.1.2.2.2 e]
    exact ⟨fun q => absurd rfl q, fun _ => c_M_next (by omega) hP (fun I' h' hF => ⟨_, rfl, h1 e (by omega) (Int32.le_iff_toInt_le.mpr (by rw [nI_toInt (by omega)]; exact g2)) I' h' (frW_N hF)⟩)⟩
  · have := Int32.le_iff_toInt_le.mp z.2
    rw [nI_toInt (by omega)] at this
    rw [e1, e2, e3]
    exact ⟨by have := z.1; omega, this⟩
theorem c_M_takesF {k pl : Nat} {a b : Int32} {K : Int32 → MI → ML → Prop} (hd : 2 ≤ d) (hF : FtM I k pl) (h : ∀ x, K x I L) : CI d m_M_takes [vR 704 0, vI a, vI b] I L K := toCI (n := 1) hd (r_M_takes_0 (c_M_isF (by omega) hF ⟨fun q => absurd rfl q, fun _ => c_M_failsF (by omega) hF ⟨fun _ => ⟨_, rfl, h _⟩, fun q => absurd (FtM_ne hF) q⟩⟩))
/-- a word, and fails if it isn't there -/
theorem PsM_fr {I' : MI} (hT : TxM I B n) (hF : frN I I') : TxM I' B n := TxM_fr hT hF
theorem c_M_named {j a : Nat} {b : Int32} {K : Int32 → MI → ML → Prop} (hd : 8 ≤ d) (hP : PsM I B n p) (hj : j ≤ 100) (h1 : (tkn B n p).1 = j → ∀ I', PsM I' B n (tkn B n p).2.2.1 → frW I I' → CI (d - 1) m_M_takes [vR 704 0, vI (nI a), vI b] I' L K) (h0 : (tkn B n p).1 ≠ j → ∀ x I', FtM I' (fkN (tkn B n p).1 2) (tkn B n p).2.1 → frN I I' → K x I' L) : CI d m_M_named [vR 704 0, vI (nI j), vI (nI a), vI b] I L K := by
  have ed : d = (d - 1) + 1 := by omega
  have fold : ∀ J, CI (d - 1) m_M_takes [vR 704 0, vI (nI a), vI b] J L K → CI (d - 1) m_M_takes [vR 704 0, vI (nI a), vI b] J L (fun x6 I4 L5 => ∃ x, some (vI x6) = some (vI x) ∧ K x I4 L5) := fun J hJ => CC_post hJ (fun r I' L' ⟨x, e, k⟩ => ⟨x, e, x, rfl, k⟩)
  refine toCI (n := d - 1) (by omega) (r_M_named_0 (c_M_eats (by omega) hP hj (fun e I' h' hF => ⟨fun _ => fold I' (h1 e I' h' hF), fun q => absurd (by decide) q⟩) (fun e => ⟨fun q => absurd rfl q, fun _ => c_M_fails (w := 2) (by omega) hP (by omega) (by omega) (fun I' h' hF => c_M_takesF (by omega) h' (fun x => ⟨_, rfl, h0 e x I' h' hF⟩))⟩)))
theorem c_M_namedF {k pl : Nat} {j a b : Int32} {K : Int32 → MI → ML → Prop} (hd : 3 ≤ d) (hF : FtM I k pl) (h : ∀ x, K x I L) : CI d m_M_named [vR 704 0, vI j, vI a, vI b] I L K := toCI (n := 2) hd (r_M_named_0 (c_M_eatsF (by omega) hF ⟨fun q => absurd rfl q, fun _ => c_M_failsF (by omega) hF (c_M_takesF (by omega) hF (fun x => ⟨_, rfl, h x⟩))⟩))
end TakeM
