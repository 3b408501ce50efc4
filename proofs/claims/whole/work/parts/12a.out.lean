/-! to leave out a wait that makes nobody late is like leaving out none -/
theorem out_fold {R : RD} {mud : Int32} {fr la ea : Nat → Int32} {w : Nat} (hw : w < 10) : ∀ (l : List Nat) (b b' : Int32 × Int32), (∀ x ∈ l, x < 10) → (b = b' ∨ (b.2 = nI w ∧ b'.1.toInt ≤ b.1.toInt)) →
    (l.foldl (bst R mud (-1) fr la ea) b = l.foldl (bst R mud (nI w) fr la ea) b' ∨ ((l.foldl (bst R mud (-1) fr la ea) b).2 = nI w ∧ (l.foldl (bst R mud (nI w) fr la ea) b').1.toInt ≤ (l.foldl (bst R mud (-1) fr la ea) b).1.toInt)) := by
  intro l
  induction l with
  | nil => intro b b' _ h; exact h
  | cons x l ih =>
    intro b b' hl h
    rw [List.foldl_cons, List.foldl_cons]
    refine ih _ _ (fun y hy => hl y (List.mem_cons_of_mem _ hy)) ?_
    have hx := hl x List.mem_cons_self
    have nm : ¬ nI x = (-1 : Int32) := nI_m1 (by omega)
    generalize ev : alO R mud x fr la ea = v
    unfold bst
    rw [ev]
    by_cases ok : kvO R mud x v = 1
    · by_cases ex : x = w
      · subst ex
        rw [if_neg (fun z : b'.1 < v ∧ ¬ nI x = nI x ∧ kvO R mud x v = 1 => z.2.1 rfl)]
        by_cases g : b.1 < v
        · rw [if_pos ⟨g, nm, ok⟩]
          refine Or.inr ⟨rfl, ?_⟩
          have := Int32.lt_iff_toInt_lt.mp g
          rcases h with z | z
          · rw [← z]; show b.1.toInt ≤ v.toInt; omega
          · show b'.1.toInt ≤ v.toInt; omega
        · rw [if_neg (fun z : b.1 < v ∧ _ => g z.1)]
          exact h
      · have nw : ¬ nI x = nI w := fun z => ex ((nI_eq (by omega) (by omega)).mp z)
        by_cases g : b.1 < v
        · have g' : b'.1 < v := by
            rcases h with z | z
            · rw [← z]; exact g
            · have := Int32.lt_iff_toInt_lt.mp g
              exact Int32.lt_iff_toInt_lt.mpr (by omega)
          rw [if_pos ⟨g, nm, ok⟩, if_pos ⟨g', nw, ok⟩]
          exact Or.inl rfl
        · rw [if_neg (fun z : b.1 < v ∧ _ => g z.1)]
          by_cases g' : b'.1 < v
          · rw [if_pos ⟨g', nw, ok⟩]
            rcases h with z | z
            · rw [z] at g; exact absurd g' g
            · refine Or.inr ⟨z.1, ?_⟩
              have := Int32.le_iff_toInt_le.mp (Int32.not_lt.mp g)
              exact this
          · rw [if_neg (fun z : b'.1 < v ∧ _ => g' z.1)]
            exact h
    · rw [if_neg (fun z : b.1 < v ∧ ¬ nI x = (-1 : Int32) ∧ kvO R mud x v = 1 => ok z.2.2), if_neg (fun z : b'.1 < v ∧ ¬ nI x = nI w ∧ kvO R mud x v = 1 => ok z.2.2)]
      exact h
theorem best_out {R : RD} (hR : WF R) {mud : Int32} {fr la ea : Nat → Int32} {w c : Nat} (hw : w < 10) (h : (best R mud (-1) fr la ea c).2 ≠ nI w) : best R mud (nI w) fr la ea c = best R mud (-1) fr la ea c := by
  have hW := hR.2.1
  rcases out_fold (R := R) (mud := mud) (fr := fr) (la := la) (ea := ea) hw (wts R c) (0, -1) (0, -1) (fun x hx => by have := (wts_mem.mp hx).1; omega) (Or.inl rfl) with z | z
  · exact z.symm
  · exact absurd z.1 h
theorem fsh_out {R : RD} (hR : WF R) {s : SA} {w : Nat} (hw : w < 10) : ∀ n, (∀ c, c < n → csO R s (-1) c ≠ nI w) → fsh R s (nI w) n = fsh R s (-1) n := by
  intro n
  induction n with
  | zero => intro _; rfl
  | succ n ih =>
    intro h
    have i1 := ih (fun c hc => h c (by omega))
    funext c
    simp only [fsh]
    rw [i1, best_out hR hw (h n (by omega))]
theorem trn_out {R : RD} (hR : WF R) {s : SA} {w : Nat} (hw : w < 10) (h : ∀ c, c < rC R → csO R s (-1) c ≠ nI w) : trn R s (nI w) = trn R s (-1) := by
  have e : frO R s (nI w) = frO R s (-1) := by
    funext c
    unfold frO
    rw [fsh_out hR hw _ h]
  unfold trn
  rw [e]
/-- a cause is none, or a wait of that coach -/
theorem cs_in {R : RD} {s : SA} {out : Int32} {c : Nat} : csO R s out c = -1 ∨ ∃ w, w < rW R ∧ rt R w = c ∧ csO R s out c = nI w := by
  unfold csO best
  have key : ∀ (l : List Nat) (b : Int32 × Int32), (∀ x ∈ l, x < rW R ∧ rt R x = c) → (b.2 = -1 ∨ ∃ w, w < rW R ∧ rt R w = c ∧ b.2 = nI w) → (l.foldl (bst R s.2.2.2.1 out (fsh R s out c) s.1 s.2.1) b).2 = -1 ∨ ∃ w, w < rW R ∧ rt R w = c ∧ (l.foldl (bst R s.2.2.2.1 out (fsh R s out c) s.1 s.2.1) b).2 = nI w := by
    intro l
    induction l with
    | nil => intro b _ h; exact h
    | cons x l ih =>
      intro b hl h
      rw [List.foldl_cons]
      refine ih _ (fun y hy => hl y (List.mem_cons_of_mem _ hy)) ?_
      unfold bst
      by_cases g : b.1 < alO R s.2.2.2.1 x (fsh R s out c) s.1 s.2.1 ∧ ¬ nI x = out ∧ kvO R s.2.2.2.1 x (alO R s.2.2.2.1 x (fsh R s out c) s.1 s.2.1) = 1
      · rw [if_pos g]
        exact Or.inr ⟨x, (hl x List.mem_cons_self).1, (hl x List.mem_cons_self).2, rfl⟩
      · rw [if_neg g]; exact h
  exact key (wts R c) (0, -1) (fun x hx => wts_mem.mp hx) (Or.inl rfl)
/-! the causes as a set -/
def caN (R : RD) (s : SA) (w : Nat) : Bool := (List.range (rC R)).any fun c => decide (csO R s (-1) c = nI w)
theorem caN_no {R : RD} (hR : WF R) {s : SA} {w : Nat} (hw : w < 10) (h : caN R s w = false) : trn R s (nI w) = trn R s (-1) := by
  refine trn_out hR hw (fun c hc e => ?_)
  have : caN R s w = true := List.any_eq_true.mpr ⟨c, List.mem_range.mpr hc, decide_eq_true e⟩
  rw [this] at h
  cases h
theorem bit_tab : ((List.range 10).all fun k => (List.range 10).all fun j => decide ((((1 : Int32) <<< (nI k &&& 31)) >>> (nI j &&& 31)) &&& (1 : Int32) = (if k = j then 1 else 0))) = true := by decide +kernel
theorem sh_or (a b : Int32) (j : Nat) (hj : j < 10) : ((a ||| b) >>> (nI j &&& 31)) &&& (1 : Int32) = ((a >>> (nI j &&& 31)) &&& 1) ||| ((b >>> (nI j &&& 31)) &&& 1) := by
  apply Int32.toBitVec_inj.mp
  simp only [Int32.toBitVec_and, Int32.toBitVec_or, Int32.toBitVec_shiftRight]
  generalize ((nI j).toBitVec &&& (31 : Int32).toBitVec).smod (32 : BitVec 32) = q
  ext i hi
  simp only [BitVec.getElem_and, BitVec.getElem_or, BitVec.sshiftRight_eq', BitVec.getElem_sshiftRight, BitVec.msb_or]
  by_cases e : q.toNat + i < 32
  · simp only [e, dite_true, BitVec.getElem_or]
    cases a.toBitVec[q.toNat + i] <;> cases b.toBitVec[q.toNat + i] <;> simp
  · simp only [e, dite_false]
    cases a.toBitVec.msb <;> cases b.toBitVec.msb <;> simp
/-- bit w of the causes -/
theorem cb_bit {R : RD} (hR : WF R) {s : SA} {w : Nat} (hw : w < 10) : ∀ n, ((cbN (fun c => csO R s (-1) c) n >>> (nI w &&& 31)) &&& (1 : Int32)) = if ((List.range n).any fun c => decide (csO R s (-1) c = nI w)) = true then 1 else 0 := by
  have hW := hR.2.1
  have z0 : ((List.range 10).all fun j => decide ((((0 : Int32)) >>> (nI j &&& 31)) &&& (1 : Int32) = 0)) = true := by decide +kernel
  intro n
  induction n with
  | zero =>
    rw [if_neg (by simp)]
    exact of_decide_eq_true (List.all_eq_true.mp z0 w (List.mem_range.mpr hw))
  | succ n ih =>
    have ea : ((List.range (n + 1)).any fun c => decide (csO R s (-1) c = nI w)) = (((List.range n).any fun c => decide (csO R s (-1) c = nI w)) || decide (csO R s (-1) n = nI w)) := by
      rw [List.range_succ, List.any_append]; simp
    rw [ea]
    simp only [cbN]
    rcases cs_in (R := R) (s := s) (out := -1) (c := n) with z | ⟨v, hv, _, z⟩
    · rw [if_pos z, ih]
      have : decide (csO R s (-1) n = nI w) = false := decide_eq_false (by rw [z]; exact fun q => nI_m1 (by omega) q.symm)
      rw [this, Bool.or_false]
    · have nm : ¬ csO R s (-1) n = -1 := by rw [z]; exact nI_m1 (by omega)
      rw [if_neg nm, sh_or _ _ _ hw, ih, z]
      have tb := of_decide_eq_true (List.all_eq_true.mp (List.all_eq_true.mp bit_tab v (List.mem_range.mpr (by omega))) w (List.mem_range.mpr hw))
      rw [tb]
      by_cases e : v = w
      · subst e
        rw [if_pos rfl]
        have : decide (nI v = nI v) = true := decide_eq_true rfl
        rw [this, Bool.or_true, if_pos rfl]
        by_cases y : ((List.range n).any fun c => decide (csO R s (-1) c = nI v)) = true
        · rw [if_pos y]; rfl
        · rw [if_neg y]; rfl
      · rw [if_neg e]
        have : decide (nI v = nI w) = false := decide_eq_false (fun q => e ((nI_eq (by omega) (by omega)).mp q))
        rw [this, Bool.or_false, or0]
