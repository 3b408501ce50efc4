/-! reading a law ends -/
def mu (n nt p : Nat) : Nat := (n - p) * 20 + [0, 2, 4, 6, 8, 10, 1, 3, 7, 9].getD nt 0
section Tot
variable {B : Nat → Nat} {n rd : Nat}
theorem bnd_tot {o : Option PR} {k : Nat → List Nat → DN → Option PR} (h1 : ∃ r, o = some r) (h2 : ∀ p c g, o = some (Sum.inr (p, c, g)) → ∃ r, k p c g = some r) : ∃ r, bnd o k = some r := by
  obtain ⟨r, e⟩ := h1
  subst e
  cases r with
  | inl x => exact ⟨_, rfl⟩
  | inr x => exact h2 x.1 x.2.1 x.2.2 rfl
theorem exq_tot {p k : Nat} {R : Nat → Option PR} (hp : p ≤ n) (hk : k ≠ 24) (h : ∀ e, p < e → e ≤ n → ∃ r, R e = some r) : ∃ r, exq B n p k R = some r := by
  have hf := tk_f (B := B) hp
  unfold exq
  by_cases e : (tkn B n p).1 = k
  · rw [if_pos e]
    have hlt := hf.2.2.2.2.2.1 (by omega)
    exact h _ (by have := hf.1; omega) hf.2.2.1
  · rw [if_neg e]; exact ⟨_, rfl⟩
theorem opn_tot {deep p : Nat} {R : Nat → Option PR} (hp : p ≤ n) (hk : (tkn B n p).1 ≠ 24) (h : ∀ e, p < e → e ≤ n → ∃ r, R e = some r) : ∃ r, opn B n deep p R = some r := by
  have hf := tk_f (B := B) hp
  unfold opn
  by_cases e : deep < 6
  · rw [if_pos e]
    have hlt := hf.2.2.2.2.2.1 hk
    exact h _ (by have := hf.1; omega) hf.2.2.1
  · rw [if_neg e]; exact ⟨_, rfl⟩
theorem prs_tot : ∀ f nt deep p ac ag, nt ≤ 9 → p ≤ n → (nt ≤ 5 → ac = []) → (6 ≤ nt → cOk rd nt ac ag) → mu n nt p < f → ∃ r, prs B n rd f nt deep p ac ag = some r := by
  intro f
  induction f with
  | zero => intro nt deep p ac ag _ _ _ _ h; omega
  | succ f ih =>
    intro nt deep p ac ag hn hp hac hag hmu
    have hf := tk_f (B := B) hp
    have ok := prs_ok (B := B) (n := n) (rd := rd) f
    have later : ∀ {nt' deep' p' : Nat}, nt' ≤ 5 → p < p' → p' ≤ n → ∃ r, prs B n rd f nt' deep' p' [] d0 = some r := by
      intro nt' deep' p' h1 h2 h3
      refine ih nt' deep' p' [] d0 (by omega) h3 (fun _ => rfl) (fun z => by omega) ?_
      have l1 : [0, 2, 4, 6, 8, 10, 1, 3, 7, 9].getD nt' 0 ≤ 10 := by
        match nt', h1 with
        | 0, _ => decide
        | 1, _ => decide
        | 2, _ => decide
        | 3, _ => decide
        | 4, _ => decide
        | 5, _ => decide
      unfold mu at hmu ⊢
      omega
    have got : ∀ {nt' deep' p' p1 : Nat} {c : List Nat} {g : DN}, nt' ≤ 5 → p' ≤ n → prs B n rd f nt' deep' p' [] d0 = some (Sum.inr (p1, c, g)) → p' < p1 ∧ p1 ≤ n ∧ cOk rd nt' c g := by
      intro nt' deep' p' p1 c g h1 h2 h3
      obtain ⟨a1, a2, a3, a4, a5, a6⟩ := ok nt' deep' p' [] d0 _ (by omega) h2 (fun _ => rfl) (fun z => by omega) h3
      exact ⟨a3 h1, a2, a6⟩
    have seq : ∀ {sub lp : Nat}, sub ≤ 5 → 6 ≤ lp → lp ≤ 9 → (∀ c g, cOk rd sub c g → cOk rd lp c g) → mu n sub p < f → ∃ r, bnd (prs B n rd f sub deep p [] d0) (fun p1 c g => prs B n rd f lp deep p1 c g) = some r := by
      intro sub lp h1 h2 h3 ht h4
      refine bnd_tot (ih sub deep p [] d0 (by omega) hp (fun _ => rfl) (fun z => by omega) h4) (fun p1 c g hx => ?_)
      obtain ⟨a1, a2, a3⟩ := got h1 hp hx
      refine ih lp deep p1 c g h3 a2 (fun z => by omega) (fun _ => ht _ _ a3) ?_
      have l1 : [0, 2, 4, 6, 8, 10, 1, 3, 7, 9].getD lp 0 ≤ 9 := by
        match lp, h2, h3 with
        | 6, _, _ => decide
        | 7, _, _ => decide
        | 8, _, _ => decide
        | 9, _, _ => decide
      unfold mu at h4 ⊢
      omega
    have lpt : ∀ {self sub tk cd o : Nat}, 6 ≤ self → self ≤ 9 → sub ≤ 5 → tk ≠ 24 → (cd, o) ∈ opL → (∀ x y, rgN self x → rgN sub y → rgN self (of2 o x y)) → cOk rd self ac ag → ∃ r, lop B n (prs B n rd f) self sub tk cd o deep p ac ag = some r := by
      intro self sub tk cd o h1 h2 h3 h4 hop hst ha
      unfold lop
      by_cases e : (tkn B n p).1 = tk
      · rw [if_pos e]
        have hlt := hf.2.2.2.2.2.1 (by omega)
        have h11 := hf.1
        refine bnd_tot (later h3 (by omega) hf.2.2.1) (fun p2 c g hx => ?_)
        obtain ⟨a1, a2, a3⟩ := got h3 hf.2.2.1 hx
        refine ih self deep p2 _ _ h2 a2 (fun z => by omega) (fun _ => ⟨fun nm wd hb hw s => mgo_op hop (ha.1 nm wd hb hw s) (a3.1 nm wd hb hw _) (rgN_rg (ha.2 nm hb)) (rgN_rg (a3.2 nm hb)), fun nm hb => hst _ _ (ha.2 nm hb) (a3.2 nm hb)⟩) ?_
        have l1 : [0, 2, 4, 6, 8, 10, 1, 3, 7, 9].getD self 0 ≤ 9 := by
          match self, h1, h2 with
          | 6, _, _ => decide
          | 7, _, _ => decide
          | 8, _, _ => decide
          | 9, _, _ => decide
        unfold mu at hmu ⊢
        omega
      · rw [if_neg e]; exact ⟨_, rfl⟩
    show ∃ r, bdy B n rd (prs B n rd f) nt deep p ac ag = some r
    match nt, hn, hac, hag, hmu with
    | 0, _, _, _, _ =>
      show ∃ r, bAt B n rd (prs B n rd f) deep p = some r
      unfold bAt
      by_cases e1 : (tkn B n p).1 = 23
      · rw [if_pos e1]; exact ⟨_, rfl⟩
      · rw [if_neg e1]
        cases nmW rd (tkn B n p).1 with
        | some q => exact ⟨_, rfl⟩
        | none =>
          show ∃ r, (if (tkn B n p).1 = 35 then _ else _) = some r
          by_cases e2 : (tkn B n p).1 = 35
          · rw [if_pos e2]
            refine opn_tot hp (by omega) (fun e he hen => bnd_tot (later (by omega) he hen) (fun p1 c g hx => ?_))
            obtain ⟨a1, a2, _⟩ := got (nt' := 2) (by omega) hen hx
            exact exq_tot a2 (by omega) (fun _ _ _ => ⟨_, rfl⟩)
          · rw [if_neg e2]
            by_cases e3 : (tkn B n p).1 = 10
            · rw [if_pos e3]
              refine opn_tot hp (by omega) (fun e he hen => bnd_tot (later (by omega) he hen) (fun p1 c g hx => ?_))
              obtain ⟨a1, a2, _⟩ := got (nt' := 5) (by omega) hen hx
              refine exq_tot a2 (by omega) (fun p2 h1 h2 => bnd_tot (later (by omega) (by omega) h2) (fun p3 c g hx => ?_))
              obtain ⟨b1, b2, _⟩ := got (nt' := 2) (by omega) h2 hx
              refine exq_tot b2 (by omega) (fun p4 h3 h4 => bnd_tot (later (by omega) (by omega) h4) (fun p5 c g hx => ?_))
              obtain ⟨c1, c2, _⟩ := got (nt' := 2) (by omega) h4 hx
              exact exq_tot c2 (by omega) (fun _ _ _ => ⟨_, rfl⟩)
            · rw [if_neg e3]; exact ⟨_, rfl⟩
    | 1, _, _, _, hmu => exact seq (sub := 0) (lp := 6) (by omega) (by omega) (by omega) (fun _ _ z => z) (by unfold mu at hmu ⊢; have : [0, 2, 4, 6, 8, 10, 1, 3, 7, 9].getD 1 0 = 2 := rfl; have : [0, 2, 4, 6, 8, 10, 1, 3, 7, 9].getD 0 0 = 0 := rfl; omega)
    | 2, _, _, _, hmu => exact seq (sub := 1) (lp := 7) (by omega) (by omega) (by omega) (fun _ _ z => z) (by unfold mu at hmu ⊢; have : [0, 2, 4, 6, 8, 10, 1, 3, 7, 9].getD 2 0 = 4 := rfl; have : [0, 2, 4, 6, 8, 10, 1, 3, 7, 9].getD 1 0 = 2 := rfl; omega)
    | 3, _, _, _, hmu =>
      show ∃ r, bUn B n (prs B n rd f) deep p = some r
      unfold bUn
      by_cases e1 : (tkn B n p).1 = 20
      · rw [if_pos e1]
        exact opn_tot hp (by omega) (fun e he hen => bnd_tot (later (by omega) he hen) (fun p1 c g hx => ⟨_, rfl⟩))
      · rw [if_neg e1]
        by_cases e2 : (tkn B n p).1 = 37
        · rw [if_pos e2]
          refine opn_tot hp (by omega) (fun e he hen => bnd_tot (later (by omega) he hen) (fun p1 c g hx => ?_))
          obtain ⟨a1, a2, _⟩ := got (nt' := 5) (by omega) hen hx
          exact exq_tot a2 (by omega) (fun _ _ _ => ⟨_, rfl⟩)
        · rw [if_neg e2]
          refine bnd_tot (ih 2 deep p [] d0 (by omega) hp (fun _ => rfl) (fun z => by omega) (by unfold mu at hmu ⊢; have : [0, 2, 4, 6, 8, 10, 1, 3, 7, 9].getD 3 0 = 6 := rfl; have : [0, 2, 4, 6, 8, 10, 1, 3, 7, 9].getD 2 0 = 4 := rfl; omega)) (fun p1 c g hx => ?_)
          obtain ⟨a1, a2, _⟩ := got (nt' := 2) (by omega) hp hx
          have hf1 := tk_f (B := B) a2
          have cm : ∀ {cd o : Nat}, (tkn B n p1).1 ≠ 24 → ∃ r, cmq (prs B n rd f) cd o deep (tkn B n p1).2.2.1 c g = some r := by
            intro cd o h24
            have hlt := hf1.2.2.2.2.2.1 h24
            have h11 := hf1.1
            exact bnd_tot (later (by omega) (by omega) hf1.2.2.1) (fun _ _ _ _ => ⟨_, rfl⟩)
          by_cases c1 : (tkn B n p1).1 = 39
          · rw [if_pos c1]; exact cm (by omega)
          rw [if_neg c1]
          by_cases c2 : (tkn B n p1).1 = 40
          · rw [if_pos c2]; exact cm (by omega)
          rw [if_neg c2]
          by_cases c3 : (tkn B n p1).1 = 41
          · rw [if_pos c3]; exact cm (by omega)
          rw [if_neg c3]
          exact ⟨_, rfl⟩
    | 4, _, _, _, hmu => exact seq (sub := 3) (lp := 8) (by omega) (by omega) (by omega) (fun _ _ z => z) (by unfold mu at hmu ⊢; have : [0, 2, 4, 6, 8, 10, 1, 3, 7, 9].getD 4 0 = 8 := rfl; have : [0, 2, 4, 6, 8, 10, 1, 3, 7, 9].getD 3 0 = 6 := rfl; omega)
    | 5, _, _, _, hmu => exact seq (sub := 4) (lp := 9) (by omega) (by omega) (by omega) (fun _ _ z => z) (by unfold mu at hmu ⊢; have : [0, 2, 4, 6, 8, 10, 1, 3, 7, 9].getD 5 0 = 10 := rfl; have : [0, 2, 4, 6, 8, 10, 1, 3, 7, 9].getD 4 0 = 8 := rfl; omega)
    | 6, _, _, hag, _ => exact lpt (self := 6) (sub := 0) (by omega) (by omega) (by omega) (by omega) (by decide) (fun _ _ _ _ => of2_rg (Or.inr (Or.inr rfl))) (hag (by omega))
    | 7, _, _, hag, _ =>
      show ∃ r, (if (tkn B n p).1 = 33 then _ else _) = some r
      by_cases e : (tkn B n p).1 = 33
      · rw [if_pos e]; exact lpt (self := 7) (sub := 1) (by omega) (by omega) (by omega) (by omega) (by decide) (fun _ _ _ _ => of2_rg (Or.inr (Or.inl rfl))) (hag (by omega))
      · rw [if_neg e]; exact lpt (self := 7) (sub := 1) (by omega) (by omega) (by omega) (by omega) (by decide) (fun _ _ _ _ => of2_rg (Or.inl rfl)) (hag (by omega))
    | 8, _, _, hag, _ => exact lpt (self := 8) (sub := 3) (tk := 18) (cd := 3007) (o := 8) (by omega) (by omega) (by omega) (by omega) (by decide) (fun x y a b => of2_tr (Or.inl rfl) (show x = 0 ∨ x = 1 from a) (show y = 0 ∨ y = 1 from b)) (hag (by omega))
    | 9, _, _, hag, _ => exact lpt (self := 9) (sub := 4) (tk := 19) (cd := 3008) (o := 9) (by omega) (by omega) (by omega) (by omega) (by decide) (fun x y a b => of2_tr (Or.inr rfl) (show x = 0 ∨ x = 1 from a) (show y = 0 ∨ y = 1 from b)) (hag (by omega))
    | k + 10, hn, _, _, _ => omega
end Tot
