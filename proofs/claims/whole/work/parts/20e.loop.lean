/-! THE LAW'S LOOP, and the start -/
section Lp
variable {xs : Nat → Int32} {Ls d : Nat} {I : MI} {L : ML} {R : RD} {s : SA} {P : List SA} {T : Nat → TA} {t : Nat → Int32} {N : Nat} {M : Nat → IA} {x : Int32} {Q : QT}
theorem l_step (hd : 84 ≤ d) (h : LI xs Ls I L R s P T t N M) (h1 : (I 4003 0 0 - 6 : Int32) < x → Q (some (vI 1)) I L) (h0 : ¬ (I 4003 0 0 - 6 : Int32) < x → vp_in x (I 4003 0 0).toNatClampNeg ∧ V5 x (I 4003 0 0).toNatClampNeg ∧ KL d Ls xs Q x) : XX (d + 1) m_Lw_law Q 18 [vR 4002 0, vR 0 0, vR 704 0, vI x] [] I L := by
  refine r_Lw_law_18 ⟨h1, fun q => ?_⟩
  obtain ⟨v0, hv, hk⟩ := h0 q
  exact ⟨v0, fun _ => l_feed hd h hv hk, fun _ => l_road hd h hv hk, fun _ => l_fault hd h hv hk, fun _ => l_coach hd h hv hk, fun _ => l_waiting hd h hv hk, fun _ => l_by hd h hv hk, fun _ => l_forWhich hd h hv hk, fun _ => l_round hd h hv hk, fun _ => l_rounds hd h hv hk, fun _ => l_hold hd h hv hk, fun _ => l_mud hd h hv hk, fun _ => l_undo hd h hv hk, fun _ => l_judge hd h hv hk, fun _ => l_perform hd h hv hk, fun _ => l_week hd h hv hk, fun _ => l_late hd h hv hk, fun _ => l_sets hd h hv hk, fun _ => l_calm hd h hv hk, fun _ => l_slowest hd h hv hk, fun _ => l_slow hd h hv hk, fun _ => l_rings hd h hv hk, fun _ => l_period hd h hv hk, fun _ => l_hour hd h hv hk, fun _ => l_room hd h hv hk, fun _ => l_leave hd h hv hk, fun _ => l_leaves hd h hv hk, fun _ => l_spread hd h hv hk, fun _ => l_leeway hd h hv hk, fun _ => l_soonest hd h hv hk, fun _ => l_way hd h hv hk, fun _ => l_rows hd h hv hk, fun _ => l_muds hd h hv hk, fun _ => l_look hd h hv hk, fun _ => l_chance hd h hv hk, fun _ => l_mean hd h hv hk, fun _ => l_numbers hd h hv hk, fun _ => l_write hd h hv hk, fun _ => l_lists hd h hv hk, fun _ => l_image hd h hv hk, fun _ => l_restore hd h hv hk, fun _ => l_count hd h hv hk, fun _ => hk I L ⟨R, s, P, T, t, N, M, h⟩⟩
theorem l_loop (hd : 84 ≤ d) (hLs : Ls ≤ 3072) : ∀ (f i : Nat) (I : MI) (L : ML), i ≤ 3078 → Ls + 6 - i ≤ f → (∃ R s P T t N M, LI xs Ls I L R s P T t N M) → XX (d + 1) m_Lw_law (fun r _ _ => r = some (vI 1)) 18 [vR 4002 0, vR 0 0, vR 704 0, vI (nI i)] [] I L := by
  intro f
  induction f with
  | zero =>
    intro i I L hi hf h
    obtain ⟨R, s, P, T, t, N, M, h⟩ := h
    have e5 := h.2.2.2.2.2.2
    have z6 : (nI Ls - 6).toInt = Ls - 6 := by
      rw [Int32.toInt_sub, nI_toInt (by omega)]
      show ((Ls : Int) - 6).bmod (2 ^ 32) = _
      rw [Int.bmod_eq_of_le] <;> omega
    refine l_step hd h (fun _ => rfl) (fun q => absurd ?_ q)
    rw [e5]
    refine Int32.lt_iff_toInt_lt.mpr ?_
    rw [z6, nI_toInt (by omega)]
    omega
  | succ f ih =>
    intro i I L hi hf h
    obtain ⟨R, s, P, T, t, N, M, h⟩ := h
    have e5 := h.2.2.2.2.2.2
    have z6 : (nI Ls - 6).toInt = Ls - 6 := by
      rw [Int32.toInt_sub, nI_toInt (by omega)]
      show ((Ls : Int) - 6).bmod (2 ^ 32) = _
      rw [Int.bmod_eq_of_le] <;> omega
    refine l_step hd h (fun _ => rfl) (fun q => ?_)
    rw [e5] at q ⊢
    have q := Int.not_lt.mp (fun z => q (Int32.lt_iff_toInt_lt.mpr z))
    rw [z6, nI_toInt (by omega)] at q
    rw [cl_n (by omega)]
    have hin : ∀ k, k < 6 → vp_in (nI (i + k)) Ls := fun k hk => nI_in (by omega) (by omega)
    have ek : ∀ k : Nat, nI i + nI k = nI (i + k) := fun k => nI_add i k
    refine ⟨hin 0 (by omega), ⟨?_, ?_, ?_, ?_, ?_⟩, fun I' L' h' => ?_⟩
    · show vp_in (nI i + nI 1) Ls
      rw [ek]; exact hin 1 (by omega)
    · show vp_in (nI i + nI 2) Ls
      rw [ek]; exact hin 2 (by omega)
    · show vp_in (nI i + nI 3) Ls
      rw [ek]; exact hin 3 (by omega)
    · show vp_in (nI i + nI 4) Ls
      rw [ek]; exact hin 4 (by omega)
    · show vp_in (nI i + nI 5) Ls
      rw [ek]; exact hin 5 (by omega)
    · have h3 := ih (i + 6) I' L' (by omega) (by omega) h'
      rw [← ek 6] at h3
      exact h3
/-- at the start both stand the same -/
theorem LI_start : LI xs Ls (I0 xs Ls) L0 R0 (st0 0) [] (fun _ => none) (fun _ => 0) 0 (fun _ => none) := by
  have hz : ∀ r i j, r < 4000 → tb r = [] → I0 xs Ls r i j = 0 := fun r i j h1 h2 => by rw [I0_lt h1, h2]; rfl
  have hl : ∀ r i j, r < 4000 → I0 xs Ls r i j = lkp (tb r) j := fun r i j h1 => I0_lt h1
  refine ⟨⟨⟨?_, ?_, ?_, ?_⟩, ?_, ?_, ?_, ?_⟩, ⟨⟨?_, ?_, ?_⟩, ?_, ?_, ?_⟩, ⟨?_, ?_, ?_⟩, ?_, ?_, ?_, ?_⟩
  · refine ⟨?_, ?_, ?_, ?_, fun c hc => absurd hc (Nat.not_lt_zero _), fun w hw => absurd hw (Nat.not_lt_zero _), ?_, ?_⟩
    · rw [hl _ _ _ (by omega)]; decide
    · rw [hl _ _ _ (by omega)]; decide
    · rw [hl _ _ _ (by omega)]; decide
    · rw [hl _ _ _ (by omega)]; decide
    · show I0 xs Ls 128 0 14 ≤ I0 xs Ls 128 0 13
      rw [hl _ _ _ (by omega), hl _ _ _ (by omega)]; decide
    · show I0 xs Ls 128 0 16 ≤ I0 xs Ls 128 0 15
      rw [hl _ _ _ (by omega), hl _ _ _ (by omega)]; decide
  · refine ⟨fun c _ => ?_, fun c _ => ?_, fun c _ => ?_, ?_, ?_⟩
    · rw [hz _ _ _ (by omega) rfl]; rfl
    · rw [hz _ _ _ (by omega) rfl]; rfl
    · rw [hz _ _ _ (by omega) rfl]; rfl
    · rw [hz _ _ _ (by omega) rfl]; rfl
    · rw [hz _ _ _ (by omega) rfl]; rfl
  · refine ⟨fun n hn => absurd hn (Nat.not_lt_zero _), fun c _ _ => hz _ _ _ (by omega) rfl, Or.inl ?_, fun w hw => absurd hw (Nat.not_lt_zero _)⟩
    rw [hl _ _ _ (by omega)]; decide
  · refine ⟨by decide, 0, by omega, ?_, ?_, fun k hk => absurd hk (Nat.not_lt_zero _)⟩
    · rw [hz _ _ _ (by omega) rfl]; rfl
    · rw [hz _ _ _ (by omega) rfl]; rfl
  · refine ⟨?_, fun i hi => absurd hi (Nat.not_lt_zero _)⟩
    rw [hz _ _ _ (by omega) rfl]; rfl
  · intro i hi
    refine ⟨trivial, ?_⟩
    show I0 xs Ls 640 i 2 = -1
    rw [hl _ _ _ (by omega)]; decide
  · refine ⟨?_, fun i hi => absurd hi (Nat.not_lt_zero _)⟩
    rw [hz _ _ _ (by omega) rfl]; rfl
  · intro i hi
    show I0 xs Ls 15 0 i = 0
    exact hz _ _ _ (by omega) rfl
  · refine ⟨?_, ?_, ?_, ?_, fun c hc => absurd hc (Nat.not_lt_zero _), fun w hw => absurd hw (Nat.not_lt_zero _), ?_, ?_⟩
    · rw [hl _ _ _ (by omega)]; decide
    · rw [hl _ _ _ (by omega)]; decide
    · rw [hl _ _ _ (by omega)]; decide
    · rw [hl _ _ _ (by omega)]; decide
    · show I0 xs Ls 706 0 4 = 0
      rw [hl _ _ _ (by omega)]; decide
    · show I0 xs Ls 706 0 5 = 0
      rw [hl _ _ _ (by omega)]; decide
  · have e : ∀ j, 2 ≤ j → I0 xs Ls 706 0 j = 0 := fun j hj => by
      rw [hl _ _ _ (by omega)]
      show (if j = 1 then (1 : Int32) else 0) = 0
      rw [if_neg (by omega)]
    exact ⟨fun c _ => ⟨e _ (by omega), e _ (by omega), e _ (by omega)⟩, e _ (by omega), e _ (by omega)⟩
  · refine ⟨by decide, ?_, fun k hk => absurd hk (Nat.not_lt_zero _)⟩
    rw [hl _ _ _ (by omega)]; decide
  · intro i hi
    refine ⟨trivial, ?_⟩
    show I0 xs Ls 742 0 i = -1
    rw [hl _ _ _ (by omega)]
    match i, hi with
    | 0, _ => decide
    | 1, _ => decide
    | 2, _ => decide
    | 3, _ => decide
  · refine ⟨?_, fun i hi => absurd hi (Nat.not_lt_zero _)⟩
    rw [hl _ _ _ (by omega)]; decide
  · intro i hi
    show I0 xs Ls 707 0 i = 0
    exact hz _ _ _ (by omega) rfl
  · exact ⟨WF_0, st0_Ok (u := 0) (by omega), fun p hp => absurd hp List.not_mem_nil⟩
  · exact ⟨by omega, fun i hi => absurd hi (Nat.not_lt_zero _)⟩
  · exact fun i hi => trivial
  · rw [hl _ _ _ (by omega), hl _ _ _ (by omega)]; decide
  · rw [hl _ _ _ (by omega), hl _ _ _ (by omega)]; decide
  · funext j
    rfl
  · rfl
theorem law_ok (hLs : Ls ≤ 3072) : XX 86 m_Lw_law (fun r _ _ => r = some (vI 1)) 18 [vR 4002 0, vR 0 0, vR 704 0, vI 0] [] (I0 xs Ls) L0 :=
  l_loop (d := 85) (by omega) hLs (Ls + 6) 0 _ _ (by omega) (by omega) ⟨_, _, _, _, _, _, _, LI_start⟩
end Lp
