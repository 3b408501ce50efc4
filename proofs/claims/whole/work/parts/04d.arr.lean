/-! rows: reading, writing, lengths, copies -/
theorem ar_i {ad : Nat → Nat → Nat} {I : MI} {L : ML} {a b i t : Nat} (h : aK a = (t, b)) (ht : t = 0 ∨ t = 1 ∨ t = 2) : ar ad I L a i = .inl (I a i) := by
  rcases ht with rfl | rfl | rfl <;> simp [ar, h]
theorem ar_l {ad : Nat → Nat → Nat} {I : MI} {L : ML} {a b i : Nat} (h : aK a = (3, b)) : ar ad I L a i = .inr (.inl (L a i)) := by simp [ar, h]
theorem ar_q {ad : Nat → Nat → Nat} {I : MI} {L : ML} {a i : Nat} (h4 : 4 ≤ (aK a).1) : ar ad I L a i = .inr (.inr (.inr (.inr (fun k => some (ad (eR a).1 ((eR a).2 + k)))))) := by
  unfold ar
  split
  · omega
  · omega
  · omega
  · omega
  · rfl
section Arr
variable {p : Program} {l : Launch} {e : Env} {R : Room} {s : State} {m : MethodId} {args : Array Value} {below : List Frame} {meth : Method} {c : Code} {cells slots : Nat} {Qw : State → Prop}
variable {D : va_G} {cA : Nat → ClassId} {ad : Nat → Nat → Nat} {A : Nat → Prop} {cc : ByteArray} {nL own Ls : Nat} {xs : Nat → Int32}
variable {pc : Nat} {ls st ls' st' : List MV} {I I' : MI} {L L' : ML} {P : Prop} {q : Nat × Nat × Nat × Nat × Nat × Nat × Int32 × Int64}
theorem cel_ai {a b i t : Nat} (h : aK a = (t, b)) (ht : t = 0 ∨ t = 1 ∨ t = 2) (h0 : a % 64 ≠ 0) : cel ad cA I L a i = .inl (cA t, b, .inl (I a i)) := by rw [cel_arr h0, ar_i h ht, h]
theorem cel_al {a b i : Nat} (h : aK a = (3, b)) (h0 : a % 64 ≠ 0) : cel ad cA I L a i = .inl (cA 3, b, .inr (.inl (L a i))) := by rw [cel_arr h0, ar_l h, h]

theorem g_iaload (hC : Cx p R s m args c D cA ad A cc nL own Ls xs) (h1 : ck1 own cc pc (.iaload, q) = true) (h2 : ex1 (.iaload, q) ls st I L = some (ls', st', I', L', P)) (hp : P) (hk : Gl p l e R s m args below meth c cells slots Qw D cA ad A nL Ls xs (pc + q.1) ls' st' I' L') : Gl p l e R s m args below meth c cells slots Qw D cA ad A nL Ls xs pc ls st I L := by
  obtain ⟨hx, hb, hml, hown, hts, hKt, hSh, hAd, hRf, hRl⟩ := hC
  obtain ⟨n, t, a, b, c', e', z, w⟩ := q
  simp only [ck1, Bool.and_eq_true, decide_eq_true_eq] at h1
  obtain ⟨⟨hd, hn⟩, ht⟩ := h1
  have hn : n = 1 := hn
  subst hn
  have hd : decode cc pc = .ok (.iaload, 1) := hd
  have h2 : (if t = 0 ∨ t = 4 then xArd t a b c' e' ls st I L else none) = some (ls', st', I', L', P) := h2
  by_cases h04 : t = 0 ∨ t = 4
  · rw [if_pos h04] at h2
    simp only [tck, Bool.or_eq_true, Bool.and_eq_true, decide_eq_true_eq] at ht
    rcases st with _ | ⟨v, _ | ⟨u, r⟩⟩
    · cases h2
    · rcases v with v | v | v | v <;> cases h2
    rcases v with x | v | v | v
    · rcases u with u | u | ⟨ro, i⟩ | u
      · cases h2
      · cases h2
      · simp only [xArd] at h2
        by_cases hro : ro = a
        · subst hro
          rw [if_pos rfl] at h2
          intro H locs la hP hS hL hs o1 o2
          have hi : i < cnt ro := okl_h (okl_t o2)
          rcases h04 with rfl | rfl
          · obtain ⟨⟨⟨-, ha⟩, h0⟩, hak⟩ | ⟨q, -⟩ := ht
            · cases h2
              obtain ⟨q0, hq, he⟩ := wsI_at (ad := ad) (cA := cA) (I := I) (L := L) ha hi
              rw [cel_ai hak (Or.inl rfl) h0] at he
              exact va_iald hx hb hKt.1 hP q0 0 he rfl hp hd (hk H locs la hP hS hL hs o1 (okl_c trivial (okl_t (okl_t o2))))
            · exact absurd q (by decide)
          · obtain ⟨⟨⟨q, -⟩, -⟩, -⟩ | ⟨-, ha⟩ := ht
            · exact absurd q (by decide)
            · subst ha
              cases h2
              have hi0 : i = 0 := by
                have : cnt 4002 = 1 := by decide
                omega
              subst hi0
              have hlen : (I 4003 0 0).toNatClampNeg = Ls := by rw [hs.2.1]; exact nI_clamp hs.2.2
              rw [hlen] at hp
              have hX := hSh.2.2.1
              rw [← hs.1] at hX
              exact va_sld hx hb hX hSh.2.2.2.1 hSh.2.2.2.2.1 hS hp hd (hk H locs la hP hS hL hs o1 (okl_c trivial (okl_t (okl_t o2))))
        · rw [if_neg hro] at h2
          cases h2
      · cases h2
    · cases h2
    · cases h2
    · cases h2

  · rw [if_neg h04] at h2
    cases h2

theorem g_baload (hC : Cx p R s m args c D cA ad A cc nL own Ls xs) (h1 : ck1 own cc pc (.baload, q) = true) (h2 : ex1 (.baload, q) ls st I L = some (ls', st', I', L', P)) (hp : P) (hk : Gl p l e R s m args below meth c cells slots Qw D cA ad A nL Ls xs (pc + q.1) ls' st' I' L') : Gl p l e R s m args below meth c cells slots Qw D cA ad A nL Ls xs pc ls st I L := by
  obtain ⟨hx, hb, hml, hown, hts, hKt, hSh, hAd, hRf, hRl⟩ := hC
  obtain ⟨n, t, a, b, c', e', z, w⟩ := q
  simp only [ck1, Bool.and_eq_true, decide_eq_true_eq] at h1
  obtain ⟨⟨hd, hn⟩, ht⟩ := h1
  have hn : n = 1 := hn
  subst hn
  have hd : decode cc pc = .ok (.baload, 1) := hd
  have h2 : (if t = 0 ∨ t = 3 then xArd t a b c' e' ls st I L else none) = some (ls', st', I', L', P) := h2
  by_cases h04 : t = 0 ∨ t = 3
  · rw [if_pos h04] at h2
    simp only [tck, Bool.or_eq_true, Bool.and_eq_true, decide_eq_true_eq] at ht
    rcases st with _ | ⟨v, _ | ⟨u, r⟩⟩
    · cases h2
    · rcases v with v | v | v | v <;> cases h2
    rcases v with x | v | v | v
    · rcases u with u | u | ⟨ro, i⟩ | u
      · cases h2
      · cases h2
      · simp only [xArd] at h2
        by_cases hro : ro = a
        · subst hro
          rw [if_pos rfl] at h2
          intro H locs la hP hS hL hs o1 o2
          have hi : i < cnt ro := okl_h (okl_t o2)
          rcases h04 with rfl | rfl
          · obtain ⟨⟨⟨-, ha⟩, h0⟩, hak⟩ | ⟨q, -⟩ := ht
            · cases h2
              obtain ⟨q0, hq, he⟩ := wsI_at (ad := ad) (cA := cA) (I := I) (L := L) ha hi
              rcases hak with hak | hak
              · rw [cel_ai hak (Or.inr (Or.inl rfl)) h0] at he
                exact va_bald hx hb hKt.1 hP q0 1 he rfl hp hd (hk H locs la hP hS hL hs o1 (okl_c trivial (okl_t (okl_t o2))))
              · rw [cel_ai hak (Or.inr (Or.inr rfl)) h0] at he
                exact va_zald hx hb hKt.1 hP q0 2 he rfl hp hd (hk H locs la hP hS hL hs o1 (okl_c trivial (okl_t (okl_t o2))))
            · exact absurd q (by decide)
          · obtain ⟨⟨⟨q, -⟩, -⟩, -⟩ | ⟨-, ha⟩ := ht
            · exact absurd q (by decide)
            · subst ha
              cases h2
              have hi' : i < sLen.length := by rw [cnt_s.2] at hi; exact hi
              obtain ⟨z1, z2, z3, z4⟩ := hSh.1.1 i hi'
              exact va_tb hx hb z4 hS hp rfl hd (hk H locs la hP hS hL hs o1 (okl_c trivial (okl_t (okl_t o2))))
        · rw [if_neg hro] at h2
          cases h2
      · cases h2
    · cases h2
    · cases h2
    · cases h2

  · rw [if_neg h04] at h2
    cases h2

theorem g_laload (hC : Cx p R s m args c D cA ad A cc nL own Ls xs) (h1 : ck1 own cc pc (.laload, q) = true) (h2 : ex1 (.laload, q) ls st I L = some (ls', st', I', L', P)) (hp : P) (hk : Gl p l e R s m args below meth c cells slots Qw D cA ad A nL Ls xs (pc + q.1) ls' st' I' L') : Gl p l e R s m args below meth c cells slots Qw D cA ad A nL Ls xs pc ls st I L := by
  obtain ⟨hx, hb, hml, hown, hts, hKt, hSh, hAd, hRf, hRl⟩ := hC
  obtain ⟨n, t, a, b, c', e', z, w⟩ := q
  simp only [ck1, Bool.and_eq_true, decide_eq_true_eq] at h1
  obtain ⟨⟨hd, hn⟩, ht⟩ := h1
  have hn : n = 1 := hn
  subst hn
  have hd : decode cc pc = .ok (.laload, 1) := hd
  have h2 : (if t = 1 then xArd t a b c' e' ls st I L else none) = some (ls', st', I', L', P) := h2
  by_cases h04 : t = 1
  · rw [if_pos h04] at h2
    subst h04
    simp only [tck, Bool.and_eq_true, decide_eq_true_eq] at ht
    obtain ⟨⟨ha, h0⟩, hak⟩ := ht
    rcases st with _ | ⟨v, _ | ⟨u, r⟩⟩
    · cases h2
    · rcases v with v | v | v | v <;> cases h2
    rcases v with x | v | v | v
    · rcases u with u | u | ⟨ro, i⟩ | u
      · cases h2
      · cases h2
      · simp only [xArd] at h2
        by_cases hro : ro = a
        · subst hro
          rw [if_pos rfl] at h2
          intro H locs la hP hS hL hs o1 o2
          have hi : i < cnt ro := okl_h (okl_t o2)
          cases h2
          obtain ⟨q0, hq, he⟩ := wsI_at (ad := ad) (cA := cA) (I := I) (L := L) ha hi
          rw [cel_al hak h0] at he
          exact va_lald hx hb hKt.1 hP q0 3 he rfl hp hd (hk H locs la hP hS hL hs o1 (okl_c trivial (okl_t (okl_t o2))))
        · rw [if_neg hro] at h2
          cases h2
      · cases h2
    · cases h2
    · cases h2
    · cases h2

  · rw [if_neg h04] at h2
    cases h2

theorem g_aaload (hC : Cx p R s m args c D cA ad A cc nL own Ls xs) (h1 : ck1 own cc pc (.aaload, q) = true) (h2 : ex1 (.aaload, q) ls st I L = some (ls', st', I', L', P)) (hp : P) (hk : Gl p l e R s m args below meth c cells slots Qw D cA ad A nL Ls xs (pc + q.1) ls' st' I' L') : Gl p l e R s m args below meth c cells slots Qw D cA ad A nL Ls xs pc ls st I L := by
  obtain ⟨hx, hb, hml, hown, hts, hKt, hSh, hAd, hRf, hRl⟩ := hC
  obtain ⟨n, t, a, b, c', e', z, w⟩ := q
  simp only [ck1, Bool.and_eq_true, decide_eq_true_eq] at h1
  obtain ⟨⟨hd, hn⟩, ht⟩ := h1
  have hn : n = 1 := hn
  subst hn
  have hd : decode cc pc = .ok (.aaload, 1) := hd
  have h2 : (if t = 2 then xArd t a b c' e' ls st I L else none) = some (ls', st', I', L', P) := h2
  by_cases h04 : t = 2
  · rw [if_pos h04] at h2
    subst h04
    simp only [tck, Bool.and_eq_true, decide_eq_true_eq] at ht
    obtain ⟨⟨⟨⟨⟨ha, h0⟩, h4⟩, h7⟩, hbn⟩, her⟩ := ht
    rcases st with _ | ⟨v, _ | ⟨u, r⟩⟩
    · cases h2
    · rcases v with v | v | v | v <;> cases h2
    rcases v with x | v | v | v
    · rcases u with u | u | ⟨ro, i⟩ | u
      · cases h2
      · cases h2
      · simp only [xArd] at h2
        by_cases hro : ro = a
        · subst hro
          rw [if_pos rfl] at h2
          intro H locs la hP hS hL hs o1 o2
          have hi : i < cnt ro := okl_h (okl_t o2)
          cases h2
          obtain ⟨q0, hq, he⟩ := wsI_at (ad := ad) (cA := cA) (I := I) (L := L) ha hi
          rw [cel_arr h0, ar_q h4] at he
          have hlt : x.toNatClampNeg < (aK ro).2 := by rw [hbn]; exact Nat.not_le.mp fun q => hp (Or.inr q)
          have hok := er_ok ha h0 h4 h7 hlt
          rw [← hbn] at hp
          have htk : (tyL cA)[(aK ro).1]? = some (cA (aK ro).1, .object "CoachWaits$Stand") ∨ (tyL cA)[(aK ro).1]? = some (cA (aK ro).1, .object "CoachWaits$Tray") ∨ (tyL cA)[(aK ro).1]? = some (cA (aK ro).1, .object "CoachWaits$Road") := by
            have h456 : (aK ro).1 = 4 ∨ (aK ro).1 = 5 ∨ (aK ro).1 = 6 := by omega
            rcases h456 with q | q | q
            · rw [q]; exact Or.inl rfl
            · rw [q]; exact Or.inr (Or.inl rfl)
            · rw [q]; exact Or.inr (Or.inr rfl)
          have e1 : (eR ro).1 = c' := by rw [her]
          have e2 : (eR ro).2 = e' := by rw [her]
          rw [e1, e2] at he hok
          rcases htk with q | q | q
          · exact va_aldq hx hb hKt.1 hP q0 _ he q hp hd (hk H locs la hP hS hL hs o1 (okl_c hok (okl_t (okl_t o2))))
          · exact va_aldq hx hb hKt.1 hP q0 _ he q hp hd (hk H locs la hP hS hL hs o1 (okl_c hok (okl_t (okl_t o2))))
          · exact va_aldq hx hb hKt.1 hP q0 _ he q hp hd (hk H locs la hP hS hL hs o1 (okl_c hok (okl_t (okl_t o2))))
        · rw [if_neg hro] at h2
          cases h2
      · cases h2
    · cases h2
    · cases h2
    · cases h2

  · rw [if_neg h04] at h2
    cases h2

theorem g_iastore (hC : Cx p R s m args c D cA ad A cc nL own Ls xs) (h1 : ck1 own cc pc (.iastore, q) = true) (h2 : ex1 (.iastore, q) ls st I L = some (ls', st', I', L', P)) (hp : P) (hk : Gl p l e R s m args below meth c cells slots Qw D cA ad A nL Ls xs (pc + q.1) ls' st' I' L') : Gl p l e R s m args below meth c cells slots Qw D cA ad A nL Ls xs pc ls st I L := by
  obtain ⟨hx, hb, hml, hown, hts, hKt, hSh, hAd, hRf, hRl⟩ := hC
  obtain ⟨n, t, a, b, c', e', z, w⟩ := q
  simp only [ck1, Bool.and_eq_true, decide_eq_true_eq] at h1
  obtain ⟨⟨hd, hn⟩, ht⟩ := h1
  have hn : n = 1 := hn
  subst hn
  have hd : decode cc pc = .ok (.iastore, 1) := hd
  have h2 : (if t = 0 then xAwr t a b ls st I L else none) = some (ls', st', I', L', P) := h2
  by_cases h04 : t = 0
  · rw [if_pos h04] at h2
    subst h04
    simp only [tck, Bool.and_eq_true, decide_eq_true_eq] at ht
    obtain ⟨⟨ha, h0⟩, hak⟩ := ht
    rcases st with _ | ⟨v, _ | ⟨u, _ | ⟨y, r⟩⟩⟩
    · cases h2
    · rcases v with v | v | v | v <;> cases h2
    · rcases v with v | v | v | v <;> rcases u with u | u | u | u <;> cases h2
    rcases v with x | v | v | v
    · rcases u with k | u | u | u
      · rcases y with y | y | ⟨ro, i⟩ | y
        · cases h2
        · cases h2
        · simp only [xAwr] at h2
          by_cases hro : ro = a
          · subst hro
            rw [if_pos rfl] at h2
            intro H locs la hP hS hL hs o1 o2
            have hi : i < cnt ro := okl_h (okl_t (okl_t o2))
            have hD := wsI_D (cA := cA) (I := I) (L := L) hAd
            obtain ⟨q0, hq, he⟩ := wsI_at (ad := ad) (cA := cA) (I := I) (L := L) ha hi
            cases h2
            rw [cel_ai hak (Or.inl rfl) h0] at he
            have hset := wsI_set (ad := ad) (cA := cA) (I := I) (L := L) (I' := ui I ro i k.toNatClampNeg x) (L' := L) hq (fun x y hxy => ⟨ui_off hxy, rfl⟩)
            rw [cel_ai hak (Or.inl rfl) h0, ui_on] at hset
            exact va_iast hx hb hKt.1 hP hD hS q0 0 he rfl hp hd (fun H1 locs1 hP1 hD1 hS1 => hk H1 locs1 la (by rw [← hset]; exact hP1) hS1 hL (Sc_ui hs ha) o1 (okl_t (okl_t (okl_t o2))))
          · rw [if_neg hro] at h2
            cases h2
        · cases h2
      · cases h2
      · cases h2
      · cases h2
    · rcases u with u | u | u | u <;> rcases y with y | y | ⟨ro, i⟩ | y <;> first | (cases h2; done) | (simp only [xAwr] at h2; split at h2 <;> cases h2)
    · cases h2
    · cases h2

  · rw [if_neg h04] at h2
    cases h2

theorem g_lastore (hC : Cx p R s m args c D cA ad A cc nL own Ls xs) (h1 : ck1 own cc pc (.lastore, q) = true) (h2 : ex1 (.lastore, q) ls st I L = some (ls', st', I', L', P)) (hp : P) (hk : Gl p l e R s m args below meth c cells slots Qw D cA ad A nL Ls xs (pc + q.1) ls' st' I' L') : Gl p l e R s m args below meth c cells slots Qw D cA ad A nL Ls xs pc ls st I L := by
  obtain ⟨hx, hb, hml, hown, hts, hKt, hSh, hAd, hRf, hRl⟩ := hC
  obtain ⟨n, t, a, b, c', e', z, w⟩ := q
  simp only [ck1, Bool.and_eq_true, decide_eq_true_eq] at h1
  obtain ⟨⟨hd, hn⟩, ht⟩ := h1
  have hn : n = 1 := hn
  subst hn
  have hd : decode cc pc = .ok (.lastore, 1) := hd
  have h2 : (if t = 1 then xAwr t a b ls st I L else none) = some (ls', st', I', L', P) := h2
  by_cases h04 : t = 1
  · rw [if_pos h04] at h2
    subst h04
    simp only [tck, Bool.and_eq_true, decide_eq_true_eq] at ht
    obtain ⟨⟨ha, h0⟩, hak⟩ := ht
    rcases st with _ | ⟨v, _ | ⟨u, _ | ⟨y, r⟩⟩⟩
    · cases h2
    · rcases v with v | v | v | v <;> cases h2
    · rcases v with v | v | v | v <;> rcases u with u | u | u | u <;> cases h2
    rcases v with v | x | v | v
    · rcases u with u | u | u | u <;> rcases y with y | y | ⟨ro, i⟩ | y <;> first | (cases h2; done) | (simp only [xAwr] at h2; split at h2 <;> cases h2)
    · rcases u with k | u | u | u
      · rcases y with y | y | ⟨ro, i⟩ | y
        · cases h2
        · cases h2
        · simp only [xAwr] at h2
          by_cases hro : ro = a
          · subst hro
            rw [if_pos rfl] at h2
            intro H locs la hP hS hL hs o1 o2
            have hi : i < cnt ro := okl_h (okl_t (okl_t o2))
            have hD := wsI_D (cA := cA) (I := I) (L := L) hAd
            obtain ⟨q0, hq, he⟩ := wsI_at (ad := ad) (cA := cA) (I := I) (L := L) ha hi
            cases h2
            rw [cel_al hak h0] at he
            have hset := wsI_set (ad := ad) (cA := cA) (I := I) (L := L) (I' := I) (L' := ul L ro i k.toNatClampNeg x) hq (fun x y hxy => ⟨rfl, ul_off hxy⟩)
            rw [cel_al hak h0, ul_on] at hset
            exact va_last hx hb hKt.1 hP hD hS q0 3 he rfl hp hd (fun H1 locs1 hP1 hD1 hS1 => hk H1 locs1 la (by rw [← hset]; exact hP1) hS1 hL hs o1 (okl_t (okl_t (okl_t o2))))
          · rw [if_neg hro] at h2
            cases h2
        · cases h2
      · cases h2
      · cases h2
      · cases h2
    · cases h2
    · cases h2

  · rw [if_neg h04] at h2
    cases h2

theorem g_bastore (hC : Cx p R s m args c D cA ad A cc nL own Ls xs) (h1 : ck1 own cc pc (.bastore, q) = true) (h2 : ex1 (.bastore, q) ls st I L = some (ls', st', I', L', P)) (hp : P) (hk : Gl p l e R s m args below meth c cells slots Qw D cA ad A nL Ls xs (pc + q.1) ls' st' I' L') : Gl p l e R s m args below meth c cells slots Qw D cA ad A nL Ls xs pc ls st I L := by
  obtain ⟨hx, hb, hml, hown, hts, hKt, hSh, hAd, hRf, hRl⟩ := hC
  obtain ⟨n, t, a, b, c', e', z, w⟩ := q
  simp only [ck1, Bool.and_eq_true, decide_eq_true_eq] at h1
  obtain ⟨⟨hd, hn⟩, ht⟩ := h1
  have hn : n = 1 := hn
  subst hn
  have hd : decode cc pc = .ok (.bastore, 1) := hd
  have h2 : (if t = 2 ∨ t = 3 then xAwr t a b ls st I L else none) = some (ls', st', I', L', P) := h2
  by_cases h04 : t = 2 ∨ t = 3
  · rw [if_pos h04] at h2
    simp only [tck, Bool.or_eq_true, Bool.and_eq_true, decide_eq_true_eq] at ht
    obtain ⟨⟨ha, h0⟩, hak⟩ := ht
    rcases h04 with rfl | rfl
    · have hak : aK a = (1, b) := by rcases hak with ⟨-, q⟩ | ⟨q, -⟩; exact q; exact absurd q (by decide)
      rcases st with _ | ⟨v, _ | ⟨u, _ | ⟨y, r⟩⟩⟩
      · cases h2
      · rcases v with v | v | v | v <;> cases h2
      · rcases v with v | v | v | v <;> rcases u with u | u | u | u <;> cases h2
      rcases v with x | v | v | v
      · rcases u with k | u | u | u
        · rcases y with y | y | ⟨ro, i⟩ | y
          · cases h2
          · cases h2
          · simp only [xAwr] at h2
            by_cases hro : ro = a
            · subst hro
              rw [if_pos rfl] at h2
              intro H locs la hP hS hL hs o1 o2
              have hi : i < cnt ro := okl_h (okl_t (okl_t o2))
              have hD := wsI_D (cA := cA) (I := I) (L := L) hAd
              obtain ⟨q0, hq, he⟩ := wsI_at (ad := ad) (cA := cA) (I := I) (L := L) ha hi
              cases h2
              rw [cel_ai hak (Or.inr (Or.inl rfl)) h0] at he
              have hset := wsI_set (ad := ad) (cA := cA) (I := I) (L := L) (I' := ui I ro i k.toNatClampNeg x.toInt8.toInt32) (L' := L) hq (fun x y hxy => ⟨ui_off hxy, rfl⟩)
              rw [cel_ai hak (Or.inr (Or.inl rfl)) h0, ui_on] at hset
              exact va_bast hx hb hKt.1 hP hD hS q0 1 he rfl hp hd (fun H1 locs1 hP1 hD1 hS1 => hk H1 locs1 la (by rw [← hset]; exact hP1) hS1 hL (Sc_ui hs ha) o1 (okl_t (okl_t (okl_t o2))))
            · rw [if_neg hro] at h2
              cases h2
          · cases h2
        · cases h2
        · cases h2
        · cases h2
      · rcases u with u | u | u | u <;> rcases y with y | y | ⟨ro, i⟩ | y <;> first | (cases h2; done) | (simp only [xAwr] at h2; split at h2 <;> cases h2)
      · cases h2
      · cases h2

    · have hak : aK a = (2, b) := by rcases hak with ⟨q, -⟩ | ⟨-, q⟩; exact absurd q (by decide); exact q
      rcases st with _ | ⟨v, _ | ⟨u, _ | ⟨y, r⟩⟩⟩
      · cases h2
      · rcases v with v | v | v | v <;> cases h2
      · rcases v with v | v | v | v <;> rcases u with u | u | u | u <;> cases h2
      rcases v with x | v | v | v
      · rcases u with k | u | u | u
        · rcases y with y | y | ⟨ro, i⟩ | y
          · cases h2
          · cases h2
          · simp only [xAwr] at h2
            by_cases hro : ro = a
            · subst hro
              rw [if_pos rfl] at h2
              intro H locs la hP hS hL hs o1 o2
              have hi : i < cnt ro := okl_h (okl_t (okl_t o2))
              have hD := wsI_D (cA := cA) (I := I) (L := L) hAd
              obtain ⟨q0, hq, he⟩ := wsI_at (ad := ad) (cA := cA) (I := I) (L := L) ha hi
              cases h2
              rw [cel_ai hak (Or.inr (Or.inr rfl)) h0] at he
              have hset := wsI_set (ad := ad) (cA := cA) (I := I) (L := L) (I' := ui I ro i k.toNatClampNeg (x &&& 1)) (L' := L) hq (fun x y hxy => ⟨ui_off hxy, rfl⟩)
              rw [cel_ai hak (Or.inr (Or.inr rfl)) h0, ui_on] at hset
              exact va_zast hx hb hKt.1 hP hD hS q0 2 he rfl hp hd (fun H1 locs1 hP1 hD1 hS1 => hk H1 locs1 la (by rw [← hset]; exact hP1) hS1 hL (Sc_ui hs ha) o1 (okl_t (okl_t (okl_t o2))))
            · rw [if_neg hro] at h2
              cases h2
          · cases h2
        · cases h2
        · cases h2
        · cases h2
      · rcases u with u | u | u | u <;> rcases y with y | y | ⟨ro, i⟩ | y <;> first | (cases h2; done) | (simp only [xAwr] at h2; split at h2 <;> cases h2)
      · cases h2
      · cases h2

  · rw [if_neg h04] at h2
    cases h2

theorem g_arraylength (hC : Cx p R s m args c D cA ad A cc nL own Ls xs) (h1 : ck1 own cc pc (.arraylength, q) = true) (h2 : ex1 (.arraylength, q) ls st I L = some (ls', st', I', L', P)) (hp : P) (hk : Gl p l e R s m args below meth c cells slots Qw D cA ad A nL Ls xs (pc + q.1) ls' st' I' L') : Gl p l e R s m args below meth c cells slots Qw D cA ad A nL Ls xs pc ls st I L := by
  obtain ⟨hx, hb, hml, hown, hts, hKt, hSh, hAd, hRf, hRl⟩ := hC
  obtain ⟨n, t, a, b, c', e', z, w⟩ := q
  simp only [ck1, Bool.and_eq_true, decide_eq_true_eq] at h1
  obtain ⟨⟨hd, hn⟩, ht⟩ := h1
  have hn : n = 1 := hn
  subst hn
  have hd : decode cc pc = .ok (.arraylength, 1) := hd
  have h2 : xLen t a z ls st I L = some (ls', st', I', L', P) := h2
  simp only [tck, Bool.or_eq_true, Bool.and_eq_true, decide_eq_true_eq] at ht
  rcases st with _ | ⟨v, r⟩
  · cases h2
  rcases v with v | v | ⟨ro, i⟩ | v
  · cases h2
  · cases h2
  · simp only [xLen] at h2
    by_cases hro : ro = a
    · subst hro
      rw [if_pos rfl] at h2
      intro H locs la hP hS hL hs o1 o2
      have hi : i < cnt ro := okl_h o2
      rcases t with _ | _ | _ | t
      · obtain (⟨⟨⟨⟨⟨-, ha⟩, h0⟩, h7⟩, hbn⟩, hz⟩ | ⟨q, -⟩) | ⟨q, -⟩ := ht
        · cases h2
          obtain ⟨q0, hq, he⟩ := wsI_at (ad := ad) (cA := cA) (I := I) (L := L) ha hi
          rw [cel_arr h0] at he
          have htk : ∃ ty, (tyL cA)[(aK ro).1]? = some (cA (aK ro).1, ty) := by
            have h456 : (aK ro).1 = 0 ∨ (aK ro).1 = 1 ∨ (aK ro).1 = 2 ∨ (aK ro).1 = 3 ∨ (aK ro).1 = 4 ∨ (aK ro).1 = 5 ∨ (aK ro).1 = 6 := by omega
            rcases h456 with q | q | q | q | q | q | q <;> (rw [q]; exact ⟨_, rfl⟩)
          obtain ⟨ty, hty⟩ := htk
          exact va_alen hx hb hKt.1 hP q0 _ he hty (show Int32.ofNat (aK ro).2 = z by rw [hbn]; exact hz) hd (hk H locs la hP hS hL hs o1 (okl_c trivial (okl_t o2)))
        · exact absurd q (by decide)
        · exact absurd q (by decide)
      · obtain (⟨⟨⟨⟨⟨q, -⟩, -⟩, -⟩, -⟩, -⟩ | ⟨-, ha⟩) | ⟨q, -⟩ := ht
        · exact absurd q (by decide)
        · subst ha
          cases h2
          have hi' : i < sLen.length := by rw [cnt_s.2] at hi; exact hi
          obtain ⟨z1, z2, z3, z4⟩ := hSh.1.1 i hi'
          exact va_tlen hx hb z4 hS rfl hd (hk H locs la hP hS hL hs o1 (okl_c trivial (okl_t o2)))
        · exact absurd q (by decide)
      · obtain (⟨⟨⟨⟨⟨q, -⟩, -⟩, -⟩, -⟩, -⟩ | ⟨q, -⟩) | ⟨-, ha⟩ := ht
        · exact absurd q (by decide)
        · exact absurd q (by decide)
        · subst ha
          cases h2
          have hi0 : i = 0 := by
            have : cnt 4002 = 1 := by decide
            omega
          subst hi0
          have hkk := hk H locs la hP hS hL hs o1 (okl_c trivial (okl_t o2))
          rw [hs.2.1] at hkk
          exact va_slen hx hb hSh.2.2.1 hSh.2.2.2.1 hSh.2.2.2.2.1 hS hd hkk
      · cases h2
    · rw [if_neg hro] at h2
      cases h2
  · cases h2

theorem g_invokestatic (hC : Cx p R s m args c D cA ad A cc nL own Ls xs) {k : Nat} (h1 : ck1 own cc pc (.invokestatic k, q) = true) (h2 : ex1 (.invokestatic k, q) ls st I L = some (ls', st', I', L', P)) (hp : P) (hk : Gl p l e R s m args below meth c cells slots Qw D cA ad A nL Ls xs (pc + q.1) ls' st' I' L') : Gl p l e R s m args below meth c cells slots Qw D cA ad A nL Ls xs pc ls st I L := by
  obtain ⟨hx, hb, hml, hown, hts, hKt, hSh, hAd, hRf, hRl⟩ := hC
  obtain ⟨n, t, a, b, c', e', z, w⟩ := q
  simp only [ck1, Bool.and_eq_true, decide_eq_true_eq] at h1
  obtain ⟨⟨hd, hn⟩, ht⟩ := h1
  have hn : n = 3 := hn
  subst hn
  have hd : decode cc pc = .ok (.invokestatic k, 3) := hd
  simp only [tck, Bool.and_eq_true, decide_eq_true_eq] at ht
  obtain ⟨⟨⟨⟨⟨⟨⟨h9, hac⟩, ha⟩, ha0⟩, hc⟩, hc0⟩, hka⟩, hkc⟩ := ht
  subst h9
  have h2 : xCpy a b c' e' ls st I L = some (ls', st', I', L', P) := h2
  have hw := AC_ok (List.contains_iff_mem.mp hac)
  unfold xCpy at h2
  split at h2
  · rename_i nn dp r1 i1 sp r0 i0 r hh0
    by_cases hro : r0 = a ∧ r1 = c'
    · rw [if_pos hro] at h2
      obtain ⟨rfl, rfl⟩ := hro
      cases h2
      obtain ⟨p1, p2, p3, p4, p5, p6⟩ := hp
      subst p6
      intro H locs la hP hS hL hs o1 o2
      have hi1 : i1 < cnt r1 := okl_h (okl_t (okl_t o2))
      have hi0 : i0 < cnt r0 := okl_h (okl_t (okl_t (okl_t (okl_t o2))))
      have hD := wsI_D (cA := cA) (I := I) (L := L) hAd
      obtain ⟨q0, hq0, he0⟩ := wsI_at (ad := ad) (cA := cA) (I := I) (L := L) ha hi0
      obtain ⟨q1, hq1, he1⟩ := wsI_at (ad := ad) (cA := cA) (I := I) (L := L) hc hi1
      rw [cel_ai hka (Or.inl rfl) ha0] at he0
      rw [cel_ai hkc (Or.inl rfl) hc0] at he1
      have hset := wsI_set (ad := ad) (cA := cA) (I := I) (L := L) (I' := ua I r1 i1 (va_cpy (I r0 i0) (I r1 i1) sp.toNatClampNeg dp.toNatClampNeg nn.toNatClampNeg)) (L' := L) hq1 (fun x y hxy => ⟨ua_off hxy, rfl⟩)
      rw [cel_ai hkc (Or.inl rfl) hc0, ua_on] at hset
      exact va_copyi hx hb (by rw [hml, hL.1]) hown (hts _ hw) (hts _ ac_nat) (hts _ ac_stt) (hts _ ac_ini) hKt.1 hP hD hS q0 q1 0 0 he0 he1 rfl rfl rfl p1 p2 p3 p4 p5 (fun _ _ => rfl) hRf (by simpa using hRl) hd (fun H1 locs1 hP1 hD1 hS1 => hk H1 locs1 la (by rw [← hset]; exact hP1) hS1 hL (Sc_ua hs hc) o1 (fun v hv => by cases hv))
    · rw [if_neg hro] at h2
      cases h2
  · cases h2

end Arr
