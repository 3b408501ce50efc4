/-! THE START: what the statement gives of the tables, the String constants, the statics (places printed by wip/whole/gen/start.py) -/
def FC : List Cond := flatC (Cond.and given_1 narrow_1)
def SK1 : List (Nat × Nat) := [(1, 57), (3, 87), (3, 93), (3, 101), (3, 106), (3, 129), (3, 131), (3, 111), (3, 116), (3, 139), (3, 203), (3, 185), (3, 183), (3, 173), (3, 214), (3, 216), (3, 221), (3, 223), (3, 225), (3, 227), (3, 229), (3, 121), (11, 77)]
def tmS (i : Nat) : Term := .string (cn (SK1.getD i (0, 0)).1) (SK1.getD i (0, 0)).2
def pE : List Nat := [45, 61, 70, 82, 92, 105, 116, 134, 149, 166, 182, 198, 216, 235, 254, 276, 299, 322, 347, 371, 398, 426, 456]
def pC : List Nat := [46, 62, 71, 83, 93, 106, 117, 135, 150, 167, 183, 199, 217, 236, 255, 277, 300, 323, 348, 372, 399, 427, 457]
def pA : List Nat := [47, 63, 72, 84, 94, 107, 118, 136, 151, 168, 184, 200, 218, 237, 256, 278, 301, 324, 349, 373, 400, 428, 458]
def pL : List Nat := [48, 64, 73, 85, 95, 108, 119, 137, 152, 169, 185, 201, 219, 238, 257, 279, 302, 325, 350, 374, 401, 429, 459]
def pB : List (List Nat) := [[49, 50, 51, 52, 53, 54, 55, 56, 57, 58, 59, 60], [65, 66, 67, 68], [74, 75, 76, 77, 78, 79], [86, 87, 88], [96, 97, 98, 99, 100], [109, 110], [120, 121, 122, 123, 124, 125, 126, 127], [138, 139, 140, 141], [153, 154, 155, 156, 157], [170, 171, 172], [186, 187], [202, 203, 204], [220, 221, 222], [239, 240], [258, 259, 260, 261], [280, 281, 282, 283], [303, 304, 305], [326, 327, 328, 329], [351, 352], [375, 376, 377, 378], [402, 403, 404, 405], [430, 431, 432, 433, 434], [460, 461, 462, 463, 464, 465, 466, 467, 468, 469, 470, 471, 472, 473, 474, 475, 476, 477, 478, 479, 480, 481, 482, 483, 484, 485, 486, 487, 488, 489, 490, 491, 492, 493, 494, 495, 496, 497, 498, 499, 500, 501, 502, 503, 504, 505, 506, 507, 508, 509, 510, 511, 512, 513, 514, 515, 516, 517, 518, 519, 520, 521, 522, 523, 524, 525, 526, 527, 528, 529, 530, 531, 532, 533, 534, 535, 536, 537, 538, 539, 540, 541, 542, 543, 544, 545, 546, 547, 548, 549, 550, 551, 552, 553, 554, 555, 556, 557, 558, 559, 560, 561]]
def pN : List (List Nat) := [[], [69], [80, 81], [89, 90, 91], [101, 102, 103, 104], [111, 112, 113, 114, 115], [128, 129, 130, 131, 132, 133], [142, 143, 144, 145, 146, 147, 148], [158, 159, 160, 161, 162, 163, 164, 165], [173, 174, 175, 176, 177, 178, 179, 180, 181], [188, 189, 190, 191, 192, 193, 194, 195, 196, 197], [205, 206, 207, 208, 209, 210, 211, 212, 213, 214, 215], [223, 224, 225, 226, 227, 228, 229, 230, 231, 232, 233, 234], [241, 242, 243, 244, 245, 246, 247, 248, 249, 250, 251, 252, 253], [262, 263, 264, 265, 266, 267, 268, 269, 270, 271, 272, 273, 274, 275], [284, 285, 286, 287, 288, 289, 290, 291, 292, 293, 294, 295, 296, 297, 298], [306, 307, 308, 309, 310, 311, 312, 313, 314, 315, 316, 317, 318, 319, 320, 321], [330, 331, 332, 333, 334, 335, 336, 337, 338, 339, 340, 341, 342, 343, 344, 345, 346], [353, 354, 355, 356, 357, 358, 359, 360, 361, 362, 363, 364, 365, 366, 367, 368, 369, 370], [379, 380, 381, 382, 383, 384, 385, 386, 387, 388, 389, 390, 391, 392, 393, 394, 395, 396, 397], [406, 407, 408, 409, 410, 411, 412, 413, 414, 415, 416, 417, 418, 419, 420, 421, 422, 423, 424, 425], [435, 436, 437, 438, 439, 440, 441, 442, 443, 444, 445, 446, 447, 448, 449, 450, 451, 452, 453, 454, 455], [562, 563, 564, 565, 566, 567, 568, 569, 570, 571, 572, 573, 574, 575, 576, 577, 578, 579, 580, 581, 582, 583]]
def pR : List Nat := [558, 645, 692, 705, 726, 731, 732, 737, 742, 743, 772, 789, 794, 795, 796, 797, 802, 807, 808, 809, 810, 819, 1602, 1608]
theorem sE_ck : ((List.range sLen.length).all fun i => decide (FC[pE.getD i 0]? = some (Cond.exactly (tmS i) "java/lang/String")) && decide (FC[pC.getD i 0]? = some (Cond.eq (.field (tmS i) "java/lang/String" "coder" "B") (.int 0))) && decide (FC[pA.getD i 0]? = some (Cond.arrayOf (.field (tmS i) "java/lang/String" "value" "[B") .byte)) && decide (FC[pL.getD i 0]? = some (Cond.eq (.length (.field (tmS i) "java/lang/String" "value" "[B")) (.int (Int32.ofNat (sLen.getD i 0))))) && decide (sLen.getD i 0 < 2 ^ 31)) = true := by decide +kernel
theorem sB_ck : ((List.range sLen.length).all fun i => (List.range (sLen.getD i 0)).all fun j => decide (FC[(pB.getD i []).getD j 0]? = some (Cond.eq (.elem (.field (tmS i) "java/lang/String" "value" "[B") (.int (Int32.ofNat j))) (.int ((sByt.getD i []).getD j 0))))) = true := by decide +kernel
theorem sN_ck : ((List.range sLen.length).all fun i => (List.range i).all fun j => decide (FC[(pN.getD i []).getD j 0]? = some (Cond.not (Cond.eq (tmS i) (tmS j)))) || decide (FC[(pN.getD i []).getD j 0]? = some (Cond.not (Cond.eq (tmS j) (tmS i))))) = true := by decide +kernel
def SRi : List ((Nat × Nat × Nat) × Nat) := SKl.zip pR
theorem SR_ck : (SRi.all fun e => decide (lw_tbl[e.2]? = some (Cond.stringRef (cn e.1.1) e.1.2.1 (sTx.getD e.1.2.2 "")))) = true := by decide +kernel
theorem SR_mem : (SKl.all fun q => SRi.any fun e => decide (e.1 = q)) = true := by decide +kernel
theorem SR_ok {q : Nat × Nat × Nat} (h : q ∈ SKl) : Cond.stringRef (cn q.1) q.2.1 (sTx.getD q.2.2 "") ∈ lw_tbl := by
  have h1 := List.all_eq_true.mp SR_mem q h
  obtain ⟨e, he, h2⟩ := List.any_eq_true.mp h1
  have h2 := of_decide_eq_true h2
  subst h2
  exact List.mem_of_getElem? (of_decide_eq_true (List.all_eq_true.mp SR_ck e he))
theorem SK_1 : (SKl.all fun q => decide (q = (11, 115, 0)) || (decide (SK1.getD q.2.2 (0, 0) = (q.1, q.2.1)) && decide (q.2.2 < sLen.length))) = true := by decide +kernel
theorem f_same : Cond.eq (.string "CoachWaits$Tokens" 57) (.string "CoachWaitsModel" 115) ∈ FC := List.mem_of_getElem? (i := 600) (by decide +kernel)
theorem f_comp : Cond.eq (.static "java/lang/String" "COMPACT_STRINGS" "Z") (.int 1) ∈ FC := List.mem_of_getElem? (i := 4) (by decide +kernel)
theorem f_sio : Cond.isRef (.static "jdk/internal/util/Preconditions" "SIOOBE_FORMATTER" "Ljava/util/function/BiFunction;") ∈ FC := List.mem_of_getElem? (i := 5) (by decide +kernel)
theorem l_comp : Cond.laysStatic "java/lang/String" "COMPACT_STRINGS" "Z" ∈ lw_tbl := List.mem_of_getElem? (i := 572) (by decide +kernel)
theorem l_sio : Cond.laysStatic "jdk/internal/util/Preconditions" "SIOOBE_FORMATTER" "Ljava/util/function/BiFunction;" ∈ lw_tbl := List.mem_of_getElem? (i := 611) (by decide +kernel)
theorem l_str : Cond.initialized "java/lang/String" ∈ lw_tbl := List.mem_of_getElem? (i := 139) (by decide +kernel)
theorem l_pre : Cond.initialized "jdk/internal/util/Preconditions" ∈ lw_tbl := List.mem_of_getElem? (i := 142) (by decide +kernel)
section St
variable {args : Array Value} {s : State}
theorem tw_all (hts : ∀ w ∈ lw_tbl, w.before args s = true) : ∀ w ∈ TW, w.before args s = true := fun w hw => hts w (List.mem_filter.mp hw).1
theorem st_D (hts : ∀ w ∈ lw_tbl, w.before args s = true) : ∃ D : va_G, ∀ (k : Nat) (q : vw_C), CL[k]? = some q → u_Kn s q.1 q.2.1 q.2.2 (D.1 k) (D.2 k) := by
  have h0 : ∀ k : Nat, ∃ z : ClassId × (Nat → Nat), k < 12 → u_Kn s (cn k) (Tf k) (nF (64 * k)) z.1 z.2 := by
    intro k
    by_cases hk : k < 12
    · obtain ⟨a, b, h⟩ := u_known (tw_all hts) (CL_in hk) (tw_all hts _ (CI_ok hk).2.2.2.1)
      exact ⟨(a, b), fun _ => h⟩
    · exact ⟨(0, fun _ => 0), fun h => absurd h hk⟩
  obtain ⟨z, hz⟩ := Classical.axiomOfChoice h0
  refine ⟨(fun k => (z k).1, fun k => (z k).2), fun k q hq => ?_⟩
  have hk : k < 12 := by
    have := (List.getElem?_eq_some_iff.mp hq).1
    simpa [CL] using this
  rw [CL_at hk] at hq
  cases hq
  exact hz k hk
theorem st_a {ty : FieldType} (h : (Cond.arrayClass ty).before args s = true) (ht : ∀ C, ty ≠ .object C) : ∃ c : ClassId, ArrOfT s c ty ∧ va_RA s c ty := by
  obtain ⟨c, k, comp, h1, h2, h3⟩ := Cond.arrayClass_spec h
  refine ⟨c, fun n z => ⟨fun k h => (by cases h), k, h2, comp, h3⟩, ?_⟩
  cases ty with
  | object C => exact absurd rfl (ht C)
  | _ => exact h1
theorem st_o {C : String} (h : (Cond.arrayOver (.object C)).before args s = true) : ∃ c : ClassId, ArrOfT s c (.object C) ∧ va_RA s c (.object C) := by
  obtain ⟨comp, c, k, h1, -, h3, h4, h5⟩ := Cond.arrayOver_spec h
  exact ⟨c, fun n z => ⟨fun k h => (by cases h), k, h3, comp, h4⟩, k, comp, h3, h4, h1, h5⟩
theorem st_K (hts : ∀ w ∈ lw_tbl, w.before args s = true) : ∃ (D : va_G) (cA : Nat → ClassId), va_K D CL (tyL cA) s := by
  obtain ⟨D, hD⟩ := st_D hts
  have htw := tw_all hts
  obtain ⟨c0, h0⟩ := st_a (htw _ aw_i) (fun C h => by cases h)
  obtain ⟨c1, h1⟩ := st_a (htw _ aw_b) (fun C h => by cases h)
  obtain ⟨c2, h2⟩ := st_a (htw _ aw_z) (fun C h => by cases h)
  obtain ⟨c3, h3⟩ := st_a (htw _ aw_j) (fun C h => by cases h)
  obtain ⟨c4, h4⟩ := st_o (hts _ ao_S)
  obtain ⟨c5, h5⟩ := st_o (hts _ ao_T)
  obtain ⟨c6, h6⟩ := st_o (hts _ ao_R)
  refine ⟨D, fun k => [c0, c1, c2, c3, c4, c5, c6].getD k 0, hD, fun k q hq => ?_⟩
  match k, hq with
  | 0, hq => cases hq; exact h0
  | 1, hq => cases hq; exact h1
  | 2, hq => cases hq; exact h2
  | 3, hq => cases hq; exact h3
  | 4, hq => cases hq; exact h4
  | 5, hq => cases hq; exact h5
  | 6, hq => cases hq; exact h6
  | k + 7, hq => simp [tyL] at hq
theorem st_KN {D : va_G} {cA : Nat → ClassId} (hts : ∀ w ∈ lw_tbl, w.before args s = true) (h : va_K D CL (tyL cA) s) : KN D cA s := by
  refine ⟨h, fun w hw => ?_, va_AO.of (hts _ ao_S), va_AO.of (hts _ ao_T), va_AO.of (hts _ ao_R)⟩
  have h1 := hts w (List.mem_filter.mp hw).1
  have hn := (List.mem_filter.mp hw).2
  cases w with
  | methodLinkNest a i x hh => exact va_Nw.of rfl h1
  | _ => exact absurd hn (by simp [isNestM])
theorem st_S (hts : ∀ w ∈ lw_tbl, w.before args s = true) (hgv : (Cond.and given_1 narrow_1).before args s = true) : ∃ sK sV : Nat → Nat, vk_S sLen.length sLen sByt sK sV (fun q => s.heap.size ≤ q) s s.heap ∧ ∀ q ∈ SKl, vk_R (cn q.1) q.2.1 (sTx.getD q.2.2 "") (sK q.2.2) s := by
  have hf : ∀ w ∈ FC, w.before args s = true := flat_of_before _ hgv
  have hE : ∀ i : Nat, i < sLen.length → _ := fun i hi => List.all_eq_true.mp sE_ck i (List.mem_range.mpr hi)
  simp only [Bool.and_eq_true, decide_eq_true_eq] at hE
  have hB : ∀ i : Nat, i < sLen.length → ∀ j : Nat, j < sLen.getD i 0 → _ := fun i hi j hj => of_decide_eq_true (List.all_eq_true.mp (List.all_eq_true.mp sB_ck i (List.mem_range.mpr hi)) j (List.mem_range.mpr hj))
  have hN : ∀ i j : Nat, i < sLen.length → j < i → (Cond.not (Cond.eq (tmS i) (tmS j))).before args s = true ∨ (Cond.not (Cond.eq (tmS j) (tmS i))).before args s = true := by
    intro i j hi hj
    have h := List.all_eq_true.mp (List.all_eq_true.mp sN_ck i (List.mem_range.mpr hi)) j (List.mem_range.mpr hj)
    simp only [Bool.or_eq_true, decide_eq_true_eq] at h
    rcases h with h | h
    · exact Or.inl (hf _ (List.mem_of_getElem? h))
    · exact Or.inr (hf _ (List.mem_of_getElem? h))
  obtain ⟨sK, sV, h1, h2⟩ := vk_Sof (args := args) (s := s) (N := sLen.length) (tm := tmS) (len := sLen) (byt := sByt) (A := fun q => s.heap.size ≤ q) (fun i hi => (hE i hi).2) (fun i hi => hf _ (List.mem_of_getElem? (hE i hi).1.1.1.1)) (fun i hi => hf _ (List.mem_of_getElem? (hE i hi).1.1.1.2)) (fun i hi => hf _ (List.mem_of_getElem? (hE i hi).1.1.2)) (fun i hi => hf _ (List.mem_of_getElem? (hE i hi).1.2))
    (fun i hi j hj => hf _ (List.mem_of_getElem? (hB i hi j hj))) (fun i j hi hj hne => by
      rcases Nat.lt_or_gt_of_ne hne with q | q
      · exact (hN j i hj q).symm
      · exact hN i j hi q) (fun a ha q => absurd ha (Nat.not_lt.mpr q))
  refine ⟨sK, sV, h1, fun q hq => ?_⟩
  have h3 := List.all_eq_true.mp SK_1 q hq
  simp only [Bool.or_eq_true, Bool.and_eq_true, decide_eq_true_eq] at h3
  rcases h3 with rfl | ⟨h3, h4⟩
  · have h5 := h2 0 (by decide)
    exact vk_R.of (A := args) (hts _ (SR_ok hq)) (va_eqR (hf _ f_same) h5)
  · have h5 := h2 q.2.2 h4
    unfold tmS at h5
    rw [h3] at h5
    exact vk_R.of (A := args) (hts _ (SR_ok hq)) h5
theorem st_Z (hts : ∀ w ∈ lw_tbl, w.before args s = true) (hgv : (Cond.and given_1 narrow_1).before args s = true) : ∃ fm : Nat, va_Z "java/lang/String" "COMPACT_STRINGS" "Z" (.int 1) (fun q => s.heap.size ≤ q) s s.heap ∧ (va_Z "jdk/internal/util/Preconditions" "SIOOBE_FORMATTER" "Ljava/util/function/BiFunction;" .null (fun q => s.heap.size ≤ q) s s.heap ∨ va_Z "jdk/internal/util/Preconditions" "SIOOBE_FORMATTER" "Ljava/util/function/BiFunction;" (.ref fm) (fun q => s.heap.size ≤ q) s s.heap) := by
  have hf : ∀ w ∈ FC, w.before args s = true := flat_of_before _ hgv
  have hA : ∀ a : Nat, a < s.heap.size → ¬ (fun q => s.heap.size ≤ q) a := fun a ha q => absurd ha (Nat.not_lt.mpr q)
  have h1 := va_Zof (A := fun q => s.heap.size ≤ q) (hts _ l_comp) (hts _ l_str) (va_eqt (hf _ f_comp)) hA
  rcases va_Zqof (A := fun q => s.heap.size ≤ q) (hts _ l_sio) (hts _ l_pre) (hf _ f_sio) hA with h | ⟨t, h⟩
  · exact ⟨0, h1, Or.inl h⟩
  · exact ⟨t, h1, Or.inr h⟩
end St
