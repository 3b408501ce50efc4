/-! all of them; branches, ends, calls; and so a method's contract -/
section All
variable {p : Program} {l : Launch} {e : Env} {R : Room} {s : State} {m : MethodId} {args : Array Value} {below : List Frame} {meth : Method} {c : Code} {cells slots : Nat} {Qw : State → Prop}
variable {D : va_G} {cA : Nat → ClassId} {ad : Nat → Nat → Nat} {A : Nat → Prop} {cc : ByteArray} {nL own Ls : Nat} {xs : Nat → Int32}
variable {pc : Nat} {ls st ls' st' : List MV} {I I' : MI} {L L' : ML} {P : Prop}
theorem g_all (hC : Cx p R s m args c D cA ad A cc nL own Ls xs) {q : RI} (h1 : ck1 own cc pc q = true) (h2 : ex1 q ls st I L = some (ls', st', I', L', P)) (hp : P) (hk : Gl p l e R s m args below meth c cells slots Qw D cA ad A nL Ls xs (pc + q.2.1) ls' st' I' L') : Gl p l e R s m args below meth c cells slots Qw D cA ad A nL Ls xs pc ls st I L := by
  obtain ⟨i, q⟩ := q
  cases i with
  | iconst k => exact g_iconst hC h1 h2 hp hk
  | bipush k => exact g_bipush hC h1 h2 hp hk
  | sipush k => exact g_sipush hC h1 h2 hp hk
  | lconst k => exact g_lconst hC h1 h2 hp hk
  | ldc k => exact g_ldc hC h1 h2 hp hk
  | ldc_w k => exact g_ldc_w hC h1 h2 hp hk
  | ldc2_w k => exact g_ldc2_w hC h1 h2 hp hk
  | aconst_null => exact g_aconst_null hC h1 h2 hp hk
  | getstatic k => exact g_getstatic hC h1 h2 hp hk
  | iload k => exact g_iload hC h1 h2 hp hk
  | iload_n k => exact g_iload_n hC h1 h2 hp hk
  | lload k => exact g_lload hC h1 h2 hp hk
  | lload_n k => exact g_lload_n hC h1 h2 hp hk
  | aload k => exact g_aload hC h1 h2 hp hk
  | aload_n k => exact g_aload_n hC h1 h2 hp hk
  | istore k => exact g_istore hC h1 h2 hp hk
  | istore_n k => exact g_istore_n hC h1 h2 hp hk
  | lstore k => exact g_lstore hC h1 h2 hp hk
  | lstore_n k => exact g_lstore_n hC h1 h2 hp hk
  | astore k => exact g_astore hC h1 h2 hp hk
  | astore_n k => exact g_astore_n hC h1 h2 hp hk
  | iinc k v => exact g_iinc hC h1 h2 hp hk
  | iadd => exact g_iadd hC h1 h2 hp hk
  | isub => exact g_isub hC h1 h2 hp hk
  | imul => exact g_imul hC h1 h2 hp hk
  | iand => exact g_iand hC h1 h2 hp hk
  | ior => exact g_ior hC h1 h2 hp hk
  | ixor => exact g_ixor hC h1 h2 hp hk
  | ishl => exact g_ishl hC h1 h2 hp hk
  | ishr => exact g_ishr hC h1 h2 hp hk
  | iushr => exact g_iushr hC h1 h2 hp hk
  | idiv => exact g_idiv hC h1 h2 hp hk
  | irem => exact g_irem hC h1 h2 hp hk
  | ladd => exact g_ladd hC h1 h2 hp hk
  | lsub => exact g_lsub hC h1 h2 hp hk
  | lmul => exact g_lmul hC h1 h2 hp hk
  | land => exact g_land hC h1 h2 hp hk
  | lor => exact g_lor hC h1 h2 hp hk
  | ldiv => exact g_ldiv hC h1 h2 hp hk
  | lrem => exact g_lrem hC h1 h2 hp hk
  | lshl => exact g_lshl hC h1 h2 hp hk
  | lshr => exact g_lshr hC h1 h2 hp hk
  | lcmp => exact g_lcmp hC h1 h2 hp hk
  | i2l => exact g_i2l hC h1 h2 hp hk
  | i2b => exact g_i2b hC h1 h2 hp hk
  | i2s => exact g_i2s hC h1 h2 hp hk
  | i2c => exact g_i2c hC h1 h2 hp hk
  | l2i => exact g_l2i hC h1 h2 hp hk
  | dup => exact g_dup hC h1 h2 hp hk
  | dup2 => exact g_dup2 hC h1 h2 hp hk
  | pop => exact g_pop hC h1 h2 hp hk
  | getfield k => exact g_getfield hC h1 h2 hp hk
  | putfield k => exact g_putfield hC h1 h2 hp hk
  | iaload => exact g_iaload hC h1 h2 hp hk
  | baload => exact g_baload hC h1 h2 hp hk
  | laload => exact g_laload hC h1 h2 hp hk
  | aaload => exact g_aaload hC h1 h2 hp hk
  | iastore => exact g_iastore hC h1 h2 hp hk
  | bastore => exact g_bastore hC h1 h2 hp hk
  | lastore => exact g_lastore hC h1 h2 hp hk
  | arraylength => exact g_arraylength hC h1 h2 hp hk
  | invokestatic k => exact g_invokestatic hC h1 h2 hp hk
  | _ => cases h2
theorem gl_goto (hC : Cx p R s m args c D cA ad A cc nL own Ls xs) {tgt : Nat} {off : Int} (hd : decode cc pc = .ok (.goto off, 3)) (ht : (pc : Int) + off = (tgt : Int)) (hk : (Gl p l e R s m args below meth c cells slots Qw D cA ad A nL Ls xs) tgt ls st I L) : (Gl p l e R s m args below meth c cells slots Qw D cA ad A nL Ls xs) pc ls st I L :=
  fun H locs la hP hS hL hs o1 o2 => lv_goto hC.1 hC.2.1 hd ht (hk H locs la hP hS hL hs o1 o2)
theorem gl_if (hC : Cx p R s m args c D cA ad A cc nL own Ls xs) {tgt : Nat} {off : Int} {k : Jvm.ClassFile.Cond} {x : Int32} (hd : decode cc pc = .ok (.ifCond k off, 3)) (ht : (pc : Int) + off = (tgt : Int)) (h3 : cz k x → (Gl p l e R s m args below meth c cells slots Qw D cA ad A nL Ls xs) tgt ls st I L) (h4 : ¬ cz k x → (Gl p l e R s m args below meth c cells slots Qw D cA ad A nL Ls xs) (pc + 3) ls st I L) : (Gl p l e R s m args below meth c cells slots Qw D cA ad A nL Ls xs) pc ls (vI x :: st) I L := by
  intro H locs la hP hS hL hs o1 o2
  have ka := fun q => h3 q H locs la hP hS hL hs o1 (okl_t o2)
  have kb := fun q => h4 q H locs la hP hS hL hs o1 (okl_t o2)
  cases k
  · exact lv_if_eq hC.1 hC.2.1 hd ht ka kb
  · exact lv_if_ne hC.1 hC.2.1 hd ht ka (fun q => kb (fun z => z q))
  · exact lv_if_lt hC.1 hC.2.1 hd ht ka kb
  · exact lv_if_ge hC.1 hC.2.1 hd ht ka kb
  · exact lv_if_gt hC.1 hC.2.1 hd ht ka kb
  · exact lv_if_le hC.1 hC.2.1 hd ht ka kb
theorem gl_icmp (hC : Cx p R s m args c D cA ad A cc nL own Ls xs) {tgt : Nat} {off : Int} {k : Jvm.ClassFile.Cond} {x y : Int32} (hd : decode cc pc = .ok (.if_icmp k off, 3)) (ht : (pc : Int) + off = (tgt : Int)) (h3 : cy k x y → (Gl p l e R s m args below meth c cells slots Qw D cA ad A nL Ls xs) tgt ls st I L) (h4 : ¬ cy k x y → (Gl p l e R s m args below meth c cells slots Qw D cA ad A nL Ls xs) (pc + 3) ls st I L) : (Gl p l e R s m args below meth c cells slots Qw D cA ad A nL Ls xs) pc ls (vI y :: vI x :: st) I L := by
  intro H locs la hP hS hL hs o1 o2
  have ka := fun q => h3 q H locs la hP hS hL hs o1 (okl_t (okl_t o2))
  have kb := fun q => h4 q H locs la hP hS hL hs o1 (okl_t (okl_t o2))
  cases k
  · exact lv_icmp_eq hC.1 hC.2.1 hd ht ka kb
  · exact lv_icmp_ne hC.1 hC.2.1 hd ht ka (fun q => kb (fun z => z q))
  · exact lv_icmp_lt hC.1 hC.2.1 hd ht ka kb
  · exact lv_icmp_ge hC.1 hC.2.1 hd ht ka kb
  · exact lv_icmp_gt hC.1 hC.2.1 hd ht ka kb
  · exact lv_icmp_le hC.1 hC.2.1 hd ht ka kb
theorem gl_null (hC : Cx p R s m args c D cA ad A cc nL own Ls xs) {tgt : Nat} {off : Int} {v : MV} (hd : decode cc pc = .ok (.ifnull off, 3)) (ht : (pc : Int) + off = (tgt : Int)) (h0 : v = vN ∨ ∃ r i, v = vR r i) (h3 : v = vN → (Gl p l e R s m args below meth c cells slots Qw D cA ad A nL Ls xs) tgt ls st I L) (h4 : v ≠ vN → (Gl p l e R s m args below meth c cells slots Qw D cA ad A nL Ls xs) (pc + 3) ls st I L) : (Gl p l e R s m args below meth c cells slots Qw D cA ad A nL Ls xs) pc ls (v :: st) I L := by
  intro H locs la hP hS hL hs o1 o2
  rcases h0 with rfl | ⟨r, i, rfl⟩
  · exact lv_ifnullN hC.1 hC.2.1 hd ht (h3 rfl H locs la hP hS hL hs o1 (okl_t o2))
  · exact lv_ifnull hC.1 hC.2.1 hd (h4 (by simp) H locs la hP hS hL hs o1 (okl_t o2))
theorem gl_nonnull (hC : Cx p R s m args c D cA ad A cc nL own Ls xs) {tgt : Nat} {off : Int} {v : MV} (hd : decode cc pc = .ok (.ifnonnull off, 3)) (ht : (pc : Int) + off = (tgt : Int)) (h0 : v = vN ∨ ∃ r i, v = vR r i) (h3 : v ≠ vN → (Gl p l e R s m args below meth c cells slots Qw D cA ad A nL Ls xs) tgt ls st I L) (h4 : v = vN → (Gl p l e R s m args below meth c cells slots Qw D cA ad A nL Ls xs) (pc + 3) ls st I L) : (Gl p l e R s m args below meth c cells slots Qw D cA ad A nL Ls xs) pc ls (v :: st) I L := by
  intro H locs la hP hS hL hs o1 o2
  rcases h0 with rfl | ⟨r, i, rfl⟩
  · exact lv_ifnonnullN hC.1 hC.2.1 hd (h4 rfl H locs la hP hS hL hs o1 (okl_t o2))
  · exact lv_ifnonnull hC.1 hC.2.1 hd ht (h3 (by simp) H locs la hP hS hL hs o1 (okl_t o2))
theorem lks {d x : Int} : ∀ (ps : List (Int × Int)), (∃ q ∈ ps, x = q.1 ∧ Op.lookupswitch.offset ps d x = q.2) ∨ ((∀ q ∈ ps, x ≠ q.1) ∧ Op.lookupswitch.offset ps d x = d) := by
  intro ps
  induction ps with
  | nil => exact Or.inr ⟨fun _ h => by simp at h, rfl⟩
  | cons q r ih =>
    rw [Op.lookupswitch.offset_cons]
    by_cases h : x = q.1
    · rw [if_pos h.symm]
      exact Or.inl ⟨q, List.mem_cons_self, h, rfl⟩
    · rw [if_neg (fun q => h q.symm)]
      rcases ih with ⟨q', h1, h2, h3⟩ | ⟨h1, h2⟩
      · exact Or.inl ⟨q', List.mem_cons_of_mem _ h1, h2, h3⟩
      · exact Or.inr ⟨fun z hz => by rcases List.mem_cons.mp hz with rfl | hz; exact h; exact h1 z hz, h2⟩
theorem gl_sw (hC : Cx p R s m args c D cA ad A cc nL own Ls xs) {len : Nat} {i : Instr} {ks : List (Int × Int)} {dd : Int} {x : Int32} (hd : decode cc pc = .ok (i, len)) (h2 : swK i pc = some (ks, dd)) (h3 : ∀ k t : Int, (k, t) ∈ ks → x.toInt = k → 0 ≤ t ∧ (Gl p l e R s m args below meth c cells slots Qw D cA ad A nL Ls xs) t.toNat ls st I L) (h4 : (∀ k t : Int, (k, t) ∈ ks → x.toInt ≠ k) → 0 ≤ dd ∧ (Gl p l e R s m args below meth c cells slots Qw D cA ad A nL Ls xs) dd.toNat ls st I L) : (Gl p l e R s m args below meth c cells slots Qw D cA ad A nL Ls xs) pc ls (vI x :: st) I L := by
  intro H locs la hP hS hL hs o1 o2
  cases i with
  | tableswitch d lo hi offs =>
    simp only [swK] at h2
    by_cases hok : offs.size = (hi - lo + 1).toNat ∧ lo ≤ hi
    · rw [if_pos hok] at h2
      cases h2
      by_cases hin : x.toInt < lo ∨ hi < x.toInt
      · obtain ⟨h0, hk⟩ := h4 (fun k t hkt e => by
          obtain ⟨j, hj, he⟩ := List.mem_map.mp hkt
          have hj := List.mem_range.mp hj
          cases he
          omega)
        exact lv_tableOut hC.1 hC.2.1 hd hin (by omega) (hk H locs la hP hS hL hs o1 (okl_t o2))
      · have hj : (x.toInt - lo).toNat < offs.size := by omega
        obtain ⟨h0, hk⟩ := h3 (lo + ((x.toInt - lo).toNat : Int)) ((pc : Int) + offs.getD (x.toInt - lo).toNat 0) (List.mem_map.mpr ⟨(x.toInt - lo).toNat, List.mem_range.mpr hj, rfl⟩) (by omega)
        refine lv_tableIn hC.1 hC.2.1 hd (fun q => hin (Or.inl q)) (fun q => hin (Or.inr q)) (off := offs.getD (x.toInt - lo).toNat 0) ?_ (by omega) (hk H locs la hP hS hL hs o1 (okl_t o2))
        simp [hj]
    · rw [if_neg hok] at h2
      cases h2
  | lookupswitch d ps =>
    simp only [swK] at h2
    split at h2
    · rename_i hok
      cases h2
      rcases lks (d := d) (x := x.toInt) ps.toList with ⟨q, h1, h2, h5⟩ | ⟨h1, h5⟩
      · obtain ⟨h0, hk⟩ := h3 q.1 ((pc : Int) + q.2) (List.mem_map.mpr ⟨q, h1, rfl⟩) h2
        exact lv_lookup hC.1 hC.2.1 hd hok h5 (by omega) (hk H locs la hP hS hL hs o1 (okl_t o2))
      · obtain ⟨h0, hk⟩ := h4 (fun k t hkt e => by
          obtain ⟨q, hq, he⟩ := List.mem_map.mp hkt
          cases he
          exact h1 q hq e)
        exact lv_lookup hC.1 hC.2.1 hd hok h5 (by omega) (hk H locs la hP hS hL hs o1 (okl_t o2))
    · cases h2
  | _ => cases h2
theorem gl_wk {ls' : List MV} (h1 : wk ls' ls) (h2 : (Gl p l e R s m args below meth c cells slots Qw D cA ad A nL Ls xs) pc ls' st I L) : (Gl p l e R s m args below meth c cells slots Qw D cA ad A nL Ls xs) pc ls st I L := fun H locs la hP hS hL hs o1 o2 => h2 H locs la hP hS (LR_wk hL h1) hs (okl_wk h1 o1) o2
end All
