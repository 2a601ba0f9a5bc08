set_option maxHeartbeats 4000000 in
set_option maxRecDepth 100000 in
/-- is there such a one -/
theorem c_X1_isServer (l : Launch) (dC : Nat → ClassId) (dI : Nat → Nat → Nat) (ad : Nat → Nat) (cI cJ : ClassId) (S C : Nat) (n : Nat → Nat) (va : Nat → Nat → Int32) (mk ct ps kn cx rd : Nat → Nat → Nat) (hS : S ≤ 4) (x : Int32) : Met l yX1_isServer wsX1_isServer ({ frames := 0, cells := 0, slots := 0, locals := 0 }) (va_Pc [.ref (ad 0), .int x] (mB dC dI ad cI cJ S C n va mk ct ps kn cx rd)) (vp_Si (zIs S x)) 0 0 (fun _ => False) := by
  refine Met.ofW (cc := cX1_isServer) (maxL := 2) (ret := (some .boolean)) (by decide) rfl ?_
  intro p e s m args below meth c s₁ B hml hv
  obtain ⟨rfl, hP, hK⟩ := hv
  have hx := B.exec
  have hb := B.bytes
  have hr := B.returns
  have hts := atoms_spec (ws := wsX1_isServer) B.pre
  have hown : s.vm.findClass RX1 = some m.cls := findClass_of_methodNamed B.named
  have hlocks := B.notSynchronized
  have hin0 : ∀ w ∈ wsX10, w ∈ wsX1_isServer := fun _ h => List.mem_cons_of_mem _ (List.mem_append_right _ h)
  have hl := lv_entry ([.ref (ad 0), .int x]) (n := 2) (Nat.le_of_ble_eq_true rfl)
  rw [lg_entry_eq]
  generalize (lg_sl ([.ref (ad 0), .int x]) ++ List.replicate (2 - (lg_sl ([.ref (ad 0), .int x])).length) Slot.unset).toArray = ls at hl ⊢
  have hl : lv_has ls 2 [(0, .ref (ad 0)), (1, .int x)] := hl
  refine lv_iload_n hx hb dX1_isServer_0 rfl (lv_at hl 1 rfl) ?_
  refine lv_if_lt (tgt := 16) hx hb dX1_isServer_1 (by decide) (fun c1 => ?_) (fun c1 => ?_)
  ·
    refine lv_iconst (v := nI 0) hx hb dX1_isServer_16 (by decide) ?_
    exact W.zret (v := nI 0) hx hb hr (by first | rfl | decide) (fun t ht hW => ⟨_, rfl, (by first | exact Or.inl ⟨rfl, zD_in (by omega) c1 c9⟩ | exact Or.inr ⟨rfl, zD_neg c1⟩ | exact Or.inr ⟨rfl, zD_big (by omega) c9⟩), ht⟩) (fun q h => by cases h) dX1_isServer_17
  ·
    refine lv_iload_n hx hb dX1_isServer_4 rfl (lv_at hl 1 rfl) ?_
    refine lv_aload_n hx hb dX1_isServer_5 rfl (lv_at hl 0 rfl) ?_
    refine va_get (D := (dC, dI)) (ci := 1) (v := .int (nI S)) (C := RX1) (T := TX1) (N := 10) hx hb hts hin0 hown hK hP 0 rfl rfl 0 (by decide) (hts (.fieldLink RX1 35 "DottedSiblingsModel" "servers" "I") (by decide +kernel)) (fun _ h9 => h9) rfl dX1_isServer_6 ?_
    refine lv_icmp_ge (tgt := 16) hx hb dX1_isServer_9 (by decide) (fun c9 => ?_) (fun c9 => ?_)
    ·
      refine lv_iconst (v := nI 0) hx hb dX1_isServer_16 (by decide) ?_
      exact W.zret (v := nI 0) hx hb hr (by first | rfl | decide) (fun t ht hW => ⟨_, rfl, (by first | exact Or.inl ⟨rfl, zD_in (by omega) c1 c9⟩ | exact Or.inr ⟨rfl, zD_neg c1⟩ | exact Or.inr ⟨rfl, zD_big (by omega) c9⟩), ht⟩) (fun q h => by cases h) dX1_isServer_17
    ·
      refine lv_iconst (v := nI 1) hx hb dX1_isServer_12 (by decide) ?_
      refine lv_goto (tgt := 17) hx hb dX1_isServer_13 (by decide) ?_
      exact W.zret (v := nI 1) hx hb hr (by first | rfl | decide) (fun t ht hW => ⟨_, rfl, (by first | exact Or.inl ⟨rfl, zD_in (by omega) c1 c9⟩ | exact Or.inr ⟨rfl, zD_neg c1⟩ | exact Or.inr ⟨rfl, zD_big (by omega) c9⟩), ht⟩) (fun q h => by cases h) dX1_isServer_17
set_option maxHeartbeats 4000000 in
set_option maxRecDepth 100000 in
/-- is there such a one -/
theorem c_X1_isClient (l : Launch) (dC : Nat → ClassId) (dI : Nat → Nat → Nat) (ad : Nat → Nat) (cI cJ : ClassId) (S C : Nat) (n : Nat → Nat) (va : Nat → Nat → Int32) (mk ct ps kn cx rd : Nat → Nat → Nat) (hC : C ≤ 4) (x : Int32) : Met l yX1_isClient wsX1_isClient ({ frames := 0, cells := 0, slots := 0, locals := 0 }) (va_Pc [.ref (ad 0), .int x] (mB dC dI ad cI cJ S C n va mk ct ps kn cx rd)) (vp_Si (zIs C x)) 0 0 (fun _ => False) := by
  refine Met.ofW (cc := cX1_isClient) (maxL := 2) (ret := (some .boolean)) (by decide) rfl ?_
  intro p e s m args below meth c s₁ B hml hv
  obtain ⟨rfl, hP, hK⟩ := hv
  have hx := B.exec
  have hb := B.bytes
  have hr := B.returns
  have hts := atoms_spec (ws := wsX1_isClient) B.pre
  have hown : s.vm.findClass RX1 = some m.cls := findClass_of_methodNamed B.named
  have hlocks := B.notSynchronized
  have hin0 : ∀ w ∈ wsX10, w ∈ wsX1_isClient := fun _ h => List.mem_cons_of_mem _ (List.mem_append_right _ h)
  have hl := lv_entry ([.ref (ad 0), .int x]) (n := 2) (Nat.le_of_ble_eq_true rfl)
  rw [lg_entry_eq]
  generalize (lg_sl ([.ref (ad 0), .int x]) ++ List.replicate (2 - (lg_sl ([.ref (ad 0), .int x])).length) Slot.unset).toArray = ls at hl ⊢
  have hl : lv_has ls 2 [(0, .ref (ad 0)), (1, .int x)] := hl
  refine lv_iload_n hx hb dX1_isClient_0 rfl (lv_at hl 1 rfl) ?_
  refine lv_if_lt (tgt := 16) hx hb dX1_isClient_1 (by decide) (fun c1 => ?_) (fun c1 => ?_)
  ·
    refine lv_iconst (v := nI 0) hx hb dX1_isClient_16 (by decide) ?_
    exact W.zret (v := nI 0) hx hb hr (by first | rfl | decide) (fun t ht hW => ⟨_, rfl, (by first | exact Or.inl ⟨rfl, zD_in (by omega) c1 c9⟩ | exact Or.inr ⟨rfl, zD_neg c1⟩ | exact Or.inr ⟨rfl, zD_big (by omega) c9⟩), ht⟩) (fun q h => by cases h) dX1_isClient_17
  ·
    refine lv_iload_n hx hb dX1_isClient_4 rfl (lv_at hl 1 rfl) ?_
    refine lv_aload_n hx hb dX1_isClient_5 rfl (lv_at hl 0 rfl) ?_
    refine va_get (D := (dC, dI)) (ci := 1) (v := .int (nI C)) (C := RX1) (T := TX1) (N := 10) hx hb hts hin0 hown hK hP 0 rfl rfl 1 (by decide) (hts (.fieldLink RX1 39 "DottedSiblingsModel" "clients" "I") (by decide +kernel)) (fun _ h9 => h9) rfl dX1_isClient_6 ?_
    refine lv_icmp_ge (tgt := 16) hx hb dX1_isClient_9 (by decide) (fun c9 => ?_) (fun c9 => ?_)
    ·
      refine lv_iconst (v := nI 0) hx hb dX1_isClient_16 (by decide) ?_
      exact W.zret (v := nI 0) hx hb hr (by first | rfl | decide) (fun t ht hW => ⟨_, rfl, (by first | exact Or.inl ⟨rfl, zD_in (by omega) c1 c9⟩ | exact Or.inr ⟨rfl, zD_neg c1⟩ | exact Or.inr ⟨rfl, zD_big (by omega) c9⟩), ht⟩) (fun q h => by cases h) dX1_isClient_17
    ·
      refine lv_iconst (v := nI 1) hx hb dX1_isClient_12 (by decide) ?_
      refine lv_goto (tgt := 17) hx hb dX1_isClient_13 (by decide) ?_
      exact W.zret (v := nI 1) hx hb hr (by first | rfl | decide) (fun t ht hW => ⟨_, rfl, (by first | exact Or.inl ⟨rfl, zD_in (by omega) c1 c9⟩ | exact Or.inr ⟨rfl, zD_neg c1⟩ | exact Or.inr ⟨rfl, zD_big (by omega) c9⟩), ht⟩) (fun q h => by cases h) dX1_isClient_17
set_option maxHeartbeats 4000000 in
set_option maxRecDepth 100000 in
/-- is there such a key -/
theorem c_X1_isKey (l : Launch) (x : Int32) : Met l yX1_isKey wsX1_isKey ({ frames := 0, cells := 0, slots := 0, locals := 0 }) (va_Pc [.int x] (fun _ => True)) (vp_Si (zIs 3 x)) 0 0 (fun _ => False) := by
  refine Met.ofW (cc := cX1_isKey) (maxL := 1) (ret := (some .boolean)) (by decide) rfl ?_
  intro p e s m args below meth c s₁ B hml hv
  obtain ⟨rfl, -⟩ := hv
  have hx := B.exec
  have hb := B.bytes
  have hr := B.returns
  have hts := atoms_spec (ws := wsX1_isKey) B.pre
  have hown : s.vm.findClass RX1 = some m.cls := findClass_of_methodNamed B.named
  have hlocks := B.notSynchronized
  have hl := lv_entry ([.int x]) (n := 1) (Nat.le_of_ble_eq_true rfl)
  rw [lg_entry_eq]
  generalize (lg_sl ([.int x]) ++ List.replicate (1 - (lg_sl ([.int x])).length) Slot.unset).toArray = ls at hl ⊢
  have hl : lv_has ls 1 [(0, .int x)] := hl
  refine lv_iload_n hx hb dX1_isKey_0 rfl (lv_at hl 0 rfl) ?_
  refine lv_if_lt (tgt := 13) hx hb dX1_isKey_1 (by decide) (fun c1 => ?_) (fun c1 => ?_)
  ·
    refine lv_iconst (v := nI 0) hx hb dX1_isKey_13 (by decide) ?_
    exact W.zret (v := nI 0) hx hb hr (by first | rfl | decide) (fun t ht hW => ⟨_, rfl, (by first | exact Or.inl ⟨rfl, zD_in (by omega) c1 c6⟩ | exact Or.inr ⟨rfl, zD_neg c1⟩ | exact Or.inr ⟨rfl, zD_big (by omega) c6⟩), ht⟩) (fun q h => by cases h) dX1_isKey_14
  ·
    refine lv_iload_n hx hb dX1_isKey_4 rfl (lv_at hl 0 rfl) ?_
    refine lv_iconst (v := nI 3) hx hb dX1_isKey_5 (by decide) ?_
    refine lv_icmp_ge (tgt := 13) hx hb dX1_isKey_6 (by decide) (fun c6 => ?_) (fun c6 => ?_)
    ·
      refine lv_iconst (v := nI 0) hx hb dX1_isKey_13 (by decide) ?_
      exact W.zret (v := nI 0) hx hb hr (by first | rfl | decide) (fun t ht hW => ⟨_, rfl, (by first | exact Or.inl ⟨rfl, zD_in (by omega) c1 c6⟩ | exact Or.inr ⟨rfl, zD_neg c1⟩ | exact Or.inr ⟨rfl, zD_big (by omega) c6⟩), ht⟩) (fun q h => by cases h) dX1_isKey_14
    ·
      refine lv_iconst (v := nI 1) hx hb dX1_isKey_9 (by decide) ?_
      refine lv_goto (tgt := 14) hx hb dX1_isKey_10 (by decide) ?_
      exact W.zret (v := nI 1) hx hb hr (by first | rfl | decide) (fun t ht hW => ⟨_, rfl, (by first | exact Or.inl ⟨rfl, zD_in (by omega) c1 c6⟩ | exact Or.inr ⟨rfl, zD_neg c1⟩ | exact Or.inr ⟨rfl, zD_big (by omega) c6⟩), ht⟩) (fun q h => by cases h) dX1_isKey_14
set_option maxHeartbeats 4000000 in
set_option maxRecDepth 100000 in
/-- the greatest of a set -/
theorem c_X1_newest (l : Launch) (dC : Nat → ClassId) (dI : Nat → Nat → Nat) (ad : Nat → Nat) (cI cJ : ClassId) (S C : Nat) (n : Nat → Nat) (va : Nat → Nat → Int32) (mk ct ps kn cx rd : Nat → Nat → Nat) (k set : Nat) (hk : k < 3) (hset : set < 2 ^ 63) (hn : n k ≤ 40) : Met l yX1_newest wsX1_newest ({ frames := 0, cells := 0, slots := 0, locals := 0 }) (va_Pc [.ref (ad 0), .long (lN set), .int (nI k)] (mB dC dI ad cI cJ S C n va mk ct ps kn cx rd)) (vp_Sl (fun r => r = lN (zNew (n k) (ps k) set))) 0 0 (fun _ => False) := by
  refine Met.ofW (cc := cX1_newest) (maxL := 7) (ret := (some .long)) (by decide) rfl ?_
  intro p e s m args below meth c s₁ B hml hv
  obtain ⟨rfl, hP, hK⟩ := hv
  have hx := B.exec
  have hb := B.bytes
  have hr := B.returns
  have hts := atoms_spec (ws := wsX1_newest) B.pre
  have hown : s.vm.findClass RX1 = some m.cls := findClass_of_methodNamed B.named
  have hlocks := B.notSynchronized
  have hin0 : ∀ w ∈ wsX10, w ∈ wsX1_newest := fun _ h => List.mem_cons_of_mem _ (List.mem_append_right _ h)
  have hl := lv_entry ([.ref (ad 0), .long (lN set), .int (nI k)]) (n := 7) (Nat.le_of_ble_eq_true rfl)
  rw [lg_entry_eq]
  generalize (lg_sl ([.ref (ad 0), .long (lN set), .int (nI k)]) ++ List.replicate (7 - (lg_sl ([.ref (ad 0), .long (lN set), .int (nI k)])).length) Slot.unset).toArray = ls at hl ⊢
  have hl : lv_has ls 7 [(0, .ref (ad 0)), (1, .long (lN set)), (3, .int (nI k))] := hl
  refine lv_lconst (v := lN 0) hx hb dX1_newest_0 (by decide) ?_
  refine lv_lstore (lv' := [(4, .long (lN 0)), (0, .ref (ad 0)), (1, .long (lN set)), (3, .int (nI k))]) hx hb dX1_newest_1 hl (by decide) rfl (fun ls hl => ?_)
  refine lv_iconst (v := nI 0) hx hb dX1_newest_3 (by decide) ?_
  refine lv_istore (lv' := [(6, .int (nI 0)), (4, .long (lN 0)), (0, .ref (ad 0)), (1, .long (lN set)), (3, .int (nI k))]) hx hb dX1_newest_4 hl (by decide) rfl (fun ls hl => ?_)
  refine zr_loop (pc := 6) (fun d ls => ∃ i, i ≤ n k ∧ d = n k - i ∧ lv_has ls 7 [(0, .ref (ad 0)), (1, .long (lN set)), (3, .int (nI k)), (4, .long (lN (zRep (ps k) set i))), (6, .int (nI i))]) ?_ _ _ ⟨0, Nat.zero_le _, rfl, lv_sub hl [2, 3, 4, 1, 0] rfl⟩
  rintro d ls ⟨i, hi, rfl, hl⟩ ih6
  refine lv_iload hx hb dX1_newest_6 (lv_at hl 4 rfl) ?_
  refine lv_aload_n hx hb dX1_newest_8 rfl (lv_at hl 0 rfl) ?_
  refine va_get (D := (dC, dI)) (ci := 1) (v := .ref (ad 1)) (C := RX1) (T := TX1) (N := 10) hx hb hts hin0 hown hK hP 0 rfl rfl 2 (by decide) (hts (.fieldLink RX1 7 "DottedSiblingsModel" "counts" "[I") (by decide +kernel)) (fun _ h9 => h9) rfl dX1_newest_9 ?_
  refine lv_iload_n hx hb dX1_newest_12 rfl (lv_at hl 2 rfl) ?_
  refine zr_iald (v := nI (n k)) hx hb hK hP 1 0 rfl rfl (by omega) (by omega) rfl dX1_newest_13 ?_
  refine zr_ige (tgt := 55) hx hb (by omega) (by omega) dX1_newest_14 (by decide) (fun c14 => ?_) (fun c14 => ?_)
  ·
    refine lv_lload_n hx hb dX1_newest_55 rfl (lv_at hl 1 rfl) ?_
    refine lv_lload hx hb dX1_newest_56 (lv_at hl 3 rfl) ?_
    refine lv_ldc2 (v := (-1)) hx hb hown (hts (.constantLong RX1 42 (-1)) (by decide +kernel)) dX1_newest_58 ?_
    refine lv_lxor hx hb dX1_newest_61 ?_
    refine lv_land hx hb dX1_newest_62 ?_
    exact W.lret (v := (lN set) &&& ((lN (zRep (ps k) set i)) ^^^ (-1))) hx hb hr (fun t ht hW => ⟨_, rfl, (by first | exact (by rw [show i = n k by omega]; exact zNew_l _ _)), ht⟩) (fun q h => by cases h) dX1_newest_63
  ·
    refine lv_lload hx hb dX1_newest_17 (lv_at hl 3 rfl) ?_
    refine lv_lload_n hx hb dX1_newest_19 rfl (lv_at hl 1 rfl) ?_
    refine lv_iload hx hb dX1_newest_20 (lv_at hl 4 rfl) ?_
    refine zr_bit (tgt := 45) hx hb (by omega) (by omega) dX1_newest_22 dX1_newest_23 dX1_newest_24 dX1_newest_25 dX1_newest_26 dX1_newest_27 (by decide) (fun c22 => ?_) (fun c22 => ?_)
    ·
      refine lv_lconst (v := lN 0) hx hb dX1_newest_45 (by decide) ?_
      refine zr_lor hx hb dX1_newest_46 ?_
      refine lv_lstore (lv' := [(4, .long (lN ((zRep (ps k) set i) ||| 0))), (0, .ref (ad 0)), (1, .long (lN set)), (3, .int (nI k)), (6, .int (nI i))]) hx hb dX1_newest_47 hl (by decide) rfl (fun ls hl => ?_)
      refine lv_iinc (v := nI (i + 1)) (lv' := [(6, .int (nI (i + 1))), (4, .long (lN ((zRep (ps k) set i) ||| 0))), (0, .ref (ad 0)), (1, .long (lN set)), (3, .int (nI k))]) hx hb dX1_newest_49 hl (k := 4) rfl (by rw [← nI_1]; rfl) (by decide) rfl (fun ls hl => ?_)
      refine lv_goto (tgt := 6) hx hb dX1_newest_52 (by decide) ?_
      exact ih6 _ _ (by omega) ⟨i + 1, by omega, rfl, by first | (rw [zRep_t c22]; exact lv_sub hl [2, 3, 4, 1, 0] rfl) | (rw [zRep_f c22, ← Nat.or_zero (zRep (ps k) set i)]; exact lv_sub hl [2, 3, 4, 1, 0] rfl)⟩
    ·
      refine lv_aload_n hx hb dX1_newest_30 rfl (lv_at hl 0 rfl) ?_
      refine va_get (D := (dC, dI)) (ci := 1) (v := .ref (ad 5)) (C := RX1) (T := TX1) (N := 10) hx hb hts hin0 hown hK hP 0 rfl rfl 6 (by decide) (hts (.fieldLink RX1 22 "DottedSiblingsModel" "pasts" "[J") (by decide +kernel)) (fun _ h9 => h9) rfl dX1_newest_31 ?_
      refine lv_bipush (v := nI 40) hx hb dX1_newest_34 (by decide) ?_
      refine lv_iload_n hx hb dX1_newest_36 rfl (lv_at hl 2 rfl) ?_
      refine zr_imul hx hb dX1_newest_37 ?_
      refine lv_iload hx hb dX1_newest_38 (lv_at hl 4 rfl) ?_
      refine zr_iadd hx hb dX1_newest_40 ?_
      refine zr_lald (v := lN (ps k i)) hx hb hK hP 5 1 rfl rfl (by omega) (by omega) (congrArg lN (zf40 _ (by omega))) dX1_newest_41 ?_
      refine lv_goto (tgt := 46) hx hb dX1_newest_42 (by decide) ?_
      refine zr_lor hx hb dX1_newest_46 ?_
      refine lv_lstore (lv' := [(4, .long (lN ((zRep (ps k) set i) ||| (ps k i)))), (0, .ref (ad 0)), (1, .long (lN set)), (3, .int (nI k)), (6, .int (nI i))]) hx hb dX1_newest_47 hl (by decide) rfl (fun ls hl => ?_)
      refine lv_iinc (v := nI (i + 1)) (lv' := [(6, .int (nI (i + 1))), (4, .long (lN ((zRep (ps k) set i) ||| (ps k i)))), (0, .ref (ad 0)), (1, .long (lN set)), (3, .int (nI k))]) hx hb dX1_newest_49 hl (k := 4) rfl (by rw [← nI_1]; rfl) (by decide) rfl (fun ls hl => ?_)
      refine lv_goto (tgt := 6) hx hb dX1_newest_52 (by decide) ?_
      exact ih6 _ _ (by omega) ⟨i + 1, by omega, rfl, by first | (rw [zRep_t c22]; exact lv_sub hl [2, 3, 4, 1, 0] rfl) | (rw [zRep_f c22, ← Nat.or_zero (zRep (ps k) set i)]; exact lv_sub hl [2, 3, 4, 1, 0] rfl)⟩
set_option maxHeartbeats 4000000 in
set_option maxRecDepth 100000 in
/-- how many writes a set has -/
theorem c_X1_sizeOf (l : Launch) (set : Nat) (hset : set < 2 ^ 63) : Met l yX1_sizeOf wsX1_sizeOf ({ frames := 0, cells := 0, slots := 0, locals := 0 }) (va_Pc [.long (lN set)] (fun _ => True)) (vp_Si (fun r => r = nI (zSize set))) 0 0 (fun _ => False) := by
  refine Met.ofW (cc := cX1_sizeOf) (maxL := 4) (ret := (some .int)) (by decide) rfl ?_
  intro p e s m args below meth c s₁ B hml hv
  obtain ⟨rfl, -⟩ := hv
  have hx := B.exec
  have hb := B.bytes
  have hr := B.returns
  have hts := atoms_spec (ws := wsX1_sizeOf) B.pre
  have hown : s.vm.findClass RX1 = some m.cls := findClass_of_methodNamed B.named
  have hlocks := B.notSynchronized
  have hl := lv_entry ([.long (lN set)]) (n := 4) (Nat.le_of_ble_eq_true rfl)
  rw [lg_entry_eq]
  generalize (lg_sl ([.long (lN set)]) ++ List.replicate (4 - (lg_sl ([.long (lN set)])).length) Slot.unset).toArray = ls at hl ⊢
  have hl : lv_has ls 4 [(0, .long (lN set))] := hl
  refine lv_iconst (v := nI 0) hx hb dX1_sizeOf_0 (by decide) ?_
  refine lv_istore_n (lv' := [(2, .int (nI 0)), (0, .long (lN set))]) hx hb dX1_sizeOf_1 rfl hl (by decide) rfl (fun ls hl => ?_)
  refine lv_iconst (v := nI 0) hx hb dX1_sizeOf_2 (by decide) ?_
  refine lv_istore_n (lv' := [(3, .int (nI 0)), (2, .int (nI 0)), (0, .long (lN set))]) hx hb dX1_sizeOf_3 rfl hl (by decide) rfl (fun ls hl => ?_)
  refine zr_loop (pc := 4) (fun d ls => ∃ i, i ≤ 40 ∧ d = 40 - i ∧ lv_has ls 4 [(0, .long (lN set)), (2, .int (nI (cn (fun j => set.testBit j) i))), (3, .int (nI i))]) ?_ _ _ ⟨0, Nat.zero_le _, rfl, lv_sub hl [2, 1, 0] rfl⟩
  rintro d ls ⟨i, hi, rfl, hl⟩ ih4
  have hz9 := cn_le (fun j => set.testBit j) i
  refine lv_iload_n hx hb dX1_sizeOf_4 rfl (lv_at hl 2 rfl) ?_
  refine lv_bipush (v := nI 40) hx hb dX1_sizeOf_5 (by decide) ?_
  refine zr_ige (tgt := 26) hx hb (by omega) (by omega) dX1_sizeOf_7 (by decide) (fun c7 => ?_) (fun c7 => ?_)
  ·
    refine lv_iload_n hx hb dX1_sizeOf_26 rfl (lv_at hl 1 rfl) ?_
    exact W.iret (v := nI (cn (fun j => set.testBit j) i)) hx hb hr (fun t ht hW => ⟨_, rfl, (by first | exact (by rw [show i = 40 by omega]; rfl)), ht⟩) (fun q h => by cases h) dX1_sizeOf_27
  ·
    refine lv_iload_n hx hb dX1_sizeOf_10 rfl (lv_at hl 1 rfl) ?_
    refine lv_i2l hx hb dX1_sizeOf_11 (nI_l (by omega)) ?_
    refine lv_lload_n hx hb dX1_sizeOf_12 rfl (lv_at hl 0 rfl) ?_
    refine lv_iload_n hx hb dX1_sizeOf_13 rfl (lv_at hl 2 rfl) ?_
    refine zr_lshr hx hb hset (by omega) dX1_sizeOf_14 ?_
    refine lv_lconst (v := lN 1) hx hb dX1_sizeOf_15 (by decide) ?_
    refine zr_land1 hx hb dX1_sizeOf_16 ?_
    refine zr_ladd hx hb dX1_sizeOf_17 ?_
    refine lv_l2i hx hb dX1_sizeOf_18 (lN_i _) ?_
    refine lv_istore_n (lv' := [(2, .int (nI (cn (fun j => set.testBit j) i + set / 2 ^ i % 2))), (0, .long (lN set)), (3, .int (nI i))]) hx hb dX1_sizeOf_19 rfl hl (by decide) rfl (fun ls hl => ?_)
    refine lv_iinc (v := nI (i + 1)) (lv' := [(3, .int (nI (i + 1))), (2, .int (nI (cn (fun j => set.testBit j) i + set / 2 ^ i % 2))), (0, .long (lN set))]) hx hb dX1_sizeOf_20 hl (k := 2) rfl (by rw [← nI_1]; rfl) (by decide) rfl (fun ls hl => ?_)
    refine lv_goto (tgt := 4) hx hb dX1_sizeOf_23 (by decide) ?_
    exact ih4 _ _ (by omega) ⟨i + 1, by omega, rfl, by rw [cn_bit]; exact lv_sub hl [2, 1, 0] rfl⟩
set_option maxHeartbeats 4000000 in
set_option maxRecDepth 100000 in
/-- the i-th of a set of siblings -/
theorem c_X1_at (l : Launch) (dC : Nat → ClassId) (dI : Nat → Nat → Nat) (ad : Nat → Nat) (cI cJ : ClassId) (S C : Nat) (n : Nat → Nat) (va : Nat → Nat → Int32) (mk ct ps kn cx rd : Nat → Nat → Nat) (k set : Nat) (x : Int32) (hk : k < 3) (hset : set < 2 ^ 63) (hn : n k ≤ 40) (hS : S ≤ 4) (hmk : ∀ w, w < n k → mk k w < S) : Met l yX1_at wsX1_at ({ frames := 0, cells := 0, slots := 0, locals := 0 }) (va_Pc [.ref (ad 0), .long (lN set), .int (nI k), .int x] (mB dC dI ad cI cJ S C n va mk ct ps kn cx rd)) (vp_Si (fun r => r = zW (zAt S (n k) (mk k) set x))) 0 0 (fun _ => False) := by
  refine Met.ofW (cc := cX1_at) (maxL := 8) (ret := (some .int)) (by decide) rfl ?_
  intro p e s m args below meth c s₁ B hml hv
  obtain ⟨rfl, hP, hK⟩ := hv
  have hx := B.exec
  have hb := B.bytes
  have hr := B.returns
  have hts := atoms_spec (ws := wsX1_at) B.pre
  have hown : s.vm.findClass RX1 = some m.cls := findClass_of_methodNamed B.named
  have hlocks := B.notSynchronized
  have hin0 : ∀ w ∈ wsX10, w ∈ wsX1_at := fun _ h => List.mem_cons_of_mem _ (List.mem_append_right _ h)
  have hl := lv_entry ([.ref (ad 0), .long (lN set), .int (nI k), .int x]) (n := 8) (Nat.le_of_ble_eq_true rfl)
  rw [lg_entry_eq]
  generalize (lg_sl ([.ref (ad 0), .long (lN set), .int (nI k), .int x]) ++ List.replicate (8 - (lg_sl ([.ref (ad 0), .long (lN set), .int (nI k), .int x])).length) Slot.unset).toArray = ls at hl ⊢
  have hl : lv_has ls 8 [(0, .ref (ad 0)), (1, .long (lN set)), (3, .int (nI k)), (4, .int x)] := hl
  refine lv_iconst (v := nI 0) hx hb dX1_at_0 (by decide) ?_
  refine lv_istore (lv' := [(5, .int (nI 0)), (0, .ref (ad 0)), (1, .long (lN set)), (3, .int (nI k)), (4, .int x)]) hx hb dX1_at_1 hl (by decide) rfl (fun ls hl => ?_)
  refine lv_iconst (v := nI 0) hx hb dX1_at_3 (by decide) ?_
  refine lv_istore (lv' := [(6, .int (nI 0)), (5, .int (nI 0)), (0, .ref (ad 0)), (1, .long (lN set)), (3, .int (nI k)), (4, .int x)]) hx hb dX1_at_4 hl (by decide) rfl (fun ls hl => ?_)
  refine zr_loop (pc := 6) (fun d ls => ∃ s9 seen, s9 ≤ S ∧ seen ≤ 40 * s9 ∧ zOut (zHit (mk k) set) (n k) x (S - s9) s9 seen = zOut (zHit (mk k) set) (n k) x S 0 0 ∧ d = S - s9 ∧ lv_has ls 8 [(0, .ref (ad 0)), (1, .long (lN set)), (3, .int (nI k)), (4, .int x), (5, .int (nI seen)), (6, .int (nI s9))]) ?_ _ _ ⟨0, 0, Nat.zero_le _, Nat.zero_le _, rfl, rfl, lv_sub hl [2, 3, 4, 5, 1, 0] rfl⟩
  rintro d ls ⟨s9, seen, hs9, hseen, he, rfl, hl⟩ ih6
  refine lv_iload hx hb dX1_at_6 (lv_at hl 5 rfl) ?_
  refine lv_aload_n hx hb dX1_at_8 rfl (lv_at hl 0 rfl) ?_
  refine va_get (D := (dC, dI)) (ci := 1) (v := .int (nI S)) (C := RX1) (T := TX1) (N := 10) hx hb hts hin0 hown hK hP 0 rfl rfl 0 (by decide) (hts (.fieldLink RX1 35 "DottedSiblingsModel" "servers" "I") (by decide +kernel)) (fun _ h9 => h9) rfl dX1_at_9 ?_
  refine zr_ige (tgt := 82) hx hb (by omega) (by omega) dX1_at_12 (by decide) (fun c12 => ?_) (fun c12 => ?_)
  ·
    refine lv_iconst (v := (-1)) hx hb dX1_at_82 (by decide) ?_
    exact W.iret (v := (-1)) hx hb hr (fun t ht hW => ⟨_, rfl, (by first | exact (by unfold zAt; rw [← he, show S - s9 = 0 by omega]; rfl)), ht⟩) (fun q h => by cases h) dX1_at_83
  ·
    refine lv_iconst (v := nI 0) hx hb dX1_at_15 (by decide) ?_
    refine lv_istore (lv' := [(7, .int (nI 0)), (0, .ref (ad 0)), (1, .long (lN set)), (3, .int (nI k)), (4, .int x), (5, .int (nI seen)), (6, .int (nI s9))]) hx hb dX1_at_16 hl (by decide) rfl (fun ls hl => ?_)
    refine zr_loop (pc := 18) (fun d ls => ∃ w seen2, w ≤ n k ∧ seen2 ≤ seen + w ∧ zIn ((zHit (mk k) set) s9) x (n k - w) w seen2 = zIn ((zHit (mk k) set) s9) x (n k) 0 seen ∧ d = n k - w ∧ lv_has ls 8 [(0, .ref (ad 0)), (1, .long (lN set)), (3, .int (nI k)), (4, .int x), (5, .int (nI seen2)), (6, .int (nI s9)), (7, .int (nI w))]) ?_ _ _ ⟨0, seen, Nat.zero_le _, Nat.le_refl _, rfl, rfl, lv_sub hl [1, 2, 3, 4, 5, 6, 0] rfl⟩
    rintro d ls ⟨w, seen2, hw, hseen2, he2, rfl, hl⟩ ih18
    refine lv_iload hx hb dX1_at_18 (lv_at hl 6 rfl) ?_
    refine lv_aload_n hx hb dX1_at_20 rfl (lv_at hl 0 rfl) ?_
    refine va_get (D := (dC, dI)) (ci := 1) (v := .ref (ad 1)) (C := RX1) (T := TX1) (N := 10) hx hb hts hin0 hown hK hP 0 rfl rfl 2 (by decide) (hts (.fieldLink RX1 7 "DottedSiblingsModel" "counts" "[I") (by decide +kernel)) (fun _ h9 => h9) rfl dX1_at_21 ?_
    refine lv_iload_n hx hb dX1_at_24 rfl (lv_at hl 2 rfl) ?_
    refine zr_iald (v := nI (n k)) hx hb hK hP 1 0 rfl rfl (by omega) (by omega) rfl dX1_at_25 ?_
    refine zr_ige (tgt := 76) hx hb (by omega) (by omega) dX1_at_26 (by decide) (fun c26 => ?_) (fun c26 => ?_)
    ·
      refine lv_iinc (v := nI (s9 + 1)) (lv' := [(6, .int (nI (s9 + 1))), (0, .ref (ad 0)), (1, .long (lN set)), (3, .int (nI k)), (4, .int x), (5, .int (nI seen2)), (7, .int (nI w))]) hx hb dX1_at_76 hl (k := 5) rfl (by rw [← nI_1]; rfl) (by decide) rfl (fun ls hl => ?_)
      refine lv_goto (tgt := 6) hx hb dX1_at_79 (by decide) ?_
      exact ih6 _ _ (by omega) ⟨s9 + 1, seen2, by omega, by omega, (zOut_next (by omega) (by rw [← he2, show n k - w = 0 by omega]; rfl)).symm.trans he, rfl, lv_sub hl [1, 2, 3, 4, 5, 0] rfl⟩
    ·
      have hm9 := hmk w (by omega)
      refine lv_lload_n hx hb dX1_at_29 rfl (lv_at hl 1 rfl) ?_
      refine lv_iload hx hb dX1_at_30 (lv_at hl 6 rfl) ?_
      refine zr_bit (tgt := 70) hx hb (by omega) (by omega) dX1_at_32 dX1_at_33 dX1_at_34 dX1_at_35 dX1_at_36 dX1_at_37 (by decide) (fun c32 => ?_) (fun c32 => ?_)
      ·
        refine lv_iinc (v := nI (w + 1)) (lv' := [(7, .int (nI (w + 1))), (0, .ref (ad 0)), (1, .long (lN set)), (3, .int (nI k)), (4, .int x), (5, .int (nI seen2)), (6, .int (nI s9))]) hx hb dX1_at_70 hl (k := 6) rfl (by rw [← nI_1]; rfl) (by decide) rfl (fun ls hl => ?_)
        refine lv_goto (tgt := 18) hx hb dX1_at_73 (by decide) ?_
        first | exact ih18 _ _ (by omega) ⟨w + 1, seen2 + 1, by omega, by omega, (zIn_go (by omega) (zHit_t c54 c32) c61).symm.trans he2, rfl, lv_sub hl [1, 2, 3, 4, 5, 6, 0] rfl⟩ | exact ih18 _ _ (by omega) ⟨w + 1, seen2, by omega, by omega, (zIn_skip (by omega) (zHit_n c54)).symm.trans he2, rfl, lv_sub hl [1, 2, 3, 4, 5, 6, 0] rfl⟩ | exact ih18 _ _ (by omega) ⟨w + 1, seen2, by omega, by omega, (zIn_skip (by omega) (zHit_b c32)).symm.trans he2, rfl, lv_sub hl [1, 2, 3, 4, 5, 6, 0] rfl⟩
      ·
        refine lv_aload_n hx hb dX1_at_40 rfl (lv_at hl 0 rfl) ?_
        refine va_get (D := (dC, dI)) (ci := 1) (v := .ref (ad 3)) (C := RX1) (T := TX1) (N := 10) hx hb hts hin0 hown hK hP 0 rfl rfl 4 (by decide) (hts (.fieldLink RX1 16 "DottedSiblingsModel" "made" "[I") (by decide +kernel)) (fun _ h9 => h9) rfl dX1_at_41 ?_
        refine lv_bipush (v := nI 40) hx hb dX1_at_44 (by decide) ?_
        refine lv_iload_n hx hb dX1_at_46 rfl (lv_at hl 2 rfl) ?_
        refine zr_imul hx hb dX1_at_47 ?_
        refine lv_iload hx hb dX1_at_48 (lv_at hl 6 rfl) ?_
        refine zr_iadd hx hb dX1_at_50 ?_
        refine zr_iald (v := nI (mk k w)) hx hb hK hP 3 0 rfl rfl (by omega) (by omega) (congrArg nI (zf40 _ (by omega))) dX1_at_51 ?_
        refine lv_iload hx hb dX1_at_52 (lv_at hl 5 rfl) ?_
        refine zr_ine (tgt := 70) hx hb (by omega) (by omega) dX1_at_54 (by decide) (fun c54 => ?_) (fun c54 => ?_)
        ·
          refine lv_iinc (v := nI (w + 1)) (lv' := [(7, .int (nI (w + 1))), (0, .ref (ad 0)), (1, .long (lN set)), (3, .int (nI k)), (4, .int x), (5, .int (nI seen2)), (6, .int (nI s9))]) hx hb dX1_at_70 hl (k := 6) rfl (by rw [← nI_1]; rfl) (by decide) rfl (fun ls hl => ?_)
          refine lv_goto (tgt := 18) hx hb dX1_at_73 (by decide) ?_
          first | exact ih18 _ _ (by omega) ⟨w + 1, seen2 + 1, by omega, by omega, (zIn_go (by omega) (zHit_t c54 c32) c61).symm.trans he2, rfl, lv_sub hl [1, 2, 3, 4, 5, 6, 0] rfl⟩ | exact ih18 _ _ (by omega) ⟨w + 1, seen2, by omega, by omega, (zIn_skip (by omega) (zHit_n c54)).symm.trans he2, rfl, lv_sub hl [1, 2, 3, 4, 5, 6, 0] rfl⟩ | exact ih18 _ _ (by omega) ⟨w + 1, seen2, by omega, by omega, (zIn_skip (by omega) (zHit_b c32)).symm.trans he2, rfl, lv_sub hl [1, 2, 3, 4, 5, 6, 0] rfl⟩
        ·
          refine lv_iload hx hb dX1_at_57 (lv_at hl 4 rfl) ?_
          refine lv_iload hx hb dX1_at_59 (lv_at hl 3 rfl) ?_
          refine lv_icmp_ne (tgt := 67) hx hb dX1_at_61 (by decide) (fun c61 => ?_) (fun c61 => ?_)
          ·
            refine lv_iinc (v := nI (seen2 + 1)) (lv' := [(5, .int (nI (seen2 + 1))), (0, .ref (ad 0)), (1, .long (lN set)), (3, .int (nI k)), (4, .int x), (6, .int (nI s9)), (7, .int (nI w))]) hx hb dX1_at_67 hl (k := 4) rfl (by rw [← nI_1]; rfl) (by decide) rfl (fun ls hl => ?_)
            refine lv_iinc (v := nI (w + 1)) (lv' := [(7, .int (nI (w + 1))), (5, .int (nI (seen2 + 1))), (0, .ref (ad 0)), (1, .long (lN set)), (3, .int (nI k)), (4, .int x), (6, .int (nI s9))]) hx hb dX1_at_70 hl (k := 6) rfl (by rw [← nI_1]; rfl) (by decide) rfl (fun ls hl => ?_)
            refine lv_goto (tgt := 18) hx hb dX1_at_73 (by decide) ?_
            first | exact ih18 _ _ (by omega) ⟨w + 1, seen2 + 1, by omega, by omega, (zIn_go (by omega) (zHit_t c54 c32) c61).symm.trans he2, rfl, lv_sub hl [2, 3, 4, 5, 1, 6, 0] rfl⟩ | exact ih18 _ _ (by omega) ⟨w + 1, seen2, by omega, by omega, (zIn_skip (by omega) (zHit_n c54)).symm.trans he2, rfl, lv_sub hl [2, 3, 4, 5, 1, 6, 0] rfl⟩ | exact ih18 _ _ (by omega) ⟨w + 1, seen2, by omega, by omega, (zIn_skip (by omega) (zHit_b c32)).symm.trans he2, rfl, lv_sub hl [2, 3, 4, 5, 1, 6, 0] rfl⟩
          ·
            refine lv_iload hx hb dX1_at_64 (lv_at hl 6 rfl) ?_
            exact W.iret (v := nI w) hx hb hr (fun t ht hW => ⟨_, rfl, (by first | exact (by unfold zAt; rw [← he, zOut_found (by omega) (by rw [← he2, zIn_hit (by omega) (zHit_t c54 c32) c61])]; rfl)), ht⟩) (fun q h => by cases h) dX1_at_66
set_option maxHeartbeats 4000000 in
set_option maxRecDepth 100000 in
/-- what the vector of a set has for a server -/
theorem c_X1_vector (l : Launch) (dC : Nat → ClassId) (dI : Nat → Nat → Nat) (ad : Nat → Nat) (cI cJ : ClassId) (S C : Nat) (n : Nat → Nat) (va : Nat → Nat → Int32) (mk ct ps kn cx rd : Nat → Nat → Nat) (k set o : Nat) (hk : k < 3) (hset : set < 2 ^ 63) (ho : o < 4) (hn : n k ≤ 40) (hmk : ∀ w, w < n k → mk k w < 4) (hct : ∀ w, ct k w ≤ 40) : Met l yX1_vector wsX1_vector ({ frames := 0, cells := 0, slots := 0, locals := 0 }) (va_Pc [.ref (ad 0), .long (lN set), .int (nI k), .int (nI o)] (mB dC dI ad cI cJ S C n va mk ct ps kn cx rd)) (vp_Si (fun r => r = nI (zVec (ct k) (zHit (mk k) set o) (n k)))) 0 0 (fun _ => False) := by
  refine Met.ofW (cc := cX1_vector) (maxL := 8) (ret := (some .int)) (by decide) rfl ?_
  intro p e s m args below meth c s₁ B hml hv
  obtain ⟨rfl, hP, hK⟩ := hv
  have hx := B.exec
  have hb := B.bytes
  have hr := B.returns
  have hts := atoms_spec (ws := wsX1_vector) B.pre
  have hown : s.vm.findClass RX1 = some m.cls := findClass_of_methodNamed B.named
  have hlocks := B.notSynchronized
  have hin0 : ∀ w ∈ wsX10, w ∈ wsX1_vector := fun _ h => List.mem_cons_of_mem _ (List.mem_append_right _ h)
  have hl := lv_entry ([.ref (ad 0), .long (lN set), .int (nI k), .int (nI o)]) (n := 8) (Nat.le_of_ble_eq_true rfl)
  rw [lg_entry_eq]
  generalize (lg_sl ([.ref (ad 0), .long (lN set), .int (nI k), .int (nI o)]) ++ List.replicate (8 - (lg_sl ([.ref (ad 0), .long (lN set), .int (nI k), .int (nI o)])).length) Slot.unset).toArray = ls at hl ⊢
  have hl : lv_has ls 8 [(0, .ref (ad 0)), (1, .long (lN set)), (3, .int (nI k)), (4, .int (nI o))] := hl
  refine lv_iconst (v := nI 0) hx hb dX1_vector_0 (by decide) ?_
  refine lv_istore (lv' := [(5, .int (nI 0)), (0, .ref (ad 0)), (1, .long (lN set)), (3, .int (nI k)), (4, .int (nI o))]) hx hb dX1_vector_1 hl (by decide) rfl (fun ls hl => ?_)
  refine lv_iconst (v := nI 0) hx hb dX1_vector_3 (by decide) ?_
  refine lv_istore (lv' := [(6, .int (nI 0)), (5, .int (nI 0)), (0, .ref (ad 0)), (1, .long (lN set)), (3, .int (nI k)), (4, .int (nI o))]) hx hb dX1_vector_4 hl (by decide) rfl (fun ls hl => ?_)
  refine zr_loop (pc := 6) (fun d ls => ∃ i, i ≤ n k ∧ d = n k - i ∧ lv_has ls 8 [(0, .ref (ad 0)), (1, .long (lN set)), (3, .int (nI k)), (4, .int (nI o)), (5, .int (nI (zVec (ct k) (zHit (mk k) set o) i))), (6, .int (nI i))]) ?_ _ _ ⟨0, Nat.zero_le _, rfl, lv_sub hl [2, 3, 4, 5, 1, 0] rfl⟩
  rintro d ls ⟨i, hi, rfl, hl⟩ ih6
  have hz9 := zVec_le (hit := zHit (mk k) set o) hct i
  have hc9 := hct i
  refine lv_iload hx hb dX1_vector_6 (lv_at hl 5 rfl) ?_
  refine lv_aload_n hx hb dX1_vector_8 rfl (lv_at hl 0 rfl) ?_
  refine va_get (D := (dC, dI)) (ci := 1) (v := .ref (ad 1)) (C := RX1) (T := TX1) (N := 10) hx hb hts hin0 hown hK hP 0 rfl rfl 2 (by decide) (hts (.fieldLink RX1 7 "DottedSiblingsModel" "counts" "[I") (by decide +kernel)) (fun _ h9 => h9) rfl dX1_vector_9 ?_
  refine lv_iload_n hx hb dX1_vector_12 rfl (lv_at hl 2 rfl) ?_
  refine zr_iald (v := nI (n k)) hx hb hK hP 1 0 rfl rfl (by omega) (by omega) rfl dX1_vector_13 ?_
  refine zr_ige (tgt := 99) hx hb (by omega) (by omega) dX1_vector_14 (by decide) (fun c14 => ?_) (fun c14 => ?_)
  ·
    refine lv_iload hx hb dX1_vector_99 (lv_at hl 4 rfl) ?_
    exact W.iret (v := nI (zVec (ct k) (zHit (mk k) set o) i)) hx hb hr (fun t ht hW => ⟨_, rfl, (by first | exact (by rw [show i = n k by omega])), ht⟩) (fun q h => by cases h) dX1_vector_101
  ·
    have hm9 := hmk i (by omega)
    refine lv_lload_n hx hb dX1_vector_17 rfl (lv_at hl 1 rfl) ?_
    refine lv_iload hx hb dX1_vector_18 (lv_at hl 5 rfl) ?_
    refine zr_bit (tgt := 49) hx hb (by omega) (by omega) dX1_vector_20 dX1_vector_21 dX1_vector_22 dX1_vector_23 dX1_vector_24 dX1_vector_25 (by decide) (fun c20 => ?_) (fun c20 => ?_)
    ·
      refine lv_iconst (v := nI 0) hx hb dX1_vector_49 (by decide) ?_
      refine lv_istore (lv' := [(7, .int (nI 0)), (0, .ref (ad 0)), (1, .long (lN set)), (3, .int (nI k)), (4, .int (nI o)), (5, .int (nI (zVec (ct k) (zHit (mk k) set o) i))), (6, .int (nI i))]) hx hb dX1_vector_50 hl (by decide) rfl (fun ls hl => ?_)
      refine lv_iload hx hb dX1_vector_52 (lv_at hl 0 rfl) ?_
      refine lv_if_eq (tgt := 89) hx hb dX1_vector_54 (by decide) (fun _ => ?_) (fun q => absurd q (by decide))
      refine lv_iload hx hb dX1_vector_89 (lv_at hl 5 rfl) ?_
      refine lv_istore (lv' := [(5, .int (nI (zVec (ct k) (zHit (mk k) set o) i))), (7, .int (nI 0)), (0, .ref (ad 0)), (1, .long (lN set)), (3, .int (nI k)), (4, .int (nI o)), (6, .int (nI i))]) hx hb dX1_vector_91 hl (by decide) rfl (fun ls hl => ?_)
      refine lv_iinc (v := nI (i + 1)) (lv' := [(6, .int (nI (i + 1))), (5, .int (nI (zVec (ct k) (zHit (mk k) set o) i))), (7, .int (nI 0)), (0, .ref (ad 0)), (1, .long (lN set)), (3, .int (nI k)), (4, .int (nI o))]) hx hb dX1_vector_93 hl (k := 6) rfl (by rw [← nI_1]; rfl) (by decide) rfl (fun ls hl => ?_)
      refine lv_goto (tgt := 6) hx hb dX1_vector_96 (by decide) ?_
      exact ih6 _ _ (by omega) ⟨i + 1, by omega, rfl, by first | (rw [zVec_t (zHit_t c42 c20), if_pos c71]; exact lv_sub hl [3, 4, 5, 6, 1, 0] rfl) | (rw [zVec_t (zHit_t c42 c20), if_neg (Nat.not_lt.mpr c71)]; exact lv_sub hl [3, 4, 5, 6, 1, 0] rfl) | (rw [zVec_f (zHit_n c42)]; exact lv_sub hl [3, 4, 5, 6, 1, 0] rfl) | (rw [zVec_f (zHit_b c20)]; exact lv_sub hl [3, 4, 5, 6, 1, 0] rfl)⟩
    ·
      refine lv_aload_n hx hb dX1_vector_28 rfl (lv_at hl 0 rfl) ?_
      refine va_get (D := (dC, dI)) (ci := 1) (v := .ref (ad 3)) (C := RX1) (T := TX1) (N := 10) hx hb hts hin0 hown hK hP 0 rfl rfl 4 (by decide) (hts (.fieldLink RX1 16 "DottedSiblingsModel" "made" "[I") (by decide +kernel)) (fun _ h9 => h9) rfl dX1_vector_29 ?_
      refine lv_bipush (v := nI 40) hx hb dX1_vector_32 (by decide) ?_
      refine lv_iload_n hx hb dX1_vector_34 rfl (lv_at hl 2 rfl) ?_
      refine zr_imul hx hb dX1_vector_35 ?_
      refine lv_iload hx hb dX1_vector_36 (lv_at hl 5 rfl) ?_
      refine zr_iadd hx hb dX1_vector_38 ?_
      refine zr_iald (v := nI (mk k i)) hx hb hK hP 3 0 rfl rfl (by omega) (by omega) (congrArg nI (zf40 _ (by omega))) dX1_vector_39 ?_
      refine lv_iload hx hb dX1_vector_40 (lv_at hl 3 rfl) ?_
      refine zr_ine (tgt := 49) hx hb (by omega) (by omega) dX1_vector_42 (by decide) (fun c42 => ?_) (fun c42 => ?_)
      ·
        refine lv_iconst (v := nI 0) hx hb dX1_vector_49 (by decide) ?_
        refine lv_istore (lv' := [(7, .int (nI 0)), (0, .ref (ad 0)), (1, .long (lN set)), (3, .int (nI k)), (4, .int (nI o)), (5, .int (nI (zVec (ct k) (zHit (mk k) set o) i))), (6, .int (nI i))]) hx hb dX1_vector_50 hl (by decide) rfl (fun ls hl => ?_)
        refine lv_iload hx hb dX1_vector_52 (lv_at hl 0 rfl) ?_
        refine lv_if_eq (tgt := 89) hx hb dX1_vector_54 (by decide) (fun _ => ?_) (fun q => absurd q (by decide))
        refine lv_iload hx hb dX1_vector_89 (lv_at hl 5 rfl) ?_
        refine lv_istore (lv' := [(5, .int (nI (zVec (ct k) (zHit (mk k) set o) i))), (7, .int (nI 0)), (0, .ref (ad 0)), (1, .long (lN set)), (3, .int (nI k)), (4, .int (nI o)), (6, .int (nI i))]) hx hb dX1_vector_91 hl (by decide) rfl (fun ls hl => ?_)
        refine lv_iinc (v := nI (i + 1)) (lv' := [(6, .int (nI (i + 1))), (5, .int (nI (zVec (ct k) (zHit (mk k) set o) i))), (7, .int (nI 0)), (0, .ref (ad 0)), (1, .long (lN set)), (3, .int (nI k)), (4, .int (nI o))]) hx hb dX1_vector_93 hl (k := 6) rfl (by rw [← nI_1]; rfl) (by decide) rfl (fun ls hl => ?_)
        refine lv_goto (tgt := 6) hx hb dX1_vector_96 (by decide) ?_
        exact ih6 _ _ (by omega) ⟨i + 1, by omega, rfl, by first | (rw [zVec_t (zHit_t c42 c20), if_pos c71]; exact lv_sub hl [3, 4, 5, 6, 1, 0] rfl) | (rw [zVec_t (zHit_t c42 c20), if_neg (Nat.not_lt.mpr c71)]; exact lv_sub hl [3, 4, 5, 6, 1, 0] rfl) | (rw [zVec_f (zHit_n c42)]; exact lv_sub hl [3, 4, 5, 6, 1, 0] rfl) | (rw [zVec_f (zHit_b c20)]; exact lv_sub hl [3, 4, 5, 6, 1, 0] rfl)⟩
      ·
        refine lv_iconst (v := nI 1) hx hb dX1_vector_45 (by decide) ?_
        refine lv_goto (tgt := 50) hx hb dX1_vector_46 (by decide) ?_
        refine lv_istore (lv' := [(7, .int (nI 1)), (0, .ref (ad 0)), (1, .long (lN set)), (3, .int (nI k)), (4, .int (nI o)), (5, .int (nI (zVec (ct k) (zHit (mk k) set o) i))), (6, .int (nI i))]) hx hb dX1_vector_50 hl (by decide) rfl (fun ls hl => ?_)
        refine lv_iload hx hb dX1_vector_52 (lv_at hl 0 rfl) ?_
        refine lv_if_eq (tgt := 89) hx hb dX1_vector_54 (by decide) (fun q => absurd q (by decide)) (fun _ => ?_)
        refine lv_aload_n hx hb dX1_vector_57 rfl (lv_at hl 1 rfl) ?_
        refine va_get (D := (dC, dI)) (ci := 1) (v := .ref (ad 4)) (C := RX1) (T := TX1) (N := 10) hx hb hts hin0 hown hK hP 0 rfl rfl 5 (by decide) (hts (.fieldLink RX1 19 "DottedSiblingsModel" "counters" "[I") (by decide +kernel)) (fun _ h9 => h9) rfl dX1_vector_58 ?_
        refine lv_bipush (v := nI 40) hx hb dX1_vector_61 (by decide) ?_
        refine lv_iload_n hx hb dX1_vector_63 rfl (lv_at hl 3 rfl) ?_
        refine zr_imul hx hb dX1_vector_64 ?_
        refine lv_iload hx hb dX1_vector_65 (lv_at hl 6 rfl) ?_
        refine zr_iadd hx hb dX1_vector_67 ?_
        refine zr_iald (v := nI (ct k i)) hx hb hK hP 4 0 rfl rfl (by omega) (by omega) (congrArg nI (zf40 _ (by omega))) dX1_vector_68 ?_
        refine lv_iload hx hb dX1_vector_69 (lv_at hl 5 rfl) ?_
        refine zr_ile (tgt := 89) hx hb (by omega) (by omega) dX1_vector_71 (by decide) (fun c71 => ?_) (fun c71 => ?_)
        ·
          refine lv_iload hx hb dX1_vector_89 (lv_at hl 5 rfl) ?_
          refine lv_istore (lv' := [(5, .int (nI (zVec (ct k) (zHit (mk k) set o) i))), (7, .int (nI 1)), (0, .ref (ad 0)), (1, .long (lN set)), (3, .int (nI k)), (4, .int (nI o)), (6, .int (nI i))]) hx hb dX1_vector_91 hl (by decide) rfl (fun ls hl => ?_)
          refine lv_iinc (v := nI (i + 1)) (lv' := [(6, .int (nI (i + 1))), (5, .int (nI (zVec (ct k) (zHit (mk k) set o) i))), (7, .int (nI 1)), (0, .ref (ad 0)), (1, .long (lN set)), (3, .int (nI k)), (4, .int (nI o))]) hx hb dX1_vector_93 hl (k := 6) rfl (by rw [← nI_1]; rfl) (by decide) rfl (fun ls hl => ?_)
          refine lv_goto (tgt := 6) hx hb dX1_vector_96 (by decide) ?_
          exact ih6 _ _ (by omega) ⟨i + 1, by omega, rfl, by first | (rw [zVec_t (zHit_t c42 c20), if_pos c71]; exact lv_sub hl [3, 4, 5, 6, 1, 0] rfl) | (rw [zVec_t (zHit_t c42 c20), if_neg (Nat.not_lt.mpr c71)]; exact lv_sub hl [3, 4, 5, 6, 1, 0] rfl) | (rw [zVec_f (zHit_n c42)]; exact lv_sub hl [3, 4, 5, 6, 1, 0] rfl) | (rw [zVec_f (zHit_b c20)]; exact lv_sub hl [3, 4, 5, 6, 1, 0] rfl)⟩
        ·
          refine lv_aload_n hx hb dX1_vector_74 rfl (lv_at hl 1 rfl) ?_
          refine va_get (D := (dC, dI)) (ci := 1) (v := .ref (ad 4)) (C := RX1) (T := TX1) (N := 10) hx hb hts hin0 hown hK hP 0 rfl rfl 5 (by decide) (hts (.fieldLink RX1 19 "DottedSiblingsModel" "counters" "[I") (by decide +kernel)) (fun _ h9 => h9) rfl dX1_vector_75 ?_
          refine lv_bipush (v := nI 40) hx hb dX1_vector_78 (by decide) ?_
          refine lv_iload_n hx hb dX1_vector_80 rfl (lv_at hl 3 rfl) ?_
          refine zr_imul hx hb dX1_vector_81 ?_
          refine lv_iload hx hb dX1_vector_82 (lv_at hl 6 rfl) ?_
          refine zr_iadd hx hb dX1_vector_84 ?_
          refine zr_iald (v := nI (ct k i)) hx hb hK hP 4 0 rfl rfl (by omega) (by omega) (congrArg nI (zf40 _ (by omega))) dX1_vector_85 ?_
          refine lv_goto (tgt := 91) hx hb dX1_vector_86 (by decide) ?_
          refine lv_istore (lv' := [(5, .int (nI (ct k i))), (7, .int (nI 1)), (0, .ref (ad 0)), (1, .long (lN set)), (3, .int (nI k)), (4, .int (nI o)), (6, .int (nI i))]) hx hb dX1_vector_91 hl (by decide) rfl (fun ls hl => ?_)
          refine lv_iinc (v := nI (i + 1)) (lv' := [(6, .int (nI (i + 1))), (5, .int (nI (ct k i))), (7, .int (nI 1)), (0, .ref (ad 0)), (1, .long (lN set)), (3, .int (nI k)), (4, .int (nI o))]) hx hb dX1_vector_93 hl (k := 6) rfl (by rw [← nI_1]; rfl) (by decide) rfl (fun ls hl => ?_)
          refine lv_goto (tgt := 6) hx hb dX1_vector_96 (by decide) ?_
          exact ih6 _ _ (by omega) ⟨i + 1, by omega, rfl, by first | (rw [zVec_t (zHit_t c42 c20), if_pos c71]; exact lv_sub hl [3, 4, 5, 6, 1, 0] rfl) | (rw [zVec_t (zHit_t c42 c20), if_neg (Nat.not_lt.mpr c71)]; exact lv_sub hl [3, 4, 5, 6, 1, 0] rfl) | (rw [zVec_f (zHit_n c42)]; exact lv_sub hl [3, 4, 5, 6, 1, 0] rfl) | (rw [zVec_f (zHit_b c20)]; exact lv_sub hl [3, 4, 5, 6, 1, 0] rfl)⟩
set_option maxHeartbeats 4000000 in
set_option maxRecDepth 100000 in
/-- read -/
theorem c_X1_read (l : Launch) (dC : Nat → ClassId) (dI : Nat → Nat → Nat) (ad : Nat → Nat) (cI cJ : ClassId) (S C : Nat) (n : Nat → Nat) (va : Nat → Nat → Int32) (mk ct ps kn cx rd : Nat → Nat → Nat) (hG : zG S C n mk ct ps kn cx) (hrd : ∀ k c, rd k c < 2 ^ n k) (x1 x2 x3 : Int32) : Met l yX1_read wsX1_read ({ frames := 1, cells := 0, slots := 0, locals := 27 }) (va_Pc [.ref (ad 0), .int x1, .int x2, .int x3] (mB dC dI ad cI cJ S C n va mk ct ps kn cx rd)) (vp_Sl (fun r => r = aRead2 S C n va mk rd x1 x2 x3)) 0 0 (fun _ => False) := by
  refine Met.ofW (cc := cX1_read) (maxL := 5) (ret := (some .long)) (by decide) rfl ?_
  intro p e s m args below meth c s₁ B hml hv
  obtain ⟨rfl, hP, hK⟩ := hv
  have hx := B.exec
  have hb := B.bytes
  have hr := B.returns
  have hts := atoms_spec (ws := wsX1_read) B.pre
  have hown : s.vm.findClass RX1 = some m.cls := findClass_of_methodNamed B.named
  have hlocks := B.notSynchronized
  have hin0 : ∀ w ∈ wsX10, w ∈ wsX1_read := fun _ h => List.mem_cons_of_mem _ (List.mem_append_right _ h)
  have hl := lv_entry ([.ref (ad 0), .int x1, .int x2, .int x3]) (n := 5) (Nat.le_of_ble_eq_true rfl)
  rw [lg_entry_eq]
  generalize (lg_sl ([.ref (ad 0), .int x1, .int x2, .int x3]) ++ List.replicate (5 - (lg_sl ([.ref (ad 0), .int x1, .int x2, .int x3])).length) Slot.unset).toArray = ls at hl ⊢
  have hl : lv_has ls 5 [(0, .ref (ad 0)), (1, .int x1), (2, .int x2), (3, .int x3)] := hl
  obtain ⟨⟨hS1, hS4, hC1, hC4⟩, hn, hmk, hct, hps, hkn, hcx, hcn, hkw⟩ := hG
  refine lv_aload_n hx hb dX1_read_0 rfl (lv_at hl 0 rfl) ?_
  refine lv_iload_n hx hb dX1_read_1 rfl (lv_at hl 1 rfl) ?_
  refine vp_callSi (W.runV (As := [.int x1]) (rest := []) ⟨hx, hb, hml, hown, hts⟩ (c_X1_isClient l dC dI ad cI cJ S C n va mk ct ps kn cx rd (by omega) x1) (cwV 1 hts gX1_read_X1_isClient rfl rfl rfl (by decide +kernel) ⟨Nat.le_of_ble_eq_true rfl, Nat.le_of_ble_eq_true rfl⟩) ⟨mB_blind, va_recv hK hP (ci := 1) (q0 := 0) rfl rfl, fun U hU hW => ⟨rfl, mB_at hP hK hU hW⟩⟩ rfl rfl hl.1 rfl (lv_room (Nat.le_of_ble_eq_true rfl)) dX1_read_2 ⟨Nat.le_of_ble_eq_true rfl, Nat.le_of_ble_eq_true rfl⟩) (fun r hq => ?_)
  rcases hq with ⟨rfl, cl, hcl, rfl, hdx1⟩ | ⟨rfl, hdx1⟩
  ·
    refine lv_if_eq (tgt := 15) hx hb dX1_read_5 (by decide) (fun q => absurd q (by decide)) (fun _ => ?_)
    refine lv_iload_n hx hb dX1_read_8 rfl (lv_at hl 2 rfl) ?_
    refine vp_callSi (W.runS (As := [.int x2]) (rest := []) ⟨hx, hb, hml, hown, hts⟩ (c_X1_isKey l x2) (va_cwS 1 hts gX1_read_X1_isKey rfl rfl rfl (by decide +kernel) ⟨Nat.le_of_ble_eq_true rfl, Nat.le_of_ble_eq_true rfl⟩) ⟨zB_blind, fun U hU hW => ⟨rfl, trivial⟩⟩ rfl rfl hl.1 rfl (lv_room (Nat.le_of_ble_eq_true rfl)) dX1_read_9 ⟨Nat.le_of_ble_eq_true rfl, Nat.le_of_ble_eq_true rfl⟩) (fun r hq => ?_)
    rcases hq with ⟨rfl, ky, hky, rfl, hdx2⟩ | ⟨rfl, hdx2⟩
    ·
      refine lv_if_ne (tgt := 19) hx hb dX1_read_12 (by decide) (fun _ => ?_) (fun q => absurd q (by decide))
      refine lv_aload_n hx hb dX1_read_19 rfl (lv_at hl 0 rfl) ?_
      refine lv_aload_n hx hb dX1_read_20 rfl (lv_at hl 0 rfl) ?_
      refine va_get (D := (dC, dI)) (ci := 1) (v := .ref (ad 8)) (C := RX1) (T := TX1) (N := 10) hx hb hts hin0 hown hK hP 0 rfl rfl 9 (by decide) (hts (.fieldLink RX1 32 "DottedSiblingsModel" "reads" "[J") (by decide +kernel)) (fun _ h9 => h9) rfl dX1_read_21 ?_
      refine lv_iconst (v := nI 3) hx hb dX1_read_24 (by decide) ?_
      refine lv_iload_n hx hb dX1_read_25 rfl (lv_at hl 1 rfl) ?_
      refine zr_imul hx hb dX1_read_26 ?_
      refine lv_iload_n hx hb dX1_read_27 rfl (lv_at hl 2 rfl) ?_
      refine zr_iadd hx hb dX1_read_28 ?_
      refine zr_lald (v := lN (rd ky cl)) hx hb hK hP 8 1 rfl rfl (by omega) (by omega) (congrArg lN (zf3 _ (by omega))) dX1_read_29 ?_
      refine lv_iload_n hx hb dX1_read_30 rfl (lv_at hl 2 rfl) ?_
      refine lv_iload_n hx hb dX1_read_31 rfl (lv_at hl 3 rfl) ?_
      refine vp_callSi (W.runV (As := [.long (lN (rd ky cl)), .int (nI ky), .int x3]) (rest := []) ⟨hx, hb, hml, hown, hts⟩ (c_X1_at l dC dI ad cI cJ S C n va mk ct ps kn cx rd ky (rd ky cl) x3 (by omega) (Nat.lt_trans (z40 (hrd _ _) (hn _)) (by decide)) (hn _) (by omega) (hmk _)) (cwV 3 hts gX1_read_X1_at rfl rfl rfl (by decide +kernel) ⟨Nat.le_of_ble_eq_true rfl, Nat.le_of_ble_eq_true rfl⟩) ⟨mB_blind, va_recv hK hP (ci := 1) (q0 := 0) rfl rfl, fun U hU hW => ⟨rfl, mB_at hP hK hU hW⟩⟩ rfl rfl hl.1 rfl (lv_room (Nat.le_of_ble_eq_true rfl)) dX1_read_32 ⟨Nat.le_of_ble_eq_true rfl, Nat.le_of_ble_eq_true rfl⟩) (fun r hq => ?_)
      rcases hz : zAt S (n ky) (mk ky) (rd ky cl) x3 with _ | wr
      ·
        have hq : r = -1 := by rw [hq, hz]; rfl
        subst hq
        refine lv_istore (lv' := [(4, .int (-1)), (0, .ref (ad 0)), (1, .int (nI cl)), (2, .int (nI ky)), (3, .int x3)]) hx hb dX1_read_35 hl (by decide) rfl (fun ls hl => ?_)
        refine lv_iload hx hb dX1_read_37 (lv_at hl 0 rfl) ?_
        refine lv_if_ge (tgt := 48) hx hb dX1_read_39 (by decide) (fun q => absurd q (by decide)) (fun _ => ?_)
        refine lv_ldc2 (v := (-9223372036854775808)) hx hb hown (hts (.constantLong RX1 62 (-9223372036854775808)) (by decide +kernel)) dX1_read_42 ?_
        refine lv_goto (tgt := 61) hx hb dX1_read_45 (by decide) ?_
        exact W.lret (v := (-9223372036854775808)) hx hb hr (fun t ht hW => ⟨_, rfl, (by first | exact (zq2_1 hdx1).symm | exact (zq2_2 hdx2).symm | exact (by unfold aRead2; rw [zq2_s hdx1 hdx2, hz]; first | done | rfl)), ht⟩) (fun q h => by cases h) dX1_read_61
      ·
        have hq : r = nI wr := by rw [hq, hz]; rfl
        have hwr : wr < _ := zOut_lt _ _ _ hz
        have hn9 := hn ky
        subst hq
        refine lv_istore (lv' := [(4, .int (nI wr)), (0, .ref (ad 0)), (1, .int (nI cl)), (2, .int (nI ky)), (3, .int x3)]) hx hb dX1_read_35 hl (by decide) rfl (fun ls hl => ?_)
        refine lv_iload hx hb dX1_read_37 (lv_at hl 0 rfl) ?_
        refine lv_if_ge (tgt := 48) hx hb dX1_read_39 (by decide) (fun _ => ?_) (fun q => absurd (nI_pos' (by omega)) q)
        refine lv_aload_n hx hb dX1_read_48 rfl (lv_at hl 1 rfl) ?_
        refine va_get (D := (dC, dI)) (ci := 1) (v := .ref (ad 2)) (C := RX1) (T := TX1) (N := 10) hx hb hts hin0 hown hK hP 0 rfl rfl 3 (by decide) (hts (.fieldLink RX1 13 "DottedSiblingsModel" "values" "[I") (by decide +kernel)) (fun _ h9 => h9) rfl dX1_read_49 ?_
        refine lv_bipush (v := nI 40) hx hb dX1_read_52 (by decide) ?_
        refine lv_iload_n hx hb dX1_read_54 rfl (lv_at hl 3 rfl) ?_
        refine zr_imul hx hb dX1_read_55 ?_
        refine lv_iload hx hb dX1_read_56 (lv_at hl 0 rfl) ?_
        refine zr_iadd hx hb dX1_read_58 ?_
        refine zr_iald (v := va ky wr) hx hb hK hP 2 0 rfl rfl (by omega) (by omega) (zf40 _ (by omega)) dX1_read_59 ?_
        refine lv_i2l hx hb dX1_read_60 rfl ?_
        exact W.lret (v := (va ky wr).toInt64) hx hb hr (fun t ht hW => ⟨_, rfl, (by first | exact (zq2_1 hdx1).symm | exact (zq2_2 hdx2).symm | exact (by unfold aRead2; rw [zq2_s hdx1 hdx2, hz]; first | done | rfl)), ht⟩) (fun q h => by cases h) dX1_read_61
    ·
      refine lv_if_ne (tgt := 19) hx hb dX1_read_12 (by decide) (fun q => absurd q (by decide)) (fun _ => ?_)
      refine lv_ldc2 (v := (-9223372036854775808)) hx hb hown (hts (.constantLong RX1 62 (-9223372036854775808)) (by decide +kernel)) dX1_read_15 ?_
      exact W.lret (v := (-9223372036854775808)) hx hb hr (fun t ht hW => ⟨_, rfl, (by first | exact (zq2_1 hdx1).symm | exact (zq2_2 hdx2).symm | exact (by unfold aRead2; rw [zq2_s hdx1 hdx2, hz]; first | done | rfl)), ht⟩) (fun q h => by cases h) dX1_read_18
  ·
    refine lv_if_eq (tgt := 15) hx hb dX1_read_5 (by decide) (fun _ => ?_) (fun q => absurd q (by decide))
    refine lv_ldc2 (v := (-9223372036854775808)) hx hb hown (hts (.constantLong RX1 62 (-9223372036854775808)) (by decide +kernel)) dX1_read_15 ?_
    exact W.lret (v := (-9223372036854775808)) hx hb hr (fun t ht hW => ⟨_, rfl, (by first | exact (zq2_1 hdx1).symm | exact (zq2_2 hdx2).symm | exact (by unfold aRead2; rw [zq2_s hdx1 hdx2, hz]; first | done | rfl)), ht⟩) (fun q h => by cases h) dX1_read_18
set_option maxHeartbeats 4000000 in
set_option maxRecDepth 100000 in
/-- siblings -/
theorem c_X1_siblings (l : Launch) (dC : Nat → ClassId) (dI : Nat → Nat → Nat) (ad : Nat → Nat) (cI cJ : ClassId) (S C : Nat) (n : Nat → Nat) (va : Nat → Nat → Int32) (mk ct ps kn cx rd : Nat → Nat → Nat) (hG : zG S C n mk ct ps kn cx) (x1 x2 : Int32) : Met l yX1_siblings wsX1_siblings ({ frames := 1, cells := 0, slots := 0, locals := 26 }) (va_Pc [.ref (ad 0), .int x1, .int x2] (mB dC dI ad cI cJ S C n va mk ct ps kn cx rd)) (vp_Si (fun r => r = aSibs S n ps kn x1 x2)) 0 0 (fun _ => False) := by
  refine Met.ofW (cc := cX1_siblings) (maxL := 3) (ret := (some .int)) (by decide) rfl ?_
  intro p e s m args below meth c s₁ B hml hv
  obtain ⟨rfl, hP, hK⟩ := hv
  have hx := B.exec
  have hb := B.bytes
  have hr := B.returns
  have hts := atoms_spec (ws := wsX1_siblings) B.pre
  have hown : s.vm.findClass RX1 = some m.cls := findClass_of_methodNamed B.named
  have hlocks := B.notSynchronized
  have hin0 : ∀ w ∈ wsX10, w ∈ wsX1_siblings := fun _ h => List.mem_cons_of_mem _ (List.mem_append_right _ h)
  have hl := lv_entry ([.ref (ad 0), .int x1, .int x2]) (n := 3) (Nat.le_of_ble_eq_true rfl)
  rw [lg_entry_eq]
  generalize (lg_sl ([.ref (ad 0), .int x1, .int x2]) ++ List.replicate (3 - (lg_sl ([.ref (ad 0), .int x1, .int x2])).length) Slot.unset).toArray = ls at hl ⊢
  have hl : lv_has ls 3 [(0, .ref (ad 0)), (1, .int x1), (2, .int x2)] := hl
  obtain ⟨⟨hS1, hS4, hC1, hC4⟩, hn, hmk, hct, hps, hkn, hcx, hcn, hkw⟩ := hG
  refine lv_aload_n hx hb dX1_siblings_0 rfl (lv_at hl 0 rfl) ?_
  refine lv_iload_n hx hb dX1_siblings_1 rfl (lv_at hl 1 rfl) ?_
  refine vp_callSi (W.runV (As := [.int x1]) (rest := []) ⟨hx, hb, hml, hown, hts⟩ (c_X1_isServer l dC dI ad cI cJ S C n va mk ct ps kn cx rd (by omega) x1) (cwV 1 hts gX1_siblings_X1_isServer rfl rfl rfl (by decide +kernel) ⟨Nat.le_of_ble_eq_true rfl, Nat.le_of_ble_eq_true rfl⟩) ⟨mB_blind, va_recv hK hP (ci := 1) (q0 := 0) rfl rfl, fun U hU hW => ⟨rfl, mB_at hP hK hU hW⟩⟩ rfl rfl hl.1 rfl (lv_room (Nat.le_of_ble_eq_true rfl)) dX1_siblings_2 ⟨Nat.le_of_ble_eq_true rfl, Nat.le_of_ble_eq_true rfl⟩) (fun r hq => ?_)
  rcases hq with ⟨rfl, sv, hsv, rfl, hdx1⟩ | ⟨rfl, hdx1⟩
  ·
    refine lv_if_eq (tgt := 36) hx hb dX1_siblings_5 (by decide) (fun q => absurd q (by decide)) (fun _ => ?_)
    refine lv_iload_n hx hb dX1_siblings_8 rfl (lv_at hl 2 rfl) ?_
    refine vp_callSi (W.runS (As := [.int x2]) (rest := []) ⟨hx, hb, hml, hown, hts⟩ (c_X1_isKey l x2) (va_cwS 1 hts gX1_siblings_X1_isKey rfl rfl rfl (by decide +kernel) ⟨Nat.le_of_ble_eq_true rfl, Nat.le_of_ble_eq_true rfl⟩) ⟨zB_blind, fun U hU hW => ⟨rfl, trivial⟩⟩ rfl rfl hl.1 rfl (lv_room (Nat.le_of_ble_eq_true rfl)) dX1_siblings_9 ⟨Nat.le_of_ble_eq_true rfl, Nat.le_of_ble_eq_true rfl⟩) (fun r hq => ?_)
    rcases hq with ⟨rfl, ky, hky, rfl, hdx2⟩ | ⟨rfl, hdx2⟩
    ·
      refine lv_if_eq (tgt := 36) hx hb dX1_siblings_12 (by decide) (fun q => absurd q (by decide)) (fun _ => ?_)
      refine lv_aload_n hx hb dX1_siblings_15 rfl (lv_at hl 0 rfl) ?_
      refine lv_aload_n hx hb dX1_siblings_16 rfl (lv_at hl 0 rfl) ?_
      refine va_get (D := (dC, dI)) (ci := 1) (v := .ref (ad 6)) (C := RX1) (T := TX1) (N := 10) hx hb hts hin0 hown hK hP 0 rfl rfl 7 (by decide) (hts (.fieldLink RX1 26 "DottedSiblingsModel" "known" "[J") (by decide +kernel)) (fun _ h9 => h9) rfl dX1_siblings_17 ?_
      refine lv_iconst (v := nI 3) hx hb dX1_siblings_20 (by decide) ?_
      refine lv_iload_n hx hb dX1_siblings_21 rfl (lv_at hl 1 rfl) ?_
      refine zr_imul hx hb dX1_siblings_22 ?_
      refine lv_iload_n hx hb dX1_siblings_23 rfl (lv_at hl 2 rfl) ?_
      refine zr_iadd hx hb dX1_siblings_24 ?_
      refine zr_lald (v := lN (kn ky sv)) hx hb hK hP 6 1 rfl rfl (by omega) (by omega) (congrArg lN (zf3 _ (by omega))) dX1_siblings_25 ?_
      refine lv_iload_n hx hb dX1_siblings_26 rfl (lv_at hl 2 rfl) ?_
      refine vp_callSl (W.runV (As := [.long (lN (kn ky sv)), .int (nI ky)]) (rest := []) ⟨hx, hb, hml, hown, hts⟩ (c_X1_newest l dC dI ad cI cJ S C n va mk ct ps kn cx rd ky (kn ky sv) (by omega) (Nat.lt_trans (z40 (hkn _ _) (hn _)) (by decide)) (hn _)) (cwV 2 hts gX1_siblings_X1_newest rfl rfl rfl (by decide +kernel) ⟨Nat.le_of_ble_eq_true rfl, Nat.le_of_ble_eq_true rfl⟩) ⟨mB_blind, va_recv hK hP (ci := 1) (q0 := 0) rfl rfl, fun U hU hW => ⟨rfl, mB_at hP hK hU hW⟩⟩ rfl rfl hl.1 rfl (lv_room (Nat.le_of_ble_eq_true rfl)) dX1_siblings_27 ⟨Nat.le_of_ble_eq_true rfl, Nat.le_of_ble_eq_true rfl⟩) (fun r hq => ?_)
      subst hq
      refine vp_callSi (W.runS (As := [.long (lN (zNew (n ky) (ps ky) (kn ky sv)))]) (rest := []) ⟨hx, hb, hml, hown, hts⟩ (c_X1_sizeOf l (zNew (n ky) (ps ky) (kn ky sv)) (Nat.lt_trans (Nat.lt_of_le_of_lt (zNew_le _ _ _) (z40 (hkn _ _) (hn _))) (by decide))) (va_cwS 1 hts gX1_siblings_X1_sizeOf rfl rfl rfl (by decide +kernel) ⟨Nat.le_of_ble_eq_true rfl, Nat.le_of_ble_eq_true rfl⟩) ⟨zB_blind, fun U hU hW => ⟨rfl, trivial⟩⟩ rfl rfl hl.1 rfl (lv_room (Nat.le_of_ble_eq_true rfl)) dX1_siblings_30 ⟨Nat.le_of_ble_eq_true rfl, Nat.le_of_ble_eq_true rfl⟩) (fun r hq => ?_)
      subst hq
      refine lv_goto (tgt := 37) hx hb dX1_siblings_33 (by decide) ?_
      exact W.iret (v := nI (zSize (zNew (n ky) (ps ky) (kn ky sv)))) hx hb hr (fun t ht hW => ⟨_, rfl, (by first | exact (zq2_1 hdx1).symm | exact (zq2_2 hdx2).symm | exact (by unfold aSibs; rw [zq2_s hdx1 hdx2]; first | done | rfl)), ht⟩) (fun q h => by cases h) dX1_siblings_37
    ·
      refine lv_if_eq (tgt := 36) hx hb dX1_siblings_12 (by decide) (fun _ => ?_) (fun q => absurd q (by decide))
      refine lv_iconst (v := (-1)) hx hb dX1_siblings_36 (by decide) ?_
      exact W.iret (v := (-1)) hx hb hr (fun t ht hW => ⟨_, rfl, (by first | exact (zq2_1 hdx1).symm | exact (zq2_2 hdx2).symm | exact (by unfold aSibs; rw [zq2_s hdx1 hdx2]; first | done | rfl)), ht⟩) (fun q h => by cases h) dX1_siblings_37
  ·
    refine lv_if_eq (tgt := 36) hx hb dX1_siblings_5 (by decide) (fun _ => ?_) (fun q => absurd q (by decide))
    refine lv_iconst (v := (-1)) hx hb dX1_siblings_36 (by decide) ?_
    exact W.iret (v := (-1)) hx hb hr (fun t ht hW => ⟨_, rfl, (by first | exact (zq2_1 hdx1).symm | exact (zq2_2 hdx2).symm | exact (by unfold aSibs; rw [zq2_s hdx1 hdx2]; first | done | rfl)), ht⟩) (fun q h => by cases h) dX1_siblings_37
set_option maxHeartbeats 4000000 in
set_option maxRecDepth 100000 in
/-- sibling -/
theorem c_X1_sibling (l : Launch) (dC : Nat → ClassId) (dI : Nat → Nat → Nat) (ad : Nat → Nat) (cI cJ : ClassId) (S C : Nat) (n : Nat → Nat) (va : Nat → Nat → Int32) (mk ct ps kn cx rd : Nat → Nat → Nat) (hG : zG S C n mk ct ps kn cx) (x1 x2 x3 x4 : Int32) : Met l yX1_sibling wsX1_sibling ({ frames := 1, cells := 0, slots := 0, locals := 27 }) (va_Pc [.ref (ad 0), .int x1, .int x2, .int x3, .int x4] (mB dC dI ad cI cJ S C n va mk ct ps kn cx rd)) (vp_Sl (fun r => r = aSib S n va mk ct ps kn x1 x2 x3 x4)) 0 0 (fun _ => False) := by
  refine Met.ofW (cc := cX1_sibling) (maxL := 6) (ret := (some .long)) (by decide) rfl ?_
  intro p e s m args below meth c s₁ B hml hv
  obtain ⟨rfl, hP, hK⟩ := hv
  have hx := B.exec
  have hb := B.bytes
  have hr := B.returns
  have hts := atoms_spec (ws := wsX1_sibling) B.pre
  have hown : s.vm.findClass RX1 = some m.cls := findClass_of_methodNamed B.named
  have hlocks := B.notSynchronized
  have hin0 : ∀ w ∈ wsX10, w ∈ wsX1_sibling := fun _ h => List.mem_cons_of_mem _ (List.mem_append_right _ h)
  have hl := lv_entry ([.ref (ad 0), .int x1, .int x2, .int x3, .int x4]) (n := 6) (Nat.le_of_ble_eq_true rfl)
  rw [lg_entry_eq]
  generalize (lg_sl ([.ref (ad 0), .int x1, .int x2, .int x3, .int x4]) ++ List.replicate (6 - (lg_sl ([.ref (ad 0), .int x1, .int x2, .int x3, .int x4])).length) Slot.unset).toArray = ls at hl ⊢
  have hl : lv_has ls 6 [(0, .ref (ad 0)), (1, .int x1), (2, .int x2), (3, .int x3), (4, .int x4)] := hl
  obtain ⟨⟨hS1, hS4, hC1, hC4⟩, hn, hmk, hct, hps, hkn, hcx, hcn, hkw⟩ := hG
  refine lv_aload_n hx hb dX1_sibling_0 rfl (lv_at hl 0 rfl) ?_
  refine lv_iload_n hx hb dX1_sibling_1 rfl (lv_at hl 1 rfl) ?_
  refine vp_callSi (W.runV (As := [.int x1]) (rest := []) ⟨hx, hb, hml, hown, hts⟩ (c_X1_isServer l dC dI ad cI cJ S C n va mk ct ps kn cx rd (by omega) x1) (cwV 1 hts gX1_sibling_X1_isServer rfl rfl rfl (by decide +kernel) ⟨Nat.le_of_ble_eq_true rfl, Nat.le_of_ble_eq_true rfl⟩) ⟨mB_blind, va_recv hK hP (ci := 1) (q0 := 0) rfl rfl, fun U hU hW => ⟨rfl, mB_at hP hK hU hW⟩⟩ rfl rfl hl.1 rfl (lv_room (Nat.le_of_ble_eq_true rfl)) dX1_sibling_2 ⟨Nat.le_of_ble_eq_true rfl, Nat.le_of_ble_eq_true rfl⟩) (fun r hq => ?_)
  rcases hq with ⟨rfl, sv, hsv, rfl, hdx1⟩ | ⟨rfl, hdx1⟩
  ·
    refine lv_if_eq (tgt := 15) hx hb dX1_sibling_5 (by decide) (fun q => absurd q (by decide)) (fun _ => ?_)
    refine lv_iload_n hx hb dX1_sibling_8 rfl (lv_at hl 2 rfl) ?_
    refine vp_callSi (W.runS (As := [.int x2]) (rest := []) ⟨hx, hb, hml, hown, hts⟩ (c_X1_isKey l x2) (va_cwS 1 hts gX1_sibling_X1_isKey rfl rfl rfl (by decide +kernel) ⟨Nat.le_of_ble_eq_true rfl, Nat.le_of_ble_eq_true rfl⟩) ⟨zB_blind, fun U hU hW => ⟨rfl, trivial⟩⟩ rfl rfl hl.1 rfl (lv_room (Nat.le_of_ble_eq_true rfl)) dX1_sibling_9 ⟨Nat.le_of_ble_eq_true rfl, Nat.le_of_ble_eq_true rfl⟩) (fun r hq => ?_)
    rcases hq with ⟨rfl, ky, hky, rfl, hdx2⟩ | ⟨rfl, hdx2⟩
    ·
      refine lv_if_ne (tgt := 19) hx hb dX1_sibling_12 (by decide) (fun _ => ?_) (fun q => absurd q (by decide))
      refine lv_aload_n hx hb dX1_sibling_19 rfl (lv_at hl 0 rfl) ?_
      refine lv_aload_n hx hb dX1_sibling_20 rfl (lv_at hl 0 rfl) ?_
      refine lv_aload_n hx hb dX1_sibling_21 rfl (lv_at hl 0 rfl) ?_
      refine va_get (D := (dC, dI)) (ci := 1) (v := .ref (ad 6)) (C := RX1) (T := TX1) (N := 10) hx hb hts hin0 hown hK hP 0 rfl rfl 7 (by decide) (hts (.fieldLink RX1 26 "DottedSiblingsModel" "known" "[J") (by decide +kernel)) (fun _ h9 => h9) rfl dX1_sibling_22 ?_
      refine lv_iconst (v := nI 3) hx hb dX1_sibling_25 (by decide) ?_
      refine lv_iload_n hx hb dX1_sibling_26 rfl (lv_at hl 1 rfl) ?_
      refine zr_imul hx hb dX1_sibling_27 ?_
      refine lv_iload_n hx hb dX1_sibling_28 rfl (lv_at hl 2 rfl) ?_
      refine zr_iadd hx hb dX1_sibling_29 ?_
      refine zr_lald (v := lN (kn ky sv)) hx hb hK hP 6 1 rfl rfl (by omega) (by omega) (congrArg lN (zf3 _ (by omega))) dX1_sibling_30 ?_
      refine lv_iload_n hx hb dX1_sibling_31 rfl (lv_at hl 2 rfl) ?_
      refine vp_callSl (W.runV (As := [.long (lN (kn ky sv)), .int (nI ky)]) (rest := [.ref (ad 0)]) ⟨hx, hb, hml, hown, hts⟩ (c_X1_newest l dC dI ad cI cJ S C n va mk ct ps kn cx rd ky (kn ky sv) (by omega) (Nat.lt_trans (z40 (hkn _ _) (hn _)) (by decide)) (hn _)) (cwV 2 hts gX1_sibling_X1_newest rfl rfl rfl (by decide +kernel) ⟨Nat.le_of_ble_eq_true rfl, Nat.le_of_ble_eq_true rfl⟩) ⟨mB_blind, va_recv hK hP (ci := 1) (q0 := 0) rfl rfl, fun U hU hW => ⟨rfl, mB_at hP hK hU hW⟩⟩ rfl rfl hl.1 rfl (lv_room (Nat.le_of_ble_eq_true rfl)) dX1_sibling_32 ⟨Nat.le_of_ble_eq_true rfl, Nat.le_of_ble_eq_true rfl⟩) (fun r hq => ?_)
      subst hq
      refine lv_iload_n hx hb dX1_sibling_35 rfl (lv_at hl 2 rfl) ?_
      refine lv_iload_n hx hb dX1_sibling_36 rfl (lv_at hl 3 rfl) ?_
      refine vp_callSi (W.runV (As := [.long (lN (zNew (n ky) (ps ky) (kn ky sv))), .int (nI ky), .int x3]) (rest := []) ⟨hx, hb, hml, hown, hts⟩ (c_X1_at l dC dI ad cI cJ S C n va mk ct ps kn cx rd ky (zNew (n ky) (ps ky) (kn ky sv)) x3 (by omega) (Nat.lt_trans (Nat.lt_of_le_of_lt (zNew_le _ _ _) (z40 (hkn _ _) (hn _))) (by decide)) (hn _) (by omega) (hmk _)) (cwV 3 hts gX1_sibling_X1_at rfl rfl rfl (by decide +kernel) ⟨Nat.le_of_ble_eq_true rfl, Nat.le_of_ble_eq_true rfl⟩) ⟨mB_blind, va_recv hK hP (ci := 1) (q0 := 0) rfl rfl, fun U hU hW => ⟨rfl, mB_at hP hK hU hW⟩⟩ rfl rfl hl.1 rfl (lv_room (Nat.le_of_ble_eq_true rfl)) dX1_sibling_37 ⟨Nat.le_of_ble_eq_true rfl, Nat.le_of_ble_eq_true rfl⟩) (fun r hq => ?_)
      rcases hz : zAt S (n ky) (mk ky) (zNew (n ky) (ps ky) (kn ky sv)) x3 with _ | wr
      ·
        have hq : r = -1 := by rw [hq, hz]; rfl
        subst hq
        refine lv_istore (lv' := [(5, .int (-1)), (0, .ref (ad 0)), (1, .int (nI sv)), (2, .int (nI ky)), (3, .int x3), (4, .int x4)]) hx hb dX1_sibling_40 hl (by decide) rfl (fun ls hl => ?_)
        refine lv_iload hx hb dX1_sibling_42 (lv_at hl 0 rfl) ?_
        refine lv_if_ge (tgt := 51) hx hb dX1_sibling_44 (by decide) (fun q => absurd q (by decide)) (fun _ => ?_)
        refine lv_ldc2 (v := (-9223372036854775808)) hx hb hown (hts (.constantLong RX1 62 (-9223372036854775808)) (by decide +kernel)) dX1_sibling_47 ?_
        exact W.lret (v := (-9223372036854775808)) hx hb hr (fun t ht hW => ⟨_, rfl, (by first | exact (zq2_1 hdx1).symm | exact (zq2_2 hdx2).symm | exact (by unfold aSib; rw [zq2_s hdx1 hdx2, hz]; first | done | rfl) | exact (by unfold aSib; rw [zq2_s hdx1 hdx2, hz]; show _ = zDet _ _ _ _ _; unfold zDet; rw [if_neg q0, if_neg q1, if_neg q2, if_neg q3])), ht⟩) (fun q h => by cases h) dX1_sibling_50
      ·
        have hq : r = nI wr := by rw [hq, hz]; rfl
        have hwr : wr < _ := zOut_lt _ _ _ hz
        have hn9 := hn ky
        subst hq
        refine lv_istore (lv' := [(5, .int (nI wr)), (0, .ref (ad 0)), (1, .int (nI sv)), (2, .int (nI ky)), (3, .int x3), (4, .int x4)]) hx hb dX1_sibling_40 hl (by decide) rfl (fun ls hl => ?_)
        refine lv_iload hx hb dX1_sibling_42 (lv_at hl 0 rfl) ?_
        refine lv_if_ge (tgt := 51) hx hb dX1_sibling_44 (by decide) (fun _ => ?_) (fun q => absurd (nI_pos' (by omega)) q)
        refine lv_iload hx hb dX1_sibling_51 (lv_at hl 5 rfl) ?_
        by_cases q0 : x4 = 0
        ·
          subst q0
          refine lv_tableIn (tgt := 84) hx hb dX1_sibling_53 (by decide) (by decide) rfl (by decide) ?_
          refine lv_aload_n hx hb dX1_sibling_84 rfl (lv_at hl 1 rfl) ?_
          refine va_get (D := (dC, dI)) (ci := 1) (v := .ref (ad 2)) (C := RX1) (T := TX1) (N := 10) hx hb hts hin0 hown hK hP 0 rfl rfl 3 (by decide) (hts (.fieldLink RX1 13 "DottedSiblingsModel" "values" "[I") (by decide +kernel)) (fun _ h9 => h9) rfl dX1_sibling_85 ?_
          refine lv_bipush (v := nI 40) hx hb dX1_sibling_88 (by decide) ?_
          refine lv_iload_n hx hb dX1_sibling_90 rfl (lv_at hl 3 rfl) ?_
          refine zr_imul hx hb dX1_sibling_91 ?_
          refine lv_iload hx hb dX1_sibling_92 (lv_at hl 0 rfl) ?_
          refine zr_iadd hx hb dX1_sibling_94 ?_
          refine zr_iald (v := va ky wr) hx hb hK hP 2 0 rfl rfl (by omega) (by omega) (zf40 _ (by omega)) dX1_sibling_95 ?_
          refine lv_i2l hx hb dX1_sibling_96 rfl ?_
          exact W.lret (v := (va ky wr).toInt64) hx hb hr (fun t ht hW => ⟨_, rfl, (by first | exact (zq2_1 hdx1).symm | exact (zq2_2 hdx2).symm | exact (by unfold aSib; rw [zq2_s hdx1 hdx2, hz]; first | done | rfl) | exact (by unfold aSib; rw [zq2_s hdx1 hdx2, hz]; show _ = zDet _ _ _ _ _; unfold zDet; rw [if_neg q0, if_neg q1, if_neg q2, if_neg q3])), ht⟩) (fun q h => by cases h) dX1_sibling_97
        ·
          by_cases q1 : x4 = 1
          ·
            subst q1
            refine lv_tableIn (tgt := 98) hx hb dX1_sibling_53 (by decide) (by decide) rfl (by decide) ?_
            refine lv_aload_n hx hb dX1_sibling_98 rfl (lv_at hl 1 rfl) ?_
            refine va_get (D := (dC, dI)) (ci := 1) (v := .ref (ad 3)) (C := RX1) (T := TX1) (N := 10) hx hb hts hin0 hown hK hP 0 rfl rfl 4 (by decide) (hts (.fieldLink RX1 16 "DottedSiblingsModel" "made" "[I") (by decide +kernel)) (fun _ h9 => h9) rfl dX1_sibling_99 ?_
            refine lv_bipush (v := nI 40) hx hb dX1_sibling_102 (by decide) ?_
            refine lv_iload_n hx hb dX1_sibling_104 rfl (lv_at hl 3 rfl) ?_
            refine zr_imul hx hb dX1_sibling_105 ?_
            refine lv_iload hx hb dX1_sibling_106 (lv_at hl 0 rfl) ?_
            refine zr_iadd hx hb dX1_sibling_108 ?_
            refine zr_iald (v := nI (mk ky wr)) hx hb hK hP 3 0 rfl rfl (by omega) (by omega) (congrArg nI (zf40 _ (by omega))) dX1_sibling_109 ?_
            refine lv_i2l hx hb dX1_sibling_110 rfl ?_
            exact W.lret (v := (nI (mk ky wr)).toInt64) hx hb hr (fun t ht hW => ⟨_, rfl, (by first | exact (zq2_1 hdx1).symm | exact (zq2_2 hdx2).symm | exact (by unfold aSib; rw [zq2_s hdx1 hdx2, hz]; first | done | rfl) | exact (by unfold aSib; rw [zq2_s hdx1 hdx2, hz]; show _ = zDet _ _ _ _ _; unfold zDet; rw [if_neg q0, if_neg q1, if_neg q2, if_neg q3])), ht⟩) (fun q h => by cases h) dX1_sibling_111
          ·
            by_cases q2 : x4 = 2
            ·
              subst q2
              refine lv_tableIn (tgt := 112) hx hb dX1_sibling_53 (by decide) (by decide) rfl (by decide) ?_
              refine lv_aload_n hx hb dX1_sibling_112 rfl (lv_at hl 1 rfl) ?_
              refine va_get (D := (dC, dI)) (ci := 1) (v := .ref (ad 4)) (C := RX1) (T := TX1) (N := 10) hx hb hts hin0 hown hK hP 0 rfl rfl 5 (by decide) (hts (.fieldLink RX1 19 "DottedSiblingsModel" "counters" "[I") (by decide +kernel)) (fun _ h9 => h9) rfl dX1_sibling_113 ?_
              refine lv_bipush (v := nI 40) hx hb dX1_sibling_116 (by decide) ?_
              refine lv_iload_n hx hb dX1_sibling_118 rfl (lv_at hl 3 rfl) ?_
              refine zr_imul hx hb dX1_sibling_119 ?_
              refine lv_iload hx hb dX1_sibling_120 (lv_at hl 0 rfl) ?_
              refine zr_iadd hx hb dX1_sibling_122 ?_
              refine zr_iald (v := nI (ct ky wr)) hx hb hK hP 4 0 rfl rfl (by omega) (by omega) (congrArg nI (zf40 _ (by omega))) dX1_sibling_123 ?_
              refine lv_i2l hx hb dX1_sibling_124 rfl ?_
              exact W.lret (v := (nI (ct ky wr)).toInt64) hx hb hr (fun t ht hW => ⟨_, rfl, (by first | exact (zq2_1 hdx1).symm | exact (zq2_2 hdx2).symm | exact (by unfold aSib; rw [zq2_s hdx1 hdx2, hz]; first | done | rfl) | exact (by unfold aSib; rw [zq2_s hdx1 hdx2, hz]; show _ = zDet _ _ _ _ _; unfold zDet; rw [if_neg q0, if_neg q1, if_neg q2, if_neg q3])), ht⟩) (fun q h => by cases h) dX1_sibling_125
            ·
              by_cases q3 : x4 = 3
              ·
                subst q3
                refine lv_tableIn (tgt := 126) hx hb dX1_sibling_53 (by decide) (by decide) rfl (by decide) ?_
                refine lv_iload hx hb dX1_sibling_126 (lv_at hl 0 rfl) ?_
                refine lv_i2l hx hb dX1_sibling_128 rfl ?_
                exact W.lret (v := (nI wr).toInt64) hx hb hr (fun t ht hW => ⟨_, rfl, (by first | exact (zq2_1 hdx1).symm | exact (zq2_2 hdx2).symm | exact (by unfold aSib; rw [zq2_s hdx1 hdx2, hz]; first | done | rfl) | exact (by unfold aSib; rw [zq2_s hdx1 hdx2, hz]; show _ = zDet _ _ _ _ _; unfold zDet; rw [if_neg q0, if_neg q1, if_neg q2, if_neg q3])), ht⟩) (fun q h => by cases h) dX1_sibling_129
              ·
                refine lv_tableOut (tgt := 130) hx hb dX1_sibling_53 (zsw q0 q1 q2 q3) (by decide) ?_
                refine lv_ldc2 (v := (-9223372036854775808)) hx hb hown (hts (.constantLong RX1 62 (-9223372036854775808)) (by decide +kernel)) dX1_sibling_130 ?_
                exact W.lret (v := (-9223372036854775808)) hx hb hr (fun t ht hW => ⟨_, rfl, (by first | exact (zq2_1 hdx1).symm | exact (zq2_2 hdx2).symm | exact (by unfold aSib; rw [zq2_s hdx1 hdx2, hz]; first | done | rfl) | exact (by unfold aSib; rw [zq2_s hdx1 hdx2, hz]; show _ = zDet _ _ _ _ _; unfold zDet; rw [if_neg q0, if_neg q1, if_neg q2, if_neg q3])), ht⟩) (fun q h => by cases h) dX1_sibling_133
    ·
      refine lv_if_ne (tgt := 19) hx hb dX1_sibling_12 (by decide) (fun q => absurd q (by decide)) (fun _ => ?_)
      refine lv_ldc2 (v := (-9223372036854775808)) hx hb hown (hts (.constantLong RX1 62 (-9223372036854775808)) (by decide +kernel)) dX1_sibling_15 ?_
      exact W.lret (v := (-9223372036854775808)) hx hb hr (fun t ht hW => ⟨_, rfl, (by first | exact (zq2_1 hdx1).symm | exact (zq2_2 hdx2).symm | exact (by unfold aSib; rw [zq2_s hdx1 hdx2, hz]; first | done | rfl) | exact (by unfold aSib; rw [zq2_s hdx1 hdx2, hz]; show _ = zDet _ _ _ _ _; unfold zDet; rw [if_neg q0, if_neg q1, if_neg q2, if_neg q3])), ht⟩) (fun q h => by cases h) dX1_sibling_18
  ·
    refine lv_if_eq (tgt := 15) hx hb dX1_sibling_5 (by decide) (fun _ => ?_) (fun q => absurd q (by decide))
    refine lv_ldc2 (v := (-9223372036854775808)) hx hb hown (hts (.constantLong RX1 62 (-9223372036854775808)) (by decide +kernel)) dX1_sibling_15 ?_
    exact W.lret (v := (-9223372036854775808)) hx hb hr (fun t ht hW => ⟨_, rfl, (by first | exact (zq2_1 hdx1).symm | exact (zq2_2 hdx2).symm | exact (by unfold aSib; rw [zq2_s hdx1 hdx2, hz]; first | done | rfl) | exact (by unfold aSib; rw [zq2_s hdx1 hdx2, hz]; show _ = zDet _ _ _ _ _; unfold zDet; rw [if_neg q0, if_neg q1, if_neg q2, if_neg q3])), ht⟩) (fun q h => by cases h) dX1_sibling_18
set_option maxHeartbeats 4000000 in
set_option maxRecDepth 100000 in
/-- known -/
theorem c_X1_known (l : Launch) (dC : Nat → ClassId) (dI : Nat → Nat → Nat) (ad : Nat → Nat) (cI cJ : ClassId) (S C : Nat) (n : Nat → Nat) (va : Nat → Nat → Int32) (mk ct ps kn cx rd : Nat → Nat → Nat) (hG : zG S C n mk ct ps kn cx) (x1 x2 x3 : Int32) : Met l yX1_known wsX1_known ({ frames := 1, cells := 0, slots := 0, locals := 27 }) (va_Pc [.ref (ad 0), .int x1, .int x2, .int x3] (mB dC dI ad cI cJ S C n va mk ct ps kn cx rd)) (vp_Si (fun r => r = aKnown S n mk ct kn x1 x2 x3)) 0 0 (fun _ => False) := by
  refine Met.ofW (cc := cX1_known) (maxL := 4) (ret := (some .int)) (by decide) rfl ?_
  intro p e s m args below meth c s₁ B hml hv
  obtain ⟨rfl, hP, hK⟩ := hv
  have hx := B.exec
  have hb := B.bytes
  have hr := B.returns
  have hts := atoms_spec (ws := wsX1_known) B.pre
  have hown : s.vm.findClass RX1 = some m.cls := findClass_of_methodNamed B.named
  have hlocks := B.notSynchronized
  have hin0 : ∀ w ∈ wsX10, w ∈ wsX1_known := fun _ h => List.mem_cons_of_mem _ (List.mem_append_right _ h)
  have hl := lv_entry ([.ref (ad 0), .int x1, .int x2, .int x3]) (n := 4) (Nat.le_of_ble_eq_true rfl)
  rw [lg_entry_eq]
  generalize (lg_sl ([.ref (ad 0), .int x1, .int x2, .int x3]) ++ List.replicate (4 - (lg_sl ([.ref (ad 0), .int x1, .int x2, .int x3])).length) Slot.unset).toArray = ls at hl ⊢
  have hl : lv_has ls 4 [(0, .ref (ad 0)), (1, .int x1), (2, .int x2), (3, .int x3)] := hl
  obtain ⟨⟨hS1, hS4, hC1, hC4⟩, hn, hmk, hct, hps, hkn, hcx, hcn, hkw⟩ := hG
  refine lv_aload_n hx hb dX1_known_0 rfl (lv_at hl 0 rfl) ?_
  refine lv_iload_n hx hb dX1_known_1 rfl (lv_at hl 1 rfl) ?_
  refine vp_callSi (W.runV (As := [.int x1]) (rest := []) ⟨hx, hb, hml, hown, hts⟩ (c_X1_isServer l dC dI ad cI cJ S C n va mk ct ps kn cx rd (by omega) x1) (cwV 1 hts gX1_known_X1_isServer rfl rfl rfl (by decide +kernel) ⟨Nat.le_of_ble_eq_true rfl, Nat.le_of_ble_eq_true rfl⟩) ⟨mB_blind, va_recv hK hP (ci := 1) (q0 := 0) rfl rfl, fun U hU hW => ⟨rfl, mB_at hP hK hU hW⟩⟩ rfl rfl hl.1 rfl (lv_room (Nat.le_of_ble_eq_true rfl)) dX1_known_2 ⟨Nat.le_of_ble_eq_true rfl, Nat.le_of_ble_eq_true rfl⟩) (fun r hq => ?_)
  rcases hq with ⟨rfl, sv, hsv, rfl, hdx1⟩ | ⟨rfl, hdx1⟩
  ·
    refine lv_if_eq (tgt := 42) hx hb dX1_known_5 (by decide) (fun q => absurd q (by decide)) (fun _ => ?_)
    refine lv_iload_n hx hb dX1_known_8 rfl (lv_at hl 2 rfl) ?_
    refine vp_callSi (W.runS (As := [.int x2]) (rest := []) ⟨hx, hb, hml, hown, hts⟩ (c_X1_isKey l x2) (va_cwS 1 hts gX1_known_X1_isKey rfl rfl rfl (by decide +kernel) ⟨Nat.le_of_ble_eq_true rfl, Nat.le_of_ble_eq_true rfl⟩) ⟨zB_blind, fun U hU hW => ⟨rfl, trivial⟩⟩ rfl rfl hl.1 rfl (lv_room (Nat.le_of_ble_eq_true rfl)) dX1_known_9 ⟨Nat.le_of_ble_eq_true rfl, Nat.le_of_ble_eq_true rfl⟩) (fun r hq => ?_)
    rcases hq with ⟨rfl, ky, hky, rfl, hdx2⟩ | ⟨rfl, hdx2⟩
    ·
      refine lv_if_eq (tgt := 42) hx hb dX1_known_12 (by decide) (fun q => absurd q (by decide)) (fun _ => ?_)
      refine lv_aload_n hx hb dX1_known_15 rfl (lv_at hl 0 rfl) ?_
      refine lv_iload_n hx hb dX1_known_16 rfl (lv_at hl 3 rfl) ?_
      refine vp_callSi (W.runV (As := [.int x3]) (rest := []) ⟨hx, hb, hml, hown, hts⟩ (c_X1_isServer l dC dI ad cI cJ S C n va mk ct ps kn cx rd (by omega) x3) (cwV 1 hts gX1_known_X1_isServer rfl rfl rfl (by decide +kernel) ⟨Nat.le_of_ble_eq_true rfl, Nat.le_of_ble_eq_true rfl⟩) ⟨mB_blind, va_recv hK hP (ci := 1) (q0 := 0) rfl rfl, fun U hU hW => ⟨rfl, mB_at hP hK hU hW⟩⟩ rfl rfl hl.1 rfl (lv_room (Nat.le_of_ble_eq_true rfl)) dX1_known_17 ⟨Nat.le_of_ble_eq_true rfl, Nat.le_of_ble_eq_true rfl⟩) (fun r hq => ?_)
      rcases hq with ⟨rfl, ov, hov, rfl, hdx3⟩ | ⟨rfl, hdx3⟩
      ·
        refine lv_if_eq (tgt := 42) hx hb dX1_known_20 (by decide) (fun q => absurd q (by decide)) (fun _ => ?_)
        refine lv_aload_n hx hb dX1_known_23 rfl (lv_at hl 0 rfl) ?_
        refine lv_aload_n hx hb dX1_known_24 rfl (lv_at hl 0 rfl) ?_
        refine va_get (D := (dC, dI)) (ci := 1) (v := .ref (ad 6)) (C := RX1) (T := TX1) (N := 10) hx hb hts hin0 hown hK hP 0 rfl rfl 7 (by decide) (hts (.fieldLink RX1 26 "DottedSiblingsModel" "known" "[J") (by decide +kernel)) (fun _ h9 => h9) rfl dX1_known_25 ?_
        refine lv_iconst (v := nI 3) hx hb dX1_known_28 (by decide) ?_
        refine lv_iload_n hx hb dX1_known_29 rfl (lv_at hl 1 rfl) ?_
        refine zr_imul hx hb dX1_known_30 ?_
        refine lv_iload_n hx hb dX1_known_31 rfl (lv_at hl 2 rfl) ?_
        refine zr_iadd hx hb dX1_known_32 ?_
        refine zr_lald (v := lN (kn ky sv)) hx hb hK hP 6 1 rfl rfl (by omega) (by omega) (congrArg lN (zf3 _ (by omega))) dX1_known_33 ?_
        refine lv_iload_n hx hb dX1_known_34 rfl (lv_at hl 2 rfl) ?_
        refine lv_iload_n hx hb dX1_known_35 rfl (lv_at hl 3 rfl) ?_
        refine vp_callSi (W.runV (As := [.long (lN (kn ky sv)), .int (nI ky), .int (nI ov)]) (rest := []) ⟨hx, hb, hml, hown, hts⟩ (c_X1_vector l dC dI ad cI cJ S C n va mk ct ps kn cx rd ky (kn ky sv) ov (by omega) (Nat.lt_trans (z40 (hkn _ _) (hn _)) (by decide)) (by omega) (hn _) (fun w h => Nat.lt_of_lt_of_le (hmk _ w h) hS4) (hct _)) (cwV 3 hts gX1_known_X1_vector rfl rfl rfl (by decide +kernel) ⟨Nat.le_of_ble_eq_true rfl, Nat.le_of_ble_eq_true rfl⟩) ⟨mB_blind, va_recv hK hP (ci := 1) (q0 := 0) rfl rfl, fun U hU hW => ⟨rfl, mB_at hP hK hU hW⟩⟩ rfl rfl hl.1 rfl (lv_room (Nat.le_of_ble_eq_true rfl)) dX1_known_36 ⟨Nat.le_of_ble_eq_true rfl, Nat.le_of_ble_eq_true rfl⟩) (fun r hq => ?_)
        subst hq
        refine lv_goto (tgt := 43) hx hb dX1_known_39 (by decide) ?_
        exact W.iret (v := nI (zVec (ct ky) (zHit (mk ky) (kn ky sv) ov) (n ky))) hx hb hr (fun t ht hW => ⟨_, rfl, (by first | exact (zq3_1 hdx1).symm | exact (zq3_2 hdx2).symm | exact (zq3_3 hdx3).symm | exact (by unfold aKnown; rw [zq3_s hdx1 hdx2 hdx3]; first | done | rfl)), ht⟩) (fun q h => by cases h) dX1_known_43
      ·
        refine lv_if_eq (tgt := 42) hx hb dX1_known_20 (by decide) (fun _ => ?_) (fun q => absurd q (by decide))
        refine lv_iconst (v := (-1)) hx hb dX1_known_42 (by decide) ?_
        exact W.iret (v := (-1)) hx hb hr (fun t ht hW => ⟨_, rfl, (by first | exact (zq3_1 hdx1).symm | exact (zq3_2 hdx2).symm | exact (zq3_3 hdx3).symm | exact (by unfold aKnown; rw [zq3_s hdx1 hdx2 hdx3]; first | done | rfl)), ht⟩) (fun q h => by cases h) dX1_known_43
    ·
      refine lv_if_eq (tgt := 42) hx hb dX1_known_12 (by decide) (fun _ => ?_) (fun q => absurd q (by decide))
      refine lv_iconst (v := (-1)) hx hb dX1_known_42 (by decide) ?_
      exact W.iret (v := (-1)) hx hb hr (fun t ht hW => ⟨_, rfl, (by first | exact (zq3_1 hdx1).symm | exact (zq3_2 hdx2).symm | exact (zq3_3 hdx3).symm | exact (by unfold aKnown; rw [zq3_s hdx1 hdx2 hdx3]; first | done | rfl)), ht⟩) (fun q h => by cases h) dX1_known_43
  ·
    refine lv_if_eq (tgt := 42) hx hb dX1_known_5 (by decide) (fun _ => ?_) (fun q => absurd q (by decide))
    refine lv_iconst (v := (-1)) hx hb dX1_known_42 (by decide) ?_
    exact W.iret (v := (-1)) hx hb hr (fun t ht hW => ⟨_, rfl, (by first | exact (zq3_1 hdx1).symm | exact (zq3_2 hdx2).symm | exact (zq3_3 hdx3).symm | exact (by unfold aKnown; rw [zq3_s hdx1 hdx2 hdx3]; first | done | rfl)), ht⟩) (fun q h => by cases h) dX1_known_43
set_option maxHeartbeats 4000000 in
set_option maxRecDepth 100000 in
/-- context -/
theorem c_X1_context (l : Launch) (dC : Nat → ClassId) (dI : Nat → Nat → Nat) (ad : Nat → Nat) (cI cJ : ClassId) (S C : Nat) (n : Nat → Nat) (va : Nat → Nat → Int32) (mk ct ps kn cx rd : Nat → Nat → Nat) (hG : zG S C n mk ct ps kn cx) (x1 x2 x3 : Int32) : Met l yX1_context wsX1_context ({ frames := 1, cells := 0, slots := 0, locals := 27 }) (va_Pc [.ref (ad 0), .int x1, .int x2, .int x3] (mB dC dI ad cI cJ S C n va mk ct ps kn cx rd)) (vp_Si (fun r => r = aCtx S C n mk ct cx x1 x2 x3)) 0 0 (fun _ => False) := by
  refine Met.ofW (cc := cX1_context) (maxL := 4) (ret := (some .int)) (by decide) rfl ?_
  intro p e s m args below meth c s₁ B hml hv
  obtain ⟨rfl, hP, hK⟩ := hv
  have hx := B.exec
  have hb := B.bytes
  have hr := B.returns
  have hts := atoms_spec (ws := wsX1_context) B.pre
  have hown : s.vm.findClass RX1 = some m.cls := findClass_of_methodNamed B.named
  have hlocks := B.notSynchronized
  have hin0 : ∀ w ∈ wsX10, w ∈ wsX1_context := fun _ h => List.mem_cons_of_mem _ (List.mem_append_right _ h)
  have hl := lv_entry ([.ref (ad 0), .int x1, .int x2, .int x3]) (n := 4) (Nat.le_of_ble_eq_true rfl)
  rw [lg_entry_eq]
  generalize (lg_sl ([.ref (ad 0), .int x1, .int x2, .int x3]) ++ List.replicate (4 - (lg_sl ([.ref (ad 0), .int x1, .int x2, .int x3])).length) Slot.unset).toArray = ls at hl ⊢
  have hl : lv_has ls 4 [(0, .ref (ad 0)), (1, .int x1), (2, .int x2), (3, .int x3)] := hl
  obtain ⟨⟨hS1, hS4, hC1, hC4⟩, hn, hmk, hct, hps, hkn, hcx, hcn, hkw⟩ := hG
  refine lv_aload_n hx hb dX1_context_0 rfl (lv_at hl 0 rfl) ?_
  refine lv_iload_n hx hb dX1_context_1 rfl (lv_at hl 1 rfl) ?_
  refine vp_callSi (W.runV (As := [.int x1]) (rest := []) ⟨hx, hb, hml, hown, hts⟩ (c_X1_isClient l dC dI ad cI cJ S C n va mk ct ps kn cx rd (by omega) x1) (cwV 1 hts gX1_context_X1_isClient rfl rfl rfl (by decide +kernel) ⟨Nat.le_of_ble_eq_true rfl, Nat.le_of_ble_eq_true rfl⟩) ⟨mB_blind, va_recv hK hP (ci := 1) (q0 := 0) rfl rfl, fun U hU hW => ⟨rfl, mB_at hP hK hU hW⟩⟩ rfl rfl hl.1 rfl (lv_room (Nat.le_of_ble_eq_true rfl)) dX1_context_2 ⟨Nat.le_of_ble_eq_true rfl, Nat.le_of_ble_eq_true rfl⟩) (fun r hq => ?_)
  rcases hq with ⟨rfl, cl, hcl, rfl, hdx1⟩ | ⟨rfl, hdx1⟩
  ·
    refine lv_if_eq (tgt := 42) hx hb dX1_context_5 (by decide) (fun q => absurd q (by decide)) (fun _ => ?_)
    refine lv_iload_n hx hb dX1_context_8 rfl (lv_at hl 2 rfl) ?_
    refine vp_callSi (W.runS (As := [.int x2]) (rest := []) ⟨hx, hb, hml, hown, hts⟩ (c_X1_isKey l x2) (va_cwS 1 hts gX1_context_X1_isKey rfl rfl rfl (by decide +kernel) ⟨Nat.le_of_ble_eq_true rfl, Nat.le_of_ble_eq_true rfl⟩) ⟨zB_blind, fun U hU hW => ⟨rfl, trivial⟩⟩ rfl rfl hl.1 rfl (lv_room (Nat.le_of_ble_eq_true rfl)) dX1_context_9 ⟨Nat.le_of_ble_eq_true rfl, Nat.le_of_ble_eq_true rfl⟩) (fun r hq => ?_)
    rcases hq with ⟨rfl, ky, hky, rfl, hdx2⟩ | ⟨rfl, hdx2⟩
    ·
      refine lv_if_eq (tgt := 42) hx hb dX1_context_12 (by decide) (fun q => absurd q (by decide)) (fun _ => ?_)
      refine lv_aload_n hx hb dX1_context_15 rfl (lv_at hl 0 rfl) ?_
      refine lv_iload_n hx hb dX1_context_16 rfl (lv_at hl 3 rfl) ?_
      refine vp_callSi (W.runV (As := [.int x3]) (rest := []) ⟨hx, hb, hml, hown, hts⟩ (c_X1_isServer l dC dI ad cI cJ S C n va mk ct ps kn cx rd (by omega) x3) (cwV 1 hts gX1_context_X1_isServer rfl rfl rfl (by decide +kernel) ⟨Nat.le_of_ble_eq_true rfl, Nat.le_of_ble_eq_true rfl⟩) ⟨mB_blind, va_recv hK hP (ci := 1) (q0 := 0) rfl rfl, fun U hU hW => ⟨rfl, mB_at hP hK hU hW⟩⟩ rfl rfl hl.1 rfl (lv_room (Nat.le_of_ble_eq_true rfl)) dX1_context_17 ⟨Nat.le_of_ble_eq_true rfl, Nat.le_of_ble_eq_true rfl⟩) (fun r hq => ?_)
      rcases hq with ⟨rfl, ov, hov, rfl, hdx3⟩ | ⟨rfl, hdx3⟩
      ·
        refine lv_if_eq (tgt := 42) hx hb dX1_context_20 (by decide) (fun q => absurd q (by decide)) (fun _ => ?_)
        refine lv_aload_n hx hb dX1_context_23 rfl (lv_at hl 0 rfl) ?_
        refine lv_aload_n hx hb dX1_context_24 rfl (lv_at hl 0 rfl) ?_
        refine va_get (D := (dC, dI)) (ci := 1) (v := .ref (ad 7)) (C := RX1) (T := TX1) (N := 10) hx hb hts hin0 hown hK hP 0 rfl rfl 8 (by decide) (hts (.fieldLink RX1 29 "DottedSiblingsModel" "contexts" "[J") (by decide +kernel)) (fun _ h9 => h9) rfl dX1_context_25 ?_
        refine lv_iconst (v := nI 3) hx hb dX1_context_28 (by decide) ?_
        refine lv_iload_n hx hb dX1_context_29 rfl (lv_at hl 1 rfl) ?_
        refine zr_imul hx hb dX1_context_30 ?_
        refine lv_iload_n hx hb dX1_context_31 rfl (lv_at hl 2 rfl) ?_
        refine zr_iadd hx hb dX1_context_32 ?_
        refine zr_lald (v := lN (cx ky cl)) hx hb hK hP 7 1 rfl rfl (by omega) (by omega) (congrArg lN (zf3 _ (by omega))) dX1_context_33 ?_
        refine lv_iload_n hx hb dX1_context_34 rfl (lv_at hl 2 rfl) ?_
        refine lv_iload_n hx hb dX1_context_35 rfl (lv_at hl 3 rfl) ?_
        refine vp_callSi (W.runV (As := [.long (lN (cx ky cl)), .int (nI ky), .int (nI ov)]) (rest := []) ⟨hx, hb, hml, hown, hts⟩ (c_X1_vector l dC dI ad cI cJ S C n va mk ct ps kn cx rd ky (cx ky cl) ov (by omega) (Nat.lt_trans (z40 (hcx _ _) (hn _)) (by decide)) (by omega) (hn _) (fun w h => Nat.lt_of_lt_of_le (hmk _ w h) hS4) (hct _)) (cwV 3 hts gX1_context_X1_vector rfl rfl rfl (by decide +kernel) ⟨Nat.le_of_ble_eq_true rfl, Nat.le_of_ble_eq_true rfl⟩) ⟨mB_blind, va_recv hK hP (ci := 1) (q0 := 0) rfl rfl, fun U hU hW => ⟨rfl, mB_at hP hK hU hW⟩⟩ rfl rfl hl.1 rfl (lv_room (Nat.le_of_ble_eq_true rfl)) dX1_context_36 ⟨Nat.le_of_ble_eq_true rfl, Nat.le_of_ble_eq_true rfl⟩) (fun r hq => ?_)
        subst hq
        refine lv_goto (tgt := 43) hx hb dX1_context_39 (by decide) ?_
        exact W.iret (v := nI (zVec (ct ky) (zHit (mk ky) (cx ky cl) ov) (n ky))) hx hb hr (fun t ht hW => ⟨_, rfl, (by first | exact (zq3_1 hdx1).symm | exact (zq3_2 hdx2).symm | exact (zq3_3 hdx3).symm | exact (by unfold aCtx; rw [zq3_s hdx1 hdx2 hdx3]; first | done | rfl)), ht⟩) (fun q h => by cases h) dX1_context_43
      ·
        refine lv_if_eq (tgt := 42) hx hb dX1_context_20 (by decide) (fun _ => ?_) (fun q => absurd q (by decide))
        refine lv_iconst (v := (-1)) hx hb dX1_context_42 (by decide) ?_
        exact W.iret (v := (-1)) hx hb hr (fun t ht hW => ⟨_, rfl, (by first | exact (zq3_1 hdx1).symm | exact (zq3_2 hdx2).symm | exact (zq3_3 hdx3).symm | exact (by unfold aCtx; rw [zq3_s hdx1 hdx2 hdx3]; first | done | rfl)), ht⟩) (fun q h => by cases h) dX1_context_43
    ·
      refine lv_if_eq (tgt := 42) hx hb dX1_context_12 (by decide) (fun _ => ?_) (fun q => absurd q (by decide))
      refine lv_iconst (v := (-1)) hx hb dX1_context_42 (by decide) ?_
      exact W.iret (v := (-1)) hx hb hr (fun t ht hW => ⟨_, rfl, (by first | exact (zq3_1 hdx1).symm | exact (zq3_2 hdx2).symm | exact (zq3_3 hdx3).symm | exact (by unfold aCtx; rw [zq3_s hdx1 hdx2 hdx3]; first | done | rfl)), ht⟩) (fun q h => by cases h) dX1_context_43
  ·
    refine lv_if_eq (tgt := 42) hx hb dX1_context_5 (by decide) (fun _ => ?_) (fun q => absurd q (by decide))
    refine lv_iconst (v := (-1)) hx hb dX1_context_42 (by decide) ?_
    exact W.iret (v := (-1)) hx hb hr (fun t ht hW => ⟨_, rfl, (by first | exact (zq3_1 hdx1).symm | exact (zq3_2 hdx2).symm | exact (zq3_3 hdx3).symm | exact (by unfold aCtx; rw [zq3_s hdx1 hdx2 hdx3]; first | done | rfl)), ht⟩) (fun q h => by cases h) dX1_context_43
set_option maxHeartbeats 4000000 in
set_option maxRecDepth 100000 in
/-- sees -/
theorem c_X1_sees (l : Launch) (dC : Nat → ClassId) (dI : Nat → Nat → Nat) (ad : Nat → Nat) (cI cJ : ClassId) (S C : Nat) (n : Nat → Nat) (va : Nat → Nat → Int32) (mk ct ps kn cx rd : Nat → Nat → Nat) (hG : zG S C n mk ct ps kn cx) (x1 x2 x3 : Int32) : Met l yX1_sees wsX1_sees ({ frames := 1, cells := 0, slots := 0, locals := 21 }) (va_Pc [.ref (ad 0), .int x1, .int x2, .int x3] (mB dC dI ad cI cJ S C n va mk ct ps kn cx rd)) (vp_Si (fun r => r = aSees C n cx x1 x2 x3)) 0 0 (fun _ => False) := by
  refine Met.ofW (cc := cX1_sees) (maxL := 4) (ret := (some .boolean)) (by decide) rfl ?_
  intro p e s m args below meth c s₁ B hml hv
  obtain ⟨rfl, hP, hK⟩ := hv
  have hx := B.exec
  have hb := B.bytes
  have hr := B.returns
  have hts := atoms_spec (ws := wsX1_sees) B.pre
  have hown : s.vm.findClass RX1 = some m.cls := findClass_of_methodNamed B.named
  have hlocks := B.notSynchronized
  have hin0 : ∀ w ∈ wsX10, w ∈ wsX1_sees := fun _ h => List.mem_cons_of_mem _ (List.mem_append_right _ h)
  have hl := lv_entry ([.ref (ad 0), .int x1, .int x2, .int x3]) (n := 4) (Nat.le_of_ble_eq_true rfl)
  rw [lg_entry_eq]
  generalize (lg_sl ([.ref (ad 0), .int x1, .int x2, .int x3]) ++ List.replicate (4 - (lg_sl ([.ref (ad 0), .int x1, .int x2, .int x3])).length) Slot.unset).toArray = ls at hl ⊢
  have hl : lv_has ls 4 [(0, .ref (ad 0)), (1, .int x1), (2, .int x2), (3, .int x3)] := hl
  obtain ⟨⟨hS1, hS4, hC1, hC4⟩, hn, hmk, hct, hps, hkn, hcx, hcn, hkw⟩ := hG
  refine lv_aload_n hx hb dX1_sees_0 rfl (lv_at hl 0 rfl) ?_
  refine lv_iload_n hx hb dX1_sees_1 rfl (lv_at hl 1 rfl) ?_
  refine vp_callSi (W.runV (As := [.int x1]) (rest := []) ⟨hx, hb, hml, hown, hts⟩ (c_X1_isClient l dC dI ad cI cJ S C n va mk ct ps kn cx rd (by omega) x1) (cwV 1 hts gX1_sees_X1_isClient rfl rfl rfl (by decide +kernel) ⟨Nat.le_of_ble_eq_true rfl, Nat.le_of_ble_eq_true rfl⟩) ⟨mB_blind, va_recv hK hP (ci := 1) (q0 := 0) rfl rfl, fun U hU hW => ⟨rfl, mB_at hP hK hU hW⟩⟩ rfl rfl hl.1 rfl (lv_room (Nat.le_of_ble_eq_true rfl)) dX1_sees_2 ⟨Nat.le_of_ble_eq_true rfl, Nat.le_of_ble_eq_true rfl⟩) (fun r hq => ?_)
  rcases hq with ⟨rfl, cl, hcl, rfl, hdx1⟩ | ⟨rfl, hdx1⟩
  ·
    refine lv_if_eq (tgt := 52) hx hb dX1_sees_5 (by decide) (fun q => absurd q (by decide)) (fun _ => ?_)
    refine lv_iload_n hx hb dX1_sees_8 rfl (lv_at hl 2 rfl) ?_
    refine vp_callSi (W.runS (As := [.int x2]) (rest := []) ⟨hx, hb, hml, hown, hts⟩ (c_X1_isKey l x2) (va_cwS 1 hts gX1_sees_X1_isKey rfl rfl rfl (by decide +kernel) ⟨Nat.le_of_ble_eq_true rfl, Nat.le_of_ble_eq_true rfl⟩) ⟨zB_blind, fun U hU hW => ⟨rfl, trivial⟩⟩ rfl rfl hl.1 rfl (lv_room (Nat.le_of_ble_eq_true rfl)) dX1_sees_9 ⟨Nat.le_of_ble_eq_true rfl, Nat.le_of_ble_eq_true rfl⟩) (fun r hq => ?_)
    rcases hq with ⟨rfl, ky, hky, rfl, hdx2⟩ | ⟨rfl, hdx2⟩
    ·
      refine lv_if_eq (tgt := 52) hx hb dX1_sees_12 (by decide) (fun q => absurd q (by decide)) (fun _ => ?_)
      refine lv_iload_n hx hb dX1_sees_15 rfl (lv_at hl 3 rfl) ?_
      refine lv_if_lt (tgt := 52) hx hb dX1_sees_16 (by decide) (fun c16 => ?_) (fun c16 => ?_)
      ·
        refine lv_iconst (v := nI 0) hx hb dX1_sees_52 (by decide) ?_
        exact W.zret (v := nI 0) hx hb hr (by first | rfl | decide) (fun t ht hW => ⟨_, rfl, (by first | exact (zq2_1 hdx1).symm | exact (zq2_2 hdx2).symm | exact (by unfold aSees; rw [zq2_s hdx1 hdx2, zD_neg c16]; first | done | rfl) | exact (by unfold aSees; rw [zq2_s hdx1 hdx2, zD_big (Nat.lt_of_le_of_lt (hn ky) (by decide)) c26]; first | done | rfl) | exact (by unfold aSees; rw [zq2_s hdx1 hdx2, hdx3]; show _ = zB01 _; rw [c40]; rfl)), ht⟩) (fun q h => by cases h) dX1_sees_53
      ·
        refine lv_iload_n hx hb dX1_sees_19 rfl (lv_at hl 3 rfl) ?_
        refine lv_aload_n hx hb dX1_sees_20 rfl (lv_at hl 0 rfl) ?_
        refine va_get (D := (dC, dI)) (ci := 1) (v := .ref (ad 1)) (C := RX1) (T := TX1) (N := 10) hx hb hts hin0 hown hK hP 0 rfl rfl 2 (by decide) (hts (.fieldLink RX1 7 "DottedSiblingsModel" "counts" "[I") (by decide +kernel)) (fun _ h9 => h9) rfl dX1_sees_21 ?_
        refine lv_iload_n hx hb dX1_sees_24 rfl (lv_at hl 2 rfl) ?_
        refine zr_iald (v := nI (n ky)) hx hb hK hP 1 0 rfl rfl (by omega) (by omega) rfl dX1_sees_25 ?_
        refine lv_icmp_ge (tgt := 52) hx hb dX1_sees_26 (by decide) (fun c26 => ?_) (fun c26 => ?_)
        ·
          refine lv_iconst (v := nI 0) hx hb dX1_sees_52 (by decide) ?_
          exact W.zret (v := nI 0) hx hb hr (by first | rfl | decide) (fun t ht hW => ⟨_, rfl, (by first | exact (zq2_1 hdx1).symm | exact (zq2_2 hdx2).symm | exact (by unfold aSees; rw [zq2_s hdx1 hdx2, zD_neg c16]; first | done | rfl) | exact (by unfold aSees; rw [zq2_s hdx1 hdx2, zD_big (Nat.lt_of_le_of_lt (hn ky) (by decide)) c26]; first | done | rfl) | exact (by unfold aSees; rw [zq2_s hdx1 hdx2, hdx3]; show _ = zB01 _; rw [c40]; rfl)), ht⟩) (fun q h => by cases h) dX1_sees_53
        ·
          have hn9 := hn ky
          obtain ⟨wr, hwr, rfl, hdx3⟩ := zD_in (N := n ky) (by omega) c16 c26
          refine lv_aload_n hx hb dX1_sees_29 rfl (lv_at hl 0 rfl) ?_
          refine va_get (D := (dC, dI)) (ci := 1) (v := .ref (ad 7)) (C := RX1) (T := TX1) (N := 10) hx hb hts hin0 hown hK hP 0 rfl rfl 8 (by decide) (hts (.fieldLink RX1 29 "DottedSiblingsModel" "contexts" "[J") (by decide +kernel)) (fun _ h9 => h9) rfl dX1_sees_30 ?_
          refine lv_iconst (v := nI 3) hx hb dX1_sees_33 (by decide) ?_
          refine lv_iload_n hx hb dX1_sees_34 rfl (lv_at hl 1 rfl) ?_
          refine zr_imul hx hb dX1_sees_35 ?_
          refine lv_iload_n hx hb dX1_sees_36 rfl (lv_at hl 2 rfl) ?_
          refine zr_iadd hx hb dX1_sees_37 ?_
          refine zr_lald (v := lN (cx ky cl)) hx hb hK hP 7 1 rfl rfl (by omega) (by omega) (congrArg lN (zf3 _ (by omega))) dX1_sees_38 ?_
          refine lv_iload_n hx hb dX1_sees_39 rfl (lv_at hl 3 rfl) ?_
          refine zr_bit (tgt := 52) hx hb (Nat.lt_trans (z40 (hcx _ _) (hn _)) (by decide)) (by omega) dX1_sees_40 dX1_sees_41 dX1_sees_42 dX1_sees_43 dX1_sees_44 dX1_sees_45 (by decide) (fun c40 => ?_) (fun c40 => ?_)
          ·
            refine lv_iconst (v := nI 0) hx hb dX1_sees_52 (by decide) ?_
            exact W.zret (v := nI 0) hx hb hr (by first | rfl | decide) (fun t ht hW => ⟨_, rfl, (by first | exact (zq2_1 hdx1).symm | exact (zq2_2 hdx2).symm | exact (by unfold aSees; rw [zq2_s hdx1 hdx2, zD_neg c16]; first | done | rfl) | exact (by unfold aSees; rw [zq2_s hdx1 hdx2, zD_big (Nat.lt_of_le_of_lt (hn ky) (by decide)) c26]; first | done | rfl) | exact (by unfold aSees; rw [zq2_s hdx1 hdx2, hdx3]; show _ = zB01 _; rw [c40]; rfl)), ht⟩) (fun q h => by cases h) dX1_sees_53
          ·
            refine lv_iconst (v := nI 1) hx hb dX1_sees_48 (by decide) ?_
            refine lv_goto (tgt := 53) hx hb dX1_sees_49 (by decide) ?_
            exact W.zret (v := nI 1) hx hb hr (by first | rfl | decide) (fun t ht hW => ⟨_, rfl, (by first | exact (zq2_1 hdx1).symm | exact (zq2_2 hdx2).symm | exact (by unfold aSees; rw [zq2_s hdx1 hdx2, zD_neg c16]; first | done | rfl) | exact (by unfold aSees; rw [zq2_s hdx1 hdx2, zD_big (Nat.lt_of_le_of_lt (hn ky) (by decide)) c26]; first | done | rfl) | exact (by unfold aSees; rw [zq2_s hdx1 hdx2, hdx3]; show _ = zB01 _; rw [c40]; rfl)), ht⟩) (fun q h => by cases h) dX1_sees_53
    ·
      refine lv_if_eq (tgt := 52) hx hb dX1_sees_12 (by decide) (fun _ => ?_) (fun q => absurd q (by decide))
      refine lv_iconst (v := nI 0) hx hb dX1_sees_52 (by decide) ?_
      exact W.zret (v := nI 0) hx hb hr (by first | rfl | decide) (fun t ht hW => ⟨_, rfl, (by first | exact (zq2_1 hdx1).symm | exact (zq2_2 hdx2).symm | exact (by unfold aSees; rw [zq2_s hdx1 hdx2, zD_neg c16]; first | done | rfl) | exact (by unfold aSees; rw [zq2_s hdx1 hdx2, zD_big (Nat.lt_of_le_of_lt (hn ky) (by decide)) c26]; first | done | rfl) | exact (by unfold aSees; rw [zq2_s hdx1 hdx2, hdx3]; show _ = zB01 _; rw [c40]; rfl)), ht⟩) (fun q h => by cases h) dX1_sees_53
  ·
    refine lv_if_eq (tgt := 52) hx hb dX1_sees_5 (by decide) (fun _ => ?_) (fun q => absurd q (by decide))
    refine lv_iconst (v := nI 0) hx hb dX1_sees_52 (by decide) ?_
    exact W.zret (v := nI 0) hx hb hr (by first | rfl | decide) (fun t ht hW => ⟨_, rfl, (by first | exact (zq2_1 hdx1).symm | exact (zq2_2 hdx2).symm | exact (by unfold aSees; rw [zq2_s hdx1 hdx2, zD_neg c16]; first | done | rfl) | exact (by unfold aSees; rw [zq2_s hdx1 hdx2, zD_big (Nat.lt_of_le_of_lt (hn ky) (by decide)) c26]; first | done | rfl) | exact (by unfold aSees; rw [zq2_s hdx1 hdx2, hdx3]; show _ = zB01 _; rw [c40]; rfl)), ht⟩) (fun q h => by cases h) dX1_sees_53
set_option maxHeartbeats 4000000 in
set_option maxRecDepth 100000 in
/-- same -/
theorem c_X1_same (l : Launch) (dC : Nat → ClassId) (dI : Nat → Nat → Nat) (ad : Nat → Nat) (cI cJ : ClassId) (S C : Nat) (n : Nat → Nat) (va : Nat → Nat → Int32) (mk ct ps kn cx rd : Nat → Nat → Nat) (hG : zG S C n mk ct ps kn cx) (x1 x2 x3 : Int32) : Met l yX1_same wsX1_same ({ frames := 1, cells := 0, slots := 0, locals := 21 }) (va_Pc [.ref (ad 0), .int x1, .int x2, .int x3] (mB dC dI ad cI cJ S C n va mk ct ps kn cx rd)) (vp_Si (fun r => r = aSame S kn x1 x2 x3)) 0 0 (fun _ => False) := by
  refine Met.ofW (cc := cX1_same) (maxL := 4) (ret := (some .boolean)) (by decide) rfl ?_
  intro p e s m args below meth c s₁ B hml hv
  obtain ⟨rfl, hP, hK⟩ := hv
  have hx := B.exec
  have hb := B.bytes
  have hr := B.returns
  have hts := atoms_spec (ws := wsX1_same) B.pre
  have hown : s.vm.findClass RX1 = some m.cls := findClass_of_methodNamed B.named
  have hlocks := B.notSynchronized
  have hin0 : ∀ w ∈ wsX10, w ∈ wsX1_same := fun _ h => List.mem_cons_of_mem _ (List.mem_append_right _ h)
  have hl := lv_entry ([.ref (ad 0), .int x1, .int x2, .int x3]) (n := 4) (Nat.le_of_ble_eq_true rfl)
  rw [lg_entry_eq]
  generalize (lg_sl ([.ref (ad 0), .int x1, .int x2, .int x3]) ++ List.replicate (4 - (lg_sl ([.ref (ad 0), .int x1, .int x2, .int x3])).length) Slot.unset).toArray = ls at hl ⊢
  have hl : lv_has ls 4 [(0, .ref (ad 0)), (1, .int x1), (2, .int x2), (3, .int x3)] := hl
  obtain ⟨⟨hS1, hS4, hC1, hC4⟩, hn, hmk, hct, hps, hkn, hcx, hcn, hkw⟩ := hG
  refine lv_aload_n hx hb dX1_same_0 rfl (lv_at hl 0 rfl) ?_
  refine lv_iload_n hx hb dX1_same_1 rfl (lv_at hl 1 rfl) ?_
  refine vp_callSi (W.runV (As := [.int x1]) (rest := []) ⟨hx, hb, hml, hown, hts⟩ (c_X1_isServer l dC dI ad cI cJ S C n va mk ct ps kn cx rd (by omega) x1) (cwV 1 hts gX1_same_X1_isServer rfl rfl rfl (by decide +kernel) ⟨Nat.le_of_ble_eq_true rfl, Nat.le_of_ble_eq_true rfl⟩) ⟨mB_blind, va_recv hK hP (ci := 1) (q0 := 0) rfl rfl, fun U hU hW => ⟨rfl, mB_at hP hK hU hW⟩⟩ rfl rfl hl.1 rfl (lv_room (Nat.le_of_ble_eq_true rfl)) dX1_same_2 ⟨Nat.le_of_ble_eq_true rfl, Nat.le_of_ble_eq_true rfl⟩) (fun r hq => ?_)
  rcases hq with ⟨rfl, sa, hsa, rfl, hdx1⟩ | ⟨rfl, hdx1⟩
  ·
    refine lv_if_eq (tgt := 51) hx hb dX1_same_5 (by decide) (fun q => absurd q (by decide)) (fun _ => ?_)
    refine lv_aload_n hx hb dX1_same_8 rfl (lv_at hl 0 rfl) ?_
    refine lv_iload_n hx hb dX1_same_9 rfl (lv_at hl 2 rfl) ?_
    refine vp_callSi (W.runV (As := [.int x2]) (rest := []) ⟨hx, hb, hml, hown, hts⟩ (c_X1_isServer l dC dI ad cI cJ S C n va mk ct ps kn cx rd (by omega) x2) (cwV 1 hts gX1_same_X1_isServer rfl rfl rfl (by decide +kernel) ⟨Nat.le_of_ble_eq_true rfl, Nat.le_of_ble_eq_true rfl⟩) ⟨mB_blind, va_recv hK hP (ci := 1) (q0 := 0) rfl rfl, fun U hU hW => ⟨rfl, mB_at hP hK hU hW⟩⟩ rfl rfl hl.1 rfl (lv_room (Nat.le_of_ble_eq_true rfl)) dX1_same_10 ⟨Nat.le_of_ble_eq_true rfl, Nat.le_of_ble_eq_true rfl⟩) (fun r hq => ?_)
    rcases hq with ⟨rfl, sb, hsb, rfl, hdx2⟩ | ⟨rfl, hdx2⟩
    ·
      refine lv_if_eq (tgt := 51) hx hb dX1_same_13 (by decide) (fun q => absurd q (by decide)) (fun _ => ?_)
      refine lv_iload_n hx hb dX1_same_16 rfl (lv_at hl 3 rfl) ?_
      refine vp_callSi (W.runS (As := [.int x3]) (rest := []) ⟨hx, hb, hml, hown, hts⟩ (c_X1_isKey l x3) (va_cwS 1 hts gX1_same_X1_isKey rfl rfl rfl (by decide +kernel) ⟨Nat.le_of_ble_eq_true rfl, Nat.le_of_ble_eq_true rfl⟩) ⟨zB_blind, fun U hU hW => ⟨rfl, trivial⟩⟩ rfl rfl hl.1 rfl (lv_room (Nat.le_of_ble_eq_true rfl)) dX1_same_17 ⟨Nat.le_of_ble_eq_true rfl, Nat.le_of_ble_eq_true rfl⟩) (fun r hq => ?_)
      rcases hq with ⟨rfl, ky, hky, rfl, hdx3⟩ | ⟨rfl, hdx3⟩
      ·
        refine lv_if_eq (tgt := 51) hx hb dX1_same_20 (by decide) (fun q => absurd q (by decide)) (fun _ => ?_)
        refine lv_aload_n hx hb dX1_same_23 rfl (lv_at hl 0 rfl) ?_
        refine va_get (D := (dC, dI)) (ci := 1) (v := .ref (ad 6)) (C := RX1) (T := TX1) (N := 10) hx hb hts hin0 hown hK hP 0 rfl rfl 7 (by decide) (hts (.fieldLink RX1 26 "DottedSiblingsModel" "known" "[J") (by decide +kernel)) (fun _ h9 => h9) rfl dX1_same_24 ?_
        refine lv_iconst (v := nI 3) hx hb dX1_same_27 (by decide) ?_
        refine lv_iload_n hx hb dX1_same_28 rfl (lv_at hl 1 rfl) ?_
        refine zr_imul hx hb dX1_same_29 ?_
        refine lv_iload_n hx hb dX1_same_30 rfl (lv_at hl 3 rfl) ?_
        refine zr_iadd hx hb dX1_same_31 ?_
        refine zr_lald (v := lN (kn ky sa)) hx hb hK hP 6 1 rfl rfl (by omega) (by omega) (congrArg lN (zf3 _ (by omega))) dX1_same_32 ?_
        refine lv_aload_n hx hb dX1_same_33 rfl (lv_at hl 0 rfl) ?_
        refine va_get (D := (dC, dI)) (ci := 1) (v := .ref (ad 6)) (C := RX1) (T := TX1) (N := 10) hx hb hts hin0 hown hK hP 0 rfl rfl 7 (by decide) (hts (.fieldLink RX1 26 "DottedSiblingsModel" "known" "[J") (by decide +kernel)) (fun _ h9 => h9) rfl dX1_same_34 ?_
        refine lv_iconst (v := nI 3) hx hb dX1_same_37 (by decide) ?_
        refine lv_iload_n hx hb dX1_same_38 rfl (lv_at hl 2 rfl) ?_
        refine zr_imul hx hb dX1_same_39 ?_
        refine lv_iload_n hx hb dX1_same_40 rfl (lv_at hl 3 rfl) ?_
        refine zr_iadd hx hb dX1_same_41 ?_
        refine zr_lald (v := lN (kn ky sb)) hx hb hK hP 6 1 rfl rfl (by omega) (by omega) (congrArg lN (zf3 _ (by omega))) dX1_same_42 ?_
        refine zr_leq (tgt := 51) hx hb (Nat.lt_trans (z40 (hkn _ _) (hn _)) (by decide)) (Nat.lt_trans (z40 (hkn _ _) (hn _)) (by decide)) dX1_same_43 dX1_same_44 (by decide) (fun c43 => ?_) (fun c43 => ?_)
        ·
          refine lv_iconst (v := nI 0) hx hb dX1_same_51 (by decide) ?_
          exact W.zret (v := nI 0) hx hb hr (by first | rfl | decide) (fun t ht hW => ⟨_, rfl, (by first | exact (zq3_1 hdx1).symm | exact (zq3_2 hdx2).symm | exact (zq3_3 hdx3).symm | exact (by unfold aSame; rw [zq3_s hdx1 hdx2 hdx3, if_pos c43]; first | done | rfl) | exact (by unfold aSame; rw [zq3_s hdx1 hdx2 hdx3, if_neg c43]; first | done | rfl)), ht⟩) (fun q h => by cases h) dX1_same_52
        ·
          refine lv_iconst (v := nI 1) hx hb dX1_same_47 (by decide) ?_
          refine lv_goto (tgt := 52) hx hb dX1_same_48 (by decide) ?_
          exact W.zret (v := nI 1) hx hb hr (by first | rfl | decide) (fun t ht hW => ⟨_, rfl, (by first | exact (zq3_1 hdx1).symm | exact (zq3_2 hdx2).symm | exact (zq3_3 hdx3).symm | exact (by unfold aSame; rw [zq3_s hdx1 hdx2 hdx3, if_pos c43]; first | done | rfl) | exact (by unfold aSame; rw [zq3_s hdx1 hdx2 hdx3, if_neg c43]; first | done | rfl)), ht⟩) (fun q h => by cases h) dX1_same_52
      ·
        refine lv_if_eq (tgt := 51) hx hb dX1_same_20 (by decide) (fun _ => ?_) (fun q => absurd q (by decide))
        refine lv_iconst (v := nI 0) hx hb dX1_same_51 (by decide) ?_
        exact W.zret (v := nI 0) hx hb hr (by first | rfl | decide) (fun t ht hW => ⟨_, rfl, (by first | exact (zq3_1 hdx1).symm | exact (zq3_2 hdx2).symm | exact (zq3_3 hdx3).symm | exact (by unfold aSame; rw [zq3_s hdx1 hdx2 hdx3, if_pos c43]; first | done | rfl) | exact (by unfold aSame; rw [zq3_s hdx1 hdx2 hdx3, if_neg c43]; first | done | rfl)), ht⟩) (fun q h => by cases h) dX1_same_52
    ·
      refine lv_if_eq (tgt := 51) hx hb dX1_same_13 (by decide) (fun _ => ?_) (fun q => absurd q (by decide))
      refine lv_iconst (v := nI 0) hx hb dX1_same_51 (by decide) ?_
      exact W.zret (v := nI 0) hx hb hr (by first | rfl | decide) (fun t ht hW => ⟨_, rfl, (by first | exact (zq3_1 hdx1).symm | exact (zq3_2 hdx2).symm | exact (zq3_3 hdx3).symm | exact (by unfold aSame; rw [zq3_s hdx1 hdx2 hdx3, if_pos c43]; first | done | rfl) | exact (by unfold aSame; rw [zq3_s hdx1 hdx2 hdx3, if_neg c43]; first | done | rfl)), ht⟩) (fun q h => by cases h) dX1_same_52
  ·
    refine lv_if_eq (tgt := 51) hx hb dX1_same_5 (by decide) (fun _ => ?_) (fun q => absurd q (by decide))
    refine lv_iconst (v := nI 0) hx hb dX1_same_51 (by decide) ?_
    exact W.zret (v := nI 0) hx hb hr (by first | rfl | decide) (fun t ht hW => ⟨_, rfl, (by first | exact (zq3_1 hdx1).symm | exact (zq3_2 hdx2).symm | exact (zq3_3 hdx3).symm | exact (by unfold aSame; rw [zq3_s hdx1 hdx2 hdx3, if_pos c43]; first | done | rfl) | exact (by unfold aSame; rw [zq3_s hdx1 hdx2 hdx3, if_neg c43]; first | done | rfl)), ht⟩) (fun q h => by cases h) dX1_same_52
set_option maxHeartbeats 4000000 in
set_option maxRecDepth 100000 in
/-- weight -/
theorem c_X1_weight (l : Launch) (dC : Nat → ClassId) (dI : Nat → Nat → Nat) (ad : Nat → Nat) (cI cJ : ClassId) (S C : Nat) (n : Nat → Nat) (va : Nat → Nat → Int32) (mk ct ps kn cx rd : Nat → Nat → Nat) (hG : zG S C n mk ct ps kn cx) (x1 x2 : Int32) : Met l yX1_weight wsX1_weight ({ frames := 2, cells := 0, slots := 0, locals := 50 }) (va_Pc [.ref (ad 0), .int x1, .int x2] (mB dC dI ad cI cJ S C n va mk ct ps kn cx rd)) (vp_Si (fun r => r = aWeight S n mk ct ps kn x1 x2)) 0 0 (fun _ => False) := by
  refine Met.ofW (cc := cX1_weight) (maxL := 5) (ret := (some .int)) (by decide) rfl ?_
  intro p e s m args below meth c s₁ B hml hv
  obtain ⟨rfl, hP, hK⟩ := hv
  have hx := B.exec
  have hb := B.bytes
  have hr := B.returns
  have hts := atoms_spec (ws := wsX1_weight) B.pre
  have hown : s.vm.findClass RX1 = some m.cls := findClass_of_methodNamed B.named
  have hlocks := B.notSynchronized
  have hin0 : ∀ w ∈ wsX10, w ∈ wsX1_weight := fun _ h => List.mem_cons_of_mem _ (List.mem_append_right _ h)
  have hl := lv_entry ([.ref (ad 0), .int x1, .int x2]) (n := 5) (Nat.le_of_ble_eq_true rfl)
  rw [lg_entry_eq]
  generalize (lg_sl ([.ref (ad 0), .int x1, .int x2]) ++ List.replicate (5 - (lg_sl ([.ref (ad 0), .int x1, .int x2])).length) Slot.unset).toArray = ls at hl ⊢
  have hl : lv_has ls 5 [(0, .ref (ad 0)), (1, .int x1), (2, .int x2)] := hl
  have hG0 := hG
  obtain ⟨⟨hS1, hS4, hC1, hC4⟩, hn, hmk, hct, hps, hkn, hcx, hcn, hkw⟩ := hG
  have hG := hG0
  refine lv_aload_n hx hb dX1_weight_0 rfl (lv_at hl 0 rfl) ?_
  refine lv_iload_n hx hb dX1_weight_1 rfl (lv_at hl 1 rfl) ?_
  refine vp_callSi (W.runV (As := [.int x1]) (rest := []) ⟨hx, hb, hml, hown, hts⟩ (c_X1_isServer l dC dI ad cI cJ S C n va mk ct ps kn cx rd (by omega) x1) (cwV 1 hts gX1_weight_X1_isServer rfl rfl rfl (by decide +kernel) ⟨Nat.le_of_ble_eq_true rfl, Nat.le_of_ble_eq_true rfl⟩) ⟨mB_blind, va_recv hK hP (ci := 1) (q0 := 0) rfl rfl, fun U hU hW => ⟨rfl, mB_at hP hK hU hW⟩⟩ rfl rfl hl.1 rfl (lv_room (Nat.le_of_ble_eq_true rfl)) dX1_weight_2 ⟨Nat.le_of_ble_eq_true rfl, Nat.le_of_ble_eq_true rfl⟩) (fun r hq => ?_)
  rcases hq with ⟨rfl, sv, hsv, rfl, hdx1⟩ | ⟨rfl, hdx1⟩
  ·
    refine lv_if_eq (tgt := 15) hx hb dX1_weight_5 (by decide) (fun q => absurd q (by decide)) (fun _ => ?_)
    refine lv_iload_n hx hb dX1_weight_8 rfl (lv_at hl 2 rfl) ?_
    refine vp_callSi (W.runS (As := [.int x2]) (rest := []) ⟨hx, hb, hml, hown, hts⟩ (c_X1_isKey l x2) (va_cwS 1 hts gX1_weight_X1_isKey rfl rfl rfl (by decide +kernel) ⟨Nat.le_of_ble_eq_true rfl, Nat.le_of_ble_eq_true rfl⟩) ⟨zB_blind, fun U hU hW => ⟨rfl, trivial⟩⟩ rfl rfl hl.1 rfl (lv_room (Nat.le_of_ble_eq_true rfl)) dX1_weight_9 ⟨Nat.le_of_ble_eq_true rfl, Nat.le_of_ble_eq_true rfl⟩) (fun r hq => ?_)
    rcases hq with ⟨rfl, ky, hky, rfl, hdx2⟩ | ⟨rfl, hdx2⟩
    ·
      refine lv_if_ne (tgt := 17) hx hb dX1_weight_12 (by decide) (fun _ => ?_) (fun q => absurd q (by decide))
      refine lv_aload_n hx hb dX1_weight_17 rfl (lv_at hl 0 rfl) ?_
      refine lv_iload_n hx hb dX1_weight_18 rfl (lv_at hl 1 rfl) ?_
      refine lv_iload_n hx hb dX1_weight_19 rfl (lv_at hl 2 rfl) ?_
      refine vp_callSi (W.runV (As := [.int (nI sv), .int (nI ky)]) (rest := []) ⟨hx, hb, hml, hown, hts⟩ (c_X1_siblings l dC dI ad cI cJ S C n va mk ct ps kn cx rd hG (nI sv) (nI ky)) (cwV 2 hts gX1_weight_X1_siblings rfl rfl rfl (by decide +kernel) ⟨Nat.le_of_ble_eq_true rfl, Nat.le_of_ble_eq_true rfl⟩) ⟨mB_blind, va_recv hK hP (ci := 1) (q0 := 0) rfl rfl, fun U hU hW => ⟨rfl, mB_at hP hK hU hW⟩⟩ rfl rfl hl.1 rfl (lv_room (Nat.le_of_ble_eq_true rfl)) dX1_weight_20 ⟨Nat.le_of_ble_eq_true rfl, Nat.le_of_ble_eq_true rfl⟩) (fun r hq => ?_)
      have hq := hq.trans (zq2_s hdx1 hdx2)
      subst hq
      refine lv_istore_n (lv' := [(3, .int (nI (zSize (zNew (n ky) (ps ky) (kn ky sv))))), (0, .ref (ad 0)), (1, .int (nI sv)), (2, .int (nI ky))]) hx hb dX1_weight_23 rfl hl (by decide) rfl (fun ls hl => ?_)
      refine lv_iconst (v := nI 0) hx hb dX1_weight_24 (by decide) ?_
      refine lv_istore (lv' := [(4, .int (nI 0)), (3, .int (nI (zSize (zNew (n ky) (ps ky) (kn ky sv))))), (0, .ref (ad 0)), (1, .int (nI sv)), (2, .int (nI ky))]) hx hb dX1_weight_25 hl (by decide) rfl (fun ls hl => ?_)
      refine zr_loop (pc := 27) (fun d ls => ∃ i, i ≤ S ∧ d = S - i ∧ lv_has ls 5 [(0, .ref (ad 0)), (1, .int (nI sv)), (2, .int (nI ky)), (3, .int (nI (zSize (zNew (n ky) (ps ky) (kn ky sv)) + cn (fun o => decide (0 < zVec (ct ky) (zHit (mk ky) (kn ky sv) o) (n ky))) i))), (4, .int (nI i))]) ?_ _ _ ⟨0, Nat.zero_le _, rfl, lv_sub hl [2, 3, 4, 1, 0] rfl⟩
      rintro d ls ⟨i, hi, rfl, hl⟩ ih27
      have hz9 := zVec_le (hit := zHit (mk ky) (kn ky sv) i) (hct ky) (n ky)
      refine lv_iload hx hb dX1_weight_27 (lv_at hl 4 rfl) ?_
      refine lv_aload_n hx hb dX1_weight_29 rfl (lv_at hl 0 rfl) ?_
      refine va_get (D := (dC, dI)) (ci := 1) (v := .int (nI S)) (C := RX1) (T := TX1) (N := 10) hx hb hts hin0 hown hK hP 0 rfl rfl 0 (by decide) (hts (.fieldLink RX1 35 "DottedSiblingsModel" "servers" "I") (by decide +kernel)) (fun _ h9 => h9) rfl dX1_weight_30 ?_
      refine zr_ige (tgt := 61) hx hb (by omega) (by omega) dX1_weight_33 (by decide) (fun c33 => ?_) (fun c33 => ?_)
      ·
        refine lv_iload_n hx hb dX1_weight_61 rfl (lv_at hl 3 rfl) ?_
        exact W.iret (v := nI (zSize (zNew (n ky) (ps ky) (kn ky sv)) + cn (fun o => decide (0 < zVec (ct ky) (zHit (mk ky) (kn ky sv) o) (n ky))) i)) hx hb hr (fun t ht hW => ⟨_, rfl, (by first | exact (zq2_1 hdx1).symm | exact (zq2_2 hdx2).symm | exact (by unfold aWeight; rw [zq2_s hdx1 hdx2, show S = i by omega, Nat.add_comm]; first | done | rfl) | exact (by unfold aWeight; rw [zq2_s hdx1 hdx2, Nat.add_comm, show S = i by omega]; first | done | rfl)), ht⟩) (fun q h => by cases h) dX1_weight_62
      ·
        refine lv_iload_n hx hb dX1_weight_36 rfl (lv_at hl 3 rfl) ?_
        refine lv_aload_n hx hb dX1_weight_37 rfl (lv_at hl 0 rfl) ?_
        refine lv_iload_n hx hb dX1_weight_38 rfl (lv_at hl 1 rfl) ?_
        refine lv_iload_n hx hb dX1_weight_39 rfl (lv_at hl 2 rfl) ?_
        refine lv_iload hx hb dX1_weight_40 (lv_at hl 4 rfl) ?_
        refine vp_callSi (W.runV (As := [.int (nI sv), .int (nI ky), .int (nI i)]) (rest := [.int (nI (zSize (zNew (n ky) (ps ky) (kn ky sv)) + cn (fun o => decide (0 < zVec (ct ky) (zHit (mk ky) (kn ky sv) o) (n ky))) i))]) ⟨hx, hb, hml, hown, hts⟩ (c_X1_known l dC dI ad cI cJ S C n va mk ct ps kn cx rd hG (nI sv) (nI ky) (nI i)) (cwV 3 hts gX1_weight_X1_known rfl rfl rfl (by decide +kernel) ⟨Nat.le_of_ble_eq_true rfl, Nat.le_of_ble_eq_true rfl⟩) ⟨mB_blind, va_recv hK hP (ci := 1) (q0 := 0) rfl rfl, fun U hU hW => ⟨rfl, mB_at hP hK hU hW⟩⟩ rfl rfl hl.1 rfl (lv_room (Nat.le_of_ble_eq_true rfl)) dX1_weight_42 ⟨Nat.le_of_ble_eq_true rfl, Nat.le_of_ble_eq_true rfl⟩) (fun r hq => ?_)
        have hq := hq.trans (zq3_s hdx1 hdx2 (zD_s (by omega) (by omega)))
        subst hq
        refine zr_ifle (tgt := 52) hx hb (by omega) dX1_weight_45 (by decide) (fun c45 => ?_) (fun c45 => ?_)
        ·
          refine lv_iconst (v := nI 0) hx hb dX1_weight_52 (by decide) ?_
          refine zr_iadd hx hb dX1_weight_53 ?_
          refine lv_istore_n (lv' := [(3, .int (nI (zSize (zNew (n ky) (ps ky) (kn ky sv)) + cn (fun o => decide (0 < zVec (ct ky) (zHit (mk ky) (kn ky sv) o) (n ky))) i + 0))), (0, .ref (ad 0)), (1, .int (nI sv)), (2, .int (nI ky)), (4, .int (nI i))]) hx hb dX1_weight_54 rfl hl (by decide) rfl (fun ls hl => ?_)
          refine lv_iinc (v := nI (i + 1)) (lv' := [(4, .int (nI (i + 1))), (3, .int (nI (zSize (zNew (n ky) (ps ky) (kn ky sv)) + cn (fun o => decide (0 < zVec (ct ky) (zHit (mk ky) (kn ky sv) o) (n ky))) i + 0))), (0, .ref (ad 0)), (1, .int (nI sv)), (2, .int (nI ky))]) hx hb dX1_weight_55 hl (k := 4) rfl (by rw [← nI_1]; rfl) (by decide) rfl (fun ls hl => ?_)
          refine lv_goto (tgt := 27) hx hb dX1_weight_58 (by decide) ?_
          exact ih27 _ _ (by omega) ⟨i + 1, by omega, rfl, by first | (rw [cn_t (f := (fun o => decide (0 < zVec (ct ky) (zHit (mk ky) (kn ky sv) o) (n ky)))) (i := i) (decide_eq_true c45)]; exact lv_sub hl [2, 3, 4, 1, 0] rfl) | (rw [cn_f (f := (fun o => decide (0 < zVec (ct ky) (zHit (mk ky) (kn ky sv) o) (n ky)))) (i := i) (decide_eq_false (by omega))]; exact lv_sub hl [2, 3, 4, 1, 0] rfl)⟩
        ·
          refine lv_iconst (v := nI 1) hx hb dX1_weight_48 (by decide) ?_
          refine lv_goto (tgt := 53) hx hb dX1_weight_49 (by decide) ?_
          refine zr_iadd hx hb dX1_weight_53 ?_
          refine lv_istore_n (lv' := [(3, .int (nI (zSize (zNew (n ky) (ps ky) (kn ky sv)) + cn (fun o => decide (0 < zVec (ct ky) (zHit (mk ky) (kn ky sv) o) (n ky))) i + 1))), (0, .ref (ad 0)), (1, .int (nI sv)), (2, .int (nI ky)), (4, .int (nI i))]) hx hb dX1_weight_54 rfl hl (by decide) rfl (fun ls hl => ?_)
          refine lv_iinc (v := nI (i + 1)) (lv' := [(4, .int (nI (i + 1))), (3, .int (nI (zSize (zNew (n ky) (ps ky) (kn ky sv)) + cn (fun o => decide (0 < zVec (ct ky) (zHit (mk ky) (kn ky sv) o) (n ky))) i + 1))), (0, .ref (ad 0)), (1, .int (nI sv)), (2, .int (nI ky))]) hx hb dX1_weight_55 hl (k := 4) rfl (by rw [← nI_1]; rfl) (by decide) rfl (fun ls hl => ?_)
          refine lv_goto (tgt := 27) hx hb dX1_weight_58 (by decide) ?_
          exact ih27 _ _ (by omega) ⟨i + 1, by omega, rfl, by first | (rw [cn_t (f := (fun o => decide (0 < zVec (ct ky) (zHit (mk ky) (kn ky sv) o) (n ky)))) (i := i) (decide_eq_true c45)]; exact lv_sub hl [2, 3, 4, 1, 0] rfl) | (rw [cn_f (f := (fun o => decide (0 < zVec (ct ky) (zHit (mk ky) (kn ky sv) o) (n ky)))) (i := i) (decide_eq_false (by omega))]; exact lv_sub hl [2, 3, 4, 1, 0] rfl)⟩
    ·
      refine lv_if_ne (tgt := 17) hx hb dX1_weight_12 (by decide) (fun q => absurd q (by decide)) (fun _ => ?_)
      refine lv_iconst (v := (-1)) hx hb dX1_weight_15 (by decide) ?_
      exact W.iret (v := (-1)) hx hb hr (fun t ht hW => ⟨_, rfl, (by first | exact (zq2_1 hdx1).symm | exact (zq2_2 hdx2).symm | exact (by unfold aWeight; rw [zq2_s hdx1 hdx2, show S = i by omega, Nat.add_comm]; first | done | rfl) | exact (by unfold aWeight; rw [zq2_s hdx1 hdx2, Nat.add_comm, show S = i by omega]; first | done | rfl)), ht⟩) (fun q h => by cases h) dX1_weight_16
  ·
    refine lv_if_eq (tgt := 15) hx hb dX1_weight_5 (by decide) (fun _ => ?_) (fun q => absurd q (by decide))
    refine lv_iconst (v := (-1)) hx hb dX1_weight_15 (by decide) ?_
    exact W.iret (v := (-1)) hx hb hr (fun t ht hW => ⟨_, rfl, (by first | exact (zq2_1 hdx1).symm | exact (zq2_2 hdx2).symm | exact (by unfold aWeight; rw [zq2_s hdx1 hdx2, show S = i by omega, Nat.add_comm]; first | done | rfl) | exact (by unfold aWeight; rw [zq2_s hdx1 hdx2, Nat.add_comm, show S = i by omega]; first | done | rfl)), ht⟩) (fun q h => by cases h) dX1_weight_16
