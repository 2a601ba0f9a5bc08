set_option maxHeartbeats 4000000 in
set_option maxRecDepth 100000 in
/-- 1 .. 4, of another number 1 -/
theorem c_X0_allowedParties (l : Launch) (x : Int32) : Met l yX0_allowedParties wsX0_allowedParties ({ frames := 0, cells := 0, slots := 0, locals := 0 }) (va_Pc [.int x] (fun _ => True)) (vp_Si (fun r => r = nI (zP x))) 0 0 (fun _ => False) := by
  refine Met.ofW (cc := cX0_allowedParties) (maxL := 1) (ret := (some .int)) (by decide) rfl ?_
  intro p e s m args below meth c s₁ B hml hv
  obtain ⟨rfl, -⟩ := hv
  have hx := B.exec
  have hb := B.bytes
  have hr := B.returns
  have hts := atoms_spec (ws := wsX0_allowedParties) B.pre
  have hown : s.vm.findClass RX0 = some m.cls := findClass_of_methodNamed B.named
  have hlocks := B.notSynchronized
  have hl := lv_entry ([.int x]) (n := 1) (Nat.le_of_ble_eq_true rfl)
  rw [lg_entry_eq]
  generalize (lg_sl ([.int x]) ++ List.replicate (1 - (lg_sl ([.int x])).length) Slot.unset).toArray = ls at hl ⊢
  have hl : lv_has ls 1 [(0, .int x)] := hl
  refine lv_iload_n hx hb dX0_allowedParties_0 rfl (lv_at hl 0 rfl) ?_
  refine lv_iconst (v := nI 1) hx hb dX0_allowedParties_1 (by decide) ?_
  refine lv_icmp_lt (tgt := 14) hx hb dX0_allowedParties_2 (by decide) (fun c2 => ?_) (fun c2 => ?_)
  ·
    refine lv_iconst (v := nI 1) hx hb dX0_allowedParties_14 (by decide) ?_
    exact W.iret (v := nI 1) hx hb hr (fun t ht hW => ⟨_, rfl, (by first | exact zP_ok c2 c7 | exact (congrArg nI (zP_lo c2)).symm | exact (congrArg nI (zP_hi c7)).symm), ht⟩) (fun q h => by cases h) dX0_allowedParties_15
  ·
    refine lv_iload_n hx hb dX0_allowedParties_5 rfl (lv_at hl 0 rfl) ?_
    refine lv_iconst (v := nI 4) hx hb dX0_allowedParties_6 (by decide) ?_
    refine lv_icmp_gt (tgt := 14) hx hb dX0_allowedParties_7 (by decide) (fun c7 => ?_) (fun c7 => ?_)
    ·
      refine lv_iconst (v := nI 1) hx hb dX0_allowedParties_14 (by decide) ?_
      exact W.iret (v := nI 1) hx hb hr (fun t ht hW => ⟨_, rfl, (by first | exact zP_ok c2 c7 | exact (congrArg nI (zP_lo c2)).symm | exact (congrArg nI (zP_hi c7)).symm), ht⟩) (fun q h => by cases h) dX0_allowedParties_15
    ·
      refine lv_iload_n hx hb dX0_allowedParties_10 rfl (lv_at hl 0 rfl) ?_
      refine lv_goto (tgt := 15) hx hb dX0_allowedParties_11 (by decide) ?_
      exact W.iret (v := x) hx hb hr (fun t ht hW => ⟨_, rfl, (by first | exact zP_ok c2 c7 | exact (congrArg nI (zP_lo c2)).symm | exact (congrArg nI (zP_hi c7)).symm), ht⟩) (fun q h => by cases h) dX0_allowedParties_15
set_option maxHeartbeats 4000000 in
set_option maxRecDepth 100000 in
/-- is there such a one -/
theorem c_X0_isServer (l : Launch) (dC : Nat → ClassId) (dI : Nat → Nat → Nat) (ad : Nat → Nat) (cI cJ cII cJJ : ClassId) (S C : Nat) (n : Nat → Nat) (va : Nat → Nat → Int32) (mk ct ps kn cx : Nat → Nat → Nat) (hS : S ≤ 4) (x : Int32) : Met l yX0_isServer wsX0_isServer ({ frames := 0, cells := 0, slots := 0, locals := 0 }) (va_Pc [.ref (ad 0), .int x] (xB dC dI ad cI cJ cII cJJ S C n va mk ct ps kn cx)) (vp_Si (zIs S x)) 0 0 (fun _ => False) := by
  refine Met.ofW (cc := cX0_isServer) (maxL := 2) (ret := (some .boolean)) (by decide) rfl ?_
  intro p e s m args below meth c s₁ B hml hv
  obtain ⟨rfl, hP, hK⟩ := hv
  have hx := B.exec
  have hb := B.bytes
  have hr := B.returns
  have hts := atoms_spec (ws := wsX0_isServer) B.pre
  have hown : s.vm.findClass RX0 = some m.cls := findClass_of_methodNamed B.named
  have hlocks := B.notSynchronized
  have hin0 : ∀ w ∈ wsX00, w ∈ wsX0_isServer := fun _ h => List.mem_cons_of_mem _ (List.mem_append_right _ h)
  have hl := lv_entry ([.ref (ad 0), .int x]) (n := 2) (Nat.le_of_ble_eq_true rfl)
  rw [lg_entry_eq]
  generalize (lg_sl ([.ref (ad 0), .int x]) ++ List.replicate (2 - (lg_sl ([.ref (ad 0), .int x])).length) Slot.unset).toArray = ls at hl ⊢
  have hl : lv_has ls 2 [(0, .ref (ad 0)), (1, .int x)] := hl
  refine lv_iload_n hx hb dX0_isServer_0 rfl (lv_at hl 1 rfl) ?_
  refine lv_if_lt (tgt := 16) hx hb dX0_isServer_1 (by decide) (fun c1 => ?_) (fun c1 => ?_)
  ·
    refine lv_iconst (v := nI 0) hx hb dX0_isServer_16 (by decide) ?_
    exact W.zret (v := nI 0) hx hb hr (by first | rfl | decide) (fun t ht hW => ⟨_, rfl, (by first | exact Or.inl ⟨rfl, zD_in (by omega) c1 c9⟩ | exact Or.inr ⟨rfl, zD_neg c1⟩ | exact Or.inr ⟨rfl, zD_big (by omega) c9⟩), ht⟩) (fun q h => by cases h) dX0_isServer_17
  ·
    refine lv_iload_n hx hb dX0_isServer_4 rfl (lv_at hl 1 rfl) ?_
    refine lv_aload_n hx hb dX0_isServer_5 rfl (lv_at hl 0 rfl) ?_
    refine va_get (D := (dC, dI)) (ci := 0) (v := .int (nI S)) (C := RX0) (T := TX0) (N := 9) hx hb hts hin0 hown hK hP 0 rfl rfl 0 (by decide) (hts (.fieldLink RX0 15 "DottedSiblings" "servers" "I") (by decide +kernel)) (fun _ h9 => h9) rfl dX0_isServer_6 ?_
    refine lv_icmp_ge (tgt := 16) hx hb dX0_isServer_9 (by decide) (fun c9 => ?_) (fun c9 => ?_)
    ·
      refine lv_iconst (v := nI 0) hx hb dX0_isServer_16 (by decide) ?_
      exact W.zret (v := nI 0) hx hb hr (by first | rfl | decide) (fun t ht hW => ⟨_, rfl, (by first | exact Or.inl ⟨rfl, zD_in (by omega) c1 c9⟩ | exact Or.inr ⟨rfl, zD_neg c1⟩ | exact Or.inr ⟨rfl, zD_big (by omega) c9⟩), ht⟩) (fun q h => by cases h) dX0_isServer_17
    ·
      refine lv_iconst (v := nI 1) hx hb dX0_isServer_12 (by decide) ?_
      refine lv_goto (tgt := 17) hx hb dX0_isServer_13 (by decide) ?_
      exact W.zret (v := nI 1) hx hb hr (by first | rfl | decide) (fun t ht hW => ⟨_, rfl, (by first | exact Or.inl ⟨rfl, zD_in (by omega) c1 c9⟩ | exact Or.inr ⟨rfl, zD_neg c1⟩ | exact Or.inr ⟨rfl, zD_big (by omega) c9⟩), ht⟩) (fun q h => by cases h) dX0_isServer_17
set_option maxHeartbeats 4000000 in
set_option maxRecDepth 100000 in
/-- is there such a one -/
theorem c_X0_isClient (l : Launch) (dC : Nat → ClassId) (dI : Nat → Nat → Nat) (ad : Nat → Nat) (cI cJ cII cJJ : ClassId) (S C : Nat) (n : Nat → Nat) (va : Nat → Nat → Int32) (mk ct ps kn cx : Nat → Nat → Nat) (hC : C ≤ 4) (x : Int32) : Met l yX0_isClient wsX0_isClient ({ frames := 0, cells := 0, slots := 0, locals := 0 }) (va_Pc [.ref (ad 0), .int x] (xB dC dI ad cI cJ cII cJJ S C n va mk ct ps kn cx)) (vp_Si (zIs C x)) 0 0 (fun _ => False) := by
  refine Met.ofW (cc := cX0_isClient) (maxL := 2) (ret := (some .boolean)) (by decide) rfl ?_
  intro p e s m args below meth c s₁ B hml hv
  obtain ⟨rfl, hP, hK⟩ := hv
  have hx := B.exec
  have hb := B.bytes
  have hr := B.returns
  have hts := atoms_spec (ws := wsX0_isClient) B.pre
  have hown : s.vm.findClass RX0 = some m.cls := findClass_of_methodNamed B.named
  have hlocks := B.notSynchronized
  have hin0 : ∀ w ∈ wsX00, w ∈ wsX0_isClient := fun _ h => List.mem_cons_of_mem _ (List.mem_append_right _ h)
  have hl := lv_entry ([.ref (ad 0), .int x]) (n := 2) (Nat.le_of_ble_eq_true rfl)
  rw [lg_entry_eq]
  generalize (lg_sl ([.ref (ad 0), .int x]) ++ List.replicate (2 - (lg_sl ([.ref (ad 0), .int x])).length) Slot.unset).toArray = ls at hl ⊢
  have hl : lv_has ls 2 [(0, .ref (ad 0)), (1, .int x)] := hl
  refine lv_iload_n hx hb dX0_isClient_0 rfl (lv_at hl 1 rfl) ?_
  refine lv_if_lt (tgt := 16) hx hb dX0_isClient_1 (by decide) (fun c1 => ?_) (fun c1 => ?_)
  ·
    refine lv_iconst (v := nI 0) hx hb dX0_isClient_16 (by decide) ?_
    exact W.zret (v := nI 0) hx hb hr (by first | rfl | decide) (fun t ht hW => ⟨_, rfl, (by first | exact Or.inl ⟨rfl, zD_in (by omega) c1 c9⟩ | exact Or.inr ⟨rfl, zD_neg c1⟩ | exact Or.inr ⟨rfl, zD_big (by omega) c9⟩), ht⟩) (fun q h => by cases h) dX0_isClient_17
  ·
    refine lv_iload_n hx hb dX0_isClient_4 rfl (lv_at hl 1 rfl) ?_
    refine lv_aload_n hx hb dX0_isClient_5 rfl (lv_at hl 0 rfl) ?_
    refine va_get (D := (dC, dI)) (ci := 0) (v := .int (nI C)) (C := RX0) (T := TX0) (N := 9) hx hb hts hin0 hown hK hP 0 rfl rfl 1 (by decide) (hts (.fieldLink RX0 19 "DottedSiblings" "clients" "I") (by decide +kernel)) (fun _ h9 => h9) rfl dX0_isClient_6 ?_
    refine lv_icmp_ge (tgt := 16) hx hb dX0_isClient_9 (by decide) (fun c9 => ?_) (fun c9 => ?_)
    ·
      refine lv_iconst (v := nI 0) hx hb dX0_isClient_16 (by decide) ?_
      exact W.zret (v := nI 0) hx hb hr (by first | rfl | decide) (fun t ht hW => ⟨_, rfl, (by first | exact Or.inl ⟨rfl, zD_in (by omega) c1 c9⟩ | exact Or.inr ⟨rfl, zD_neg c1⟩ | exact Or.inr ⟨rfl, zD_big (by omega) c9⟩), ht⟩) (fun q h => by cases h) dX0_isClient_17
    ·
      refine lv_iconst (v := nI 1) hx hb dX0_isClient_12 (by decide) ?_
      refine lv_goto (tgt := 17) hx hb dX0_isClient_13 (by decide) ?_
      exact W.zret (v := nI 1) hx hb hr (by first | rfl | decide) (fun t ht hW => ⟨_, rfl, (by first | exact Or.inl ⟨rfl, zD_in (by omega) c1 c9⟩ | exact Or.inr ⟨rfl, zD_neg c1⟩ | exact Or.inr ⟨rfl, zD_big (by omega) c9⟩), ht⟩) (fun q h => by cases h) dX0_isClient_17
set_option maxHeartbeats 4000000 in
set_option maxRecDepth 100000 in
/-- is there such a key -/
theorem c_X0_isKey (l : Launch) (x : Int32) : Met l yX0_isKey wsX0_isKey ({ frames := 0, cells := 0, slots := 0, locals := 0 }) (va_Pc [.int x] (fun _ => True)) (vp_Si (zIs 3 x)) 0 0 (fun _ => False) := by
  refine Met.ofW (cc := cX0_isKey) (maxL := 1) (ret := (some .boolean)) (by decide) rfl ?_
  intro p e s m args below meth c s₁ B hml hv
  obtain ⟨rfl, -⟩ := hv
  have hx := B.exec
  have hb := B.bytes
  have hr := B.returns
  have hts := atoms_spec (ws := wsX0_isKey) B.pre
  have hown : s.vm.findClass RX0 = some m.cls := findClass_of_methodNamed B.named
  have hlocks := B.notSynchronized
  have hl := lv_entry ([.int x]) (n := 1) (Nat.le_of_ble_eq_true rfl)
  rw [lg_entry_eq]
  generalize (lg_sl ([.int x]) ++ List.replicate (1 - (lg_sl ([.int x])).length) Slot.unset).toArray = ls at hl ⊢
  have hl : lv_has ls 1 [(0, .int x)] := hl
  refine lv_iload_n hx hb dX0_isKey_0 rfl (lv_at hl 0 rfl) ?_
  refine lv_if_lt (tgt := 13) hx hb dX0_isKey_1 (by decide) (fun c1 => ?_) (fun c1 => ?_)
  ·
    refine lv_iconst (v := nI 0) hx hb dX0_isKey_13 (by decide) ?_
    exact W.zret (v := nI 0) hx hb hr (by first | rfl | decide) (fun t ht hW => ⟨_, rfl, (by first | exact Or.inl ⟨rfl, zD_in (by omega) c1 c6⟩ | exact Or.inr ⟨rfl, zD_neg c1⟩ | exact Or.inr ⟨rfl, zD_big (by omega) c6⟩), ht⟩) (fun q h => by cases h) dX0_isKey_14
  ·
    refine lv_iload_n hx hb dX0_isKey_4 rfl (lv_at hl 0 rfl) ?_
    refine lv_iconst (v := nI 3) hx hb dX0_isKey_5 (by decide) ?_
    refine lv_icmp_ge (tgt := 13) hx hb dX0_isKey_6 (by decide) (fun c6 => ?_) (fun c6 => ?_)
    ·
      refine lv_iconst (v := nI 0) hx hb dX0_isKey_13 (by decide) ?_
      exact W.zret (v := nI 0) hx hb hr (by first | rfl | decide) (fun t ht hW => ⟨_, rfl, (by first | exact Or.inl ⟨rfl, zD_in (by omega) c1 c6⟩ | exact Or.inr ⟨rfl, zD_neg c1⟩ | exact Or.inr ⟨rfl, zD_big (by omega) c6⟩), ht⟩) (fun q h => by cases h) dX0_isKey_14
    ·
      refine lv_iconst (v := nI 1) hx hb dX0_isKey_9 (by decide) ?_
      refine lv_goto (tgt := 14) hx hb dX0_isKey_10 (by decide) ?_
      exact W.zret (v := nI 1) hx hb hr (by first | rfl | decide) (fun t ht hW => ⟨_, rfl, (by first | exact Or.inl ⟨rfl, zD_in (by omega) c1 c6⟩ | exact Or.inr ⟨rfl, zD_neg c1⟩ | exact Or.inr ⟨rfl, zD_big (by omega) c6⟩), ht⟩) (fun q h => by cases h) dX0_isKey_14
set_option maxHeartbeats 4000000 in
set_option maxRecDepth 100000 in
/-- a bit of a set -/
theorem c_X0_has (l : Launch) (a w : Nat) (ha : a < 2 ^ 64) (hw : w < 64) : Met l yX0_has wsX0_has ({ frames := 0, cells := 0, slots := 0, locals := 0 }) (va_Pc [.long (lN a), .int (nI w)] (fun _ => True)) (vp_Si (fun r => (r = 1 ∧ a.testBit w = true) ∨ (r = 0 ∧ a.testBit w = false))) 0 0 (fun _ => False) := by
  refine Met.ofW (cc := cX0_has) (maxL := 3) (ret := (some .boolean)) (by decide) rfl ?_
  intro p e s m args below meth c s₁ B hml hv
  obtain ⟨rfl, -⟩ := hv
  have hx := B.exec
  have hb := B.bytes
  have hr := B.returns
  have hts := atoms_spec (ws := wsX0_has) B.pre
  have hown : s.vm.findClass RX0 = some m.cls := findClass_of_methodNamed B.named
  have hlocks := B.notSynchronized
  have hl := lv_entry ([.long (lN a), .int (nI w)]) (n := 3) (Nat.le_of_ble_eq_true rfl)
  rw [lg_entry_eq]
  generalize (lg_sl ([.long (lN a), .int (nI w)]) ++ List.replicate (3 - (lg_sl ([.long (lN a), .int (nI w)])).length) Slot.unset).toArray = ls at hl ⊢
  have hl : lv_has ls 3 [(0, .long (lN a)), (2, .int (nI w))] := hl
  refine lv_lload_n hx hb dX0_has_0 rfl (lv_at hl 0 rfl) ?_
  refine lv_iload_n hx hb dX0_has_1 rfl (lv_at hl 1 rfl) ?_
  refine zr_lushr hx hb ha hw dX0_has_2 ?_
  refine lv_lconst (v := lN 1) hx hb dX0_has_3 (by decide) ?_
  refine zr_land1 hx hb dX0_has_4 ?_
  refine lv_lconst (v := lN 0) hx hb dX0_has_5 (by decide) ?_
  refine W.lcmp hx hb dX0_has_6 ?_
  have ht' := Nat.testBit_eq_decide_div_mod_eq (x := a) (i := w)
  rcases Nat.mod_two_eq_zero_or_one (a / 2 ^ w) with h | h
  ·
    rw [h] at ht' ⊢
    refine lv_if_eq (tgt := 14) hx hb dX0_has_7 (by decide) (fun _ => ?_) (fun q => absurd (by decide) q)
    refine lv_iconst (v := nI 0) hx hb dX0_has_14 (by decide) ?_
    exact W.zret (v := nI 0) hx hb hr (by first | rfl | decide) (fun t ht hW => ⟨_, rfl, (by first | exact Or.inl ⟨rfl, by rw [ht']; rfl⟩ | exact Or.inr ⟨rfl, by rw [ht']; rfl⟩), ht⟩) (fun q h => by cases h) dX0_has_15
  ·
    rw [h] at ht' ⊢
    refine lv_if_eq (tgt := 14) hx hb dX0_has_7 (by decide) (fun q => absurd q (by decide)) (fun _ => ?_)
    refine lv_iconst (v := nI 1) hx hb dX0_has_10 (by decide) ?_
    refine lv_goto (tgt := 15) hx hb dX0_has_11 (by decide) ?_
    exact W.zret (v := nI 1) hx hb hr (by first | rfl | decide) (fun t ht hW => ⟨_, rfl, (by first | exact Or.inl ⟨rfl, by rw [ht']; rfl⟩ | exact Or.inr ⟨rfl, by rw [ht']; rfl⟩), ht⟩) (fun q h => by cases h) dX0_has_15
set_option maxHeartbeats 4000000 in
set_option maxRecDepth 100000 in
/-- the greatest of a set -/
theorem c_X0_greatestOf (l : Launch) (dC : Nat → ClassId) (dI : Nat → Nat → Nat) (ad : Nat → Nat) (cI cJ cII cJJ : ClassId) (S C : Nat) (n : Nat → Nat) (va : Nat → Nat → Int32) (mk ct ps kn cx : Nat → Nat → Nat) (k set : Nat) (hk : k < 3) (hset : set < 2 ^ 63) (hn : n k ≤ 40) : Met l yX0_greatestOf wsX0_greatestOf ({ frames := 1, cells := 0, slots := 0, locals := 22 }) (va_Pc [.ref (ad 0), .int (nI k), .long (lN set)] (xB dC dI ad cI cJ cII cJJ S C n va mk ct ps kn cx)) (vp_Sl (fun r => r = lN (zNew (n k) (ps k) set))) 0 0 (fun _ => False) := by
  refine Met.ofW (cc := cX0_greatestOf) (maxL := 7) (ret := (some .long)) (by decide) rfl ?_
  intro p e s m args below meth c s₁ B hml hv
  obtain ⟨rfl, hP, hK⟩ := hv
  have hx := B.exec
  have hb := B.bytes
  have hr := B.returns
  have hts := atoms_spec (ws := wsX0_greatestOf) B.pre
  have hown : s.vm.findClass RX0 = some m.cls := findClass_of_methodNamed B.named
  have hlocks := B.notSynchronized
  have hin0 : ∀ w ∈ wsX00, w ∈ wsX0_greatestOf := fun _ h => List.mem_cons_of_mem _ (List.mem_append_right _ h)
  have hl := lv_entry ([.ref (ad 0), .int (nI k), .long (lN set)]) (n := 7) (Nat.le_of_ble_eq_true rfl)
  rw [lg_entry_eq]
  generalize (lg_sl ([.ref (ad 0), .int (nI k), .long (lN set)]) ++ List.replicate (7 - (lg_sl ([.ref (ad 0), .int (nI k), .long (lN set)])).length) Slot.unset).toArray = ls at hl ⊢
  have hl : lv_has ls 7 [(0, .ref (ad 0)), (1, .int (nI k)), (2, .long (lN set))] := hl
  refine lv_lconst (v := lN 0) hx hb dX0_greatestOf_0 (by decide) ?_
  refine lv_lstore (lv' := [(4, .long (lN 0)), (0, .ref (ad 0)), (1, .int (nI k)), (2, .long (lN set))]) hx hb dX0_greatestOf_1 hl (by decide) rfl (fun ls hl => ?_)
  refine lv_iconst (v := nI 0) hx hb dX0_greatestOf_3 (by decide) ?_
  refine lv_istore (lv' := [(6, .int (nI 0)), (4, .long (lN 0)), (0, .ref (ad 0)), (1, .int (nI k)), (2, .long (lN set))]) hx hb dX0_greatestOf_4 hl (by decide) rfl (fun ls hl => ?_)
  refine zr_loop (pc := 6) (fun d ls => ∃ i, i ≤ n k ∧ d = n k - i ∧ lv_has ls 7 [(0, .ref (ad 0)), (1, .int (nI k)), (2, .long (lN set)), (4, .long (lN (zRep (ps k) set i))), (6, .int (nI i))]) ?_ _ _ ⟨0, Nat.zero_le _, rfl, lv_sub hl [2, 3, 4, 1, 0] rfl⟩
  rintro d ls ⟨i, hi, rfl, hl⟩ ih6
  refine lv_iload hx hb dX0_greatestOf_6 (lv_at hl 4 rfl) ?_
  refine lv_aload_n hx hb dX0_greatestOf_8 rfl (lv_at hl 0 rfl) ?_
  refine va_get (D := (dC, dI)) (ci := 0) (v := .ref (ad 1)) (C := RX0) (T := TX0) (N := 9) hx hb hts hin0 hown hK hP 0 rfl rfl 2 (by decide) (hts (.fieldLink RX0 22 "DottedSiblings" "written" "[I") (by decide +kernel)) (fun _ h9 => h9) rfl dX0_greatestOf_9 ?_
  refine lv_iload_n hx hb dX0_greatestOf_12 rfl (lv_at hl 1 rfl) ?_
  refine zr_iald (v := nI (n k)) hx hb hK hP 1 0 rfl rfl (by omega) (by omega) rfl dX0_greatestOf_13 ?_
  refine zr_ige (tgt := 46) hx hb (by omega) (by omega) dX0_greatestOf_14 (by decide) (fun c14 => ?_) (fun c14 => ?_)
  ·
    refine lv_lload_n hx hb dX0_greatestOf_46 rfl (lv_at hl 2 rfl) ?_
    refine lv_lload hx hb dX0_greatestOf_47 (lv_at hl 3 rfl) ?_
    refine lv_ldc2 (v := (-1)) hx hb hown (hts (.constantLong RX0 83 (-1)) (by decide +kernel)) dX0_greatestOf_49 ?_
    refine lv_lxor hx hb dX0_greatestOf_52 ?_
    refine lv_land hx hb dX0_greatestOf_53 ?_
    exact W.lret (v := (lN set) &&& ((lN (zRep (ps k) set i)) ^^^ (-1))) hx hb hr (fun t ht hW => ⟨_, rfl, (by first | exact (by rw [show i = n k by omega]; exact zNew_l _ _)), ht⟩) (fun q h => by cases h) dX0_greatestOf_54
  ·
    refine lv_lload_n hx hb dX0_greatestOf_17 rfl (lv_at hl 2 rfl) ?_
    refine lv_iload hx hb dX0_greatestOf_18 (lv_at hl 4 rfl) ?_
    refine vp_callSi (W.runS (As := [.long (lN set), .int (nI i)]) (rest := []) ⟨hx, hb, hml, hown, hts⟩ (c_X0_has l set i (by omega) (by omega)) (va_cwS 2 hts gX0_greatestOf_X0_has rfl rfl rfl (by decide +kernel) ⟨Nat.le_of_ble_eq_true rfl, Nat.le_of_ble_eq_true rfl⟩) ⟨zB_blind, fun U hU hW => ⟨rfl, trivial⟩⟩ rfl rfl hl.1 rfl (lv_room (Nat.le_of_ble_eq_true rfl)) dX0_greatestOf_20 ⟨Nat.le_of_ble_eq_true rfl, Nat.le_of_ble_eq_true rfl⟩) (fun r hq => ?_)
    rcases hq with ⟨rfl, c20⟩ | ⟨rfl, c20⟩
    ·
      refine lv_if_eq (tgt := 40) hx hb dX0_greatestOf_23 (by decide) (fun q => absurd q (by decide)) (fun _ => ?_)
      refine lv_lload hx hb dX0_greatestOf_26 (lv_at hl 3 rfl) ?_
      refine lv_aload_n hx hb dX0_greatestOf_28 rfl (lv_at hl 0 rfl) ?_
      refine va_get (D := (dC, dI)) (ci := 0) (v := .ref (ad 5)) (C := RX0) (T := TX0) (N := 9) hx hb hts hin0 hown hK hP 0 rfl rfl 6 (by decide) (hts (.fieldLink RX0 39 "DottedSiblings" "pasts" "[[J") (by decide +kernel)) (fun _ h9 => h9) rfl dX0_greatestOf_29 ?_
      refine lv_iload_n hx hb dX0_greatestOf_32 rfl (lv_at hl 1 rfl) ?_
      refine zr_aald (r := ad (17 + k)) hx hb hK hP 5 3 rfl rfl (by omega) (by decide) (zo_at ad 17 (by omega)) dX0_greatestOf_33 ?_
      refine lv_iload hx hb dX0_greatestOf_34 (lv_at hl 4 rfl) ?_
      refine zr_lald (v := lN (ps k i)) hx hb hK hP (17 + k) 1 (xw_ps (by omega)) rfl (by omega) (by omega) rfl dX0_greatestOf_36 ?_
      refine zr_lor hx hb dX0_greatestOf_37 ?_
      refine lv_lstore (lv' := [(4, .long (lN ((zRep (ps k) set i) ||| (ps k i)))), (0, .ref (ad 0)), (1, .int (nI k)), (2, .long (lN set)), (6, .int (nI i))]) hx hb dX0_greatestOf_38 hl (by decide) rfl (fun ls hl => ?_)
      refine lv_iinc (v := nI (i + 1)) (lv' := [(6, .int (nI (i + 1))), (4, .long (lN ((zRep (ps k) set i) ||| (ps k i)))), (0, .ref (ad 0)), (1, .int (nI k)), (2, .long (lN set))]) hx hb dX0_greatestOf_40 hl (k := 4) rfl (by rw [← nI_1]; rfl) (by decide) rfl (fun ls hl => ?_)
      refine lv_goto (tgt := 6) hx hb dX0_greatestOf_43 (by decide) ?_
      exact ih6 _ _ (by omega) ⟨i + 1, by omega, rfl, by first | (rw [zRep_t c20]; exact lv_sub hl [2, 3, 4, 1, 0] rfl) | (rw [zRep_f c20]; exact lv_sub hl [2, 3, 4, 1, 0] rfl)⟩
    ·
      refine lv_if_eq (tgt := 40) hx hb dX0_greatestOf_23 (by decide) (fun _ => ?_) (fun q => absurd q (by decide))
      refine lv_iinc (v := nI (i + 1)) (lv' := [(6, .int (nI (i + 1))), (0, .ref (ad 0)), (1, .int (nI k)), (2, .long (lN set)), (4, .long (lN (zRep (ps k) set i)))]) hx hb dX0_greatestOf_40 hl (k := 4) rfl (by rw [← nI_1]; rfl) (by decide) rfl (fun ls hl => ?_)
      refine lv_goto (tgt := 6) hx hb dX0_greatestOf_43 (by decide) ?_
      exact ih6 _ _ (by omega) ⟨i + 1, by omega, rfl, by first | (rw [zRep_t c20]; exact lv_sub hl [1, 2, 3, 4, 0] rfl) | (rw [zRep_f c20]; exact lv_sub hl [1, 2, 3, 4, 0] rfl)⟩
set_option maxHeartbeats 4000000 in
set_option maxRecDepth 100000 in
/-- the i-th sibling of a set -/
theorem c_X0_siblingAt (l : Launch) (dC : Nat → ClassId) (dI : Nat → Nat → Nat) (ad : Nat → Nat) (cI cJ cII cJJ : ClassId) (S C : Nat) (n : Nat → Nat) (va : Nat → Nat → Int32) (mk ct ps kn cx : Nat → Nat → Nat) (k set : Nat) (x : Int32) (hk : k < 3) (hset : set < 2 ^ 63) (hn : n k ≤ 40) (hS : S ≤ 4) (hmk : ∀ w, w < n k → mk k w < S) : Met l yX0_siblingAt wsX0_siblingAt ({ frames := 2, cells := 0, slots := 0, locals := 48 }) (va_Pc [.ref (ad 0), .int (nI k), .long (lN set), .int x] (xB dC dI ad cI cJ cII cJJ S C n va mk ct ps kn cx)) (vp_Si (fun r => r = zW (zAt S (n k) (mk k) (zNew (n k) (ps k) set) x))) 0 0 (fun _ => False) := by
  refine Met.ofW (cc := cX0_siblingAt) (maxL := 10) (ret := (some .int)) (by decide) rfl ?_
  intro p e s m args below meth c s₁ B hml hv
  obtain ⟨rfl, hP, hK⟩ := hv
  have hx := B.exec
  have hb := B.bytes
  have hr := B.returns
  have hts := atoms_spec (ws := wsX0_siblingAt) B.pre
  have hown : s.vm.findClass RX0 = some m.cls := findClass_of_methodNamed B.named
  have hlocks := B.notSynchronized
  have hin0 : ∀ w ∈ wsX00, w ∈ wsX0_siblingAt := fun _ h => List.mem_cons_of_mem _ (List.mem_append_right _ h)
  have hl := lv_entry ([.ref (ad 0), .int (nI k), .long (lN set), .int x]) (n := 10) (Nat.le_of_ble_eq_true rfl)
  rw [lg_entry_eq]
  generalize (lg_sl ([.ref (ad 0), .int (nI k), .long (lN set), .int x]) ++ List.replicate (10 - (lg_sl ([.ref (ad 0), .int (nI k), .long (lN set), .int x])).length) Slot.unset).toArray = ls at hl ⊢
  have hl : lv_has ls 10 [(0, .ref (ad 0)), (1, .int (nI k)), (2, .long (lN set)), (4, .int x)] := hl
  refine lv_aload_n hx hb dX0_siblingAt_0 rfl (lv_at hl 0 rfl) ?_
  refine lv_iload_n hx hb dX0_siblingAt_1 rfl (lv_at hl 1 rfl) ?_
  refine lv_lload_n hx hb dX0_siblingAt_2 rfl (lv_at hl 2 rfl) ?_
  refine vp_callSl (W.runV (As := [.int (nI k), .long (lN set)]) (rest := []) ⟨hx, hb, hml, hown, hts⟩ (c_X0_greatestOf l dC dI ad cI cJ cII cJJ S C n va mk ct ps kn cx k set (by omega) (by omega) hn) (cwV 2 hts gX0_siblingAt_X0_greatestOf rfl rfl rfl (by decide +kernel) ⟨Nat.le_of_ble_eq_true rfl, Nat.le_of_ble_eq_true rfl⟩) ⟨xB_blind, va_recv hK hP (ci := 0) (q0 := 0) rfl rfl, fun U hU hW => ⟨rfl, xB_at hP hK hU hW⟩⟩ rfl rfl hl.1 rfl (lv_room (Nat.le_of_ble_eq_true rfl)) dX0_siblingAt_3 ⟨Nat.le_of_ble_eq_true rfl, Nat.le_of_ble_eq_true rfl⟩) (fun r hq => ?_)
  subst hq
  refine lv_lstore (lv' := [(5, .long (lN (zNew (n k) (ps k) set))), (0, .ref (ad 0)), (1, .int (nI k)), (2, .long (lN set)), (4, .int x)]) hx hb dX0_siblingAt_6 hl (by decide) rfl (fun ls hl => ?_)
  refine lv_iconst (v := nI 0) hx hb dX0_siblingAt_8 (by decide) ?_
  refine lv_istore (lv' := [(7, .int (nI 0)), (5, .long (lN (zNew (n k) (ps k) set))), (0, .ref (ad 0)), (1, .int (nI k)), (2, .long (lN set)), (4, .int x)]) hx hb dX0_siblingAt_9 hl (by decide) rfl (fun ls hl => ?_)
  refine lv_iconst (v := nI 0) hx hb dX0_siblingAt_11 (by decide) ?_
  refine lv_istore (lv' := [(8, .int (nI 0)), (7, .int (nI 0)), (5, .long (lN (zNew (n k) (ps k) set))), (0, .ref (ad 0)), (1, .int (nI k)), (2, .long (lN set)), (4, .int x)]) hx hb dX0_siblingAt_12 hl (by decide) rfl (fun ls hl => ?_)
  refine zr_loop (pc := 14) (fun d ls => ∃ s9 seen, s9 ≤ S ∧ seen ≤ 40 * s9 ∧ zOut (zHit (mk k) (zNew (n k) (ps k) set)) (n k) x (S - s9) s9 seen = zOut (zHit (mk k) (zNew (n k) (ps k) set)) (n k) x S 0 0 ∧ d = S - s9 ∧ lv_has ls 10 [(0, .ref (ad 0)), (1, .int (nI k)), (4, .int x), (5, .long (lN (zNew (n k) (ps k) set))), (7, .int (nI seen)), (8, .int (nI s9))]) ?_ _ _ ⟨0, 0, Nat.zero_le _, Nat.zero_le _, rfl, rfl, lv_sub hl [3, 4, 6, 2, 1, 0] rfl⟩
  rintro d ls ⟨s9, seen, hs9, hseen, he, rfl, hl⟩ ih14
  refine lv_iload hx hb dX0_siblingAt_14 (lv_at hl 5 rfl) ?_
  refine lv_aload_n hx hb dX0_siblingAt_16 rfl (lv_at hl 0 rfl) ?_
  refine va_get (D := (dC, dI)) (ci := 0) (v := .int (nI S)) (C := RX0) (T := TX0) (N := 9) hx hb hts hin0 hown hK hP 0 rfl rfl 0 (by decide) (hts (.fieldLink RX0 15 "DottedSiblings" "servers" "I") (by decide +kernel)) (fun _ h9 => h9) rfl dX0_siblingAt_17 ?_
  refine zr_ige (tgt := 86) hx hb (by omega) (by omega) dX0_siblingAt_20 (by decide) (fun c20 => ?_) (fun c20 => ?_)
  ·
    refine lv_iconst (v := (-1)) hx hb dX0_siblingAt_86 (by decide) ?_
    exact W.iret (v := (-1)) hx hb hr (fun t ht hW => ⟨_, rfl, (by first | exact (by unfold zAt; rw [← he, show S - s9 = 0 by omega]; rfl)), ht⟩) (fun q h => by cases h) dX0_siblingAt_87
  ·
    refine lv_iconst (v := nI 0) hx hb dX0_siblingAt_23 (by decide) ?_
    refine lv_istore (lv' := [(9, .int (nI 0)), (0, .ref (ad 0)), (1, .int (nI k)), (4, .int x), (5, .long (lN (zNew (n k) (ps k) set))), (7, .int (nI seen)), (8, .int (nI s9))]) hx hb dX0_siblingAt_24 hl (by decide) rfl (fun ls hl => ?_)
    refine zr_loop (pc := 26) (fun d ls => ∃ w seen2, w ≤ n k ∧ seen2 ≤ seen + w ∧ zIn ((zHit (mk k) (zNew (n k) (ps k) set)) s9) x (n k - w) w seen2 = zIn ((zHit (mk k) (zNew (n k) (ps k) set)) s9) x (n k) 0 seen ∧ d = n k - w ∧ lv_has ls 10 [(0, .ref (ad 0)), (1, .int (nI k)), (4, .int x), (5, .long (lN (zNew (n k) (ps k) set))), (7, .int (nI seen2)), (8, .int (nI s9)), (9, .int (nI w))]) ?_ _ _ ⟨0, seen, Nat.zero_le _, Nat.le_refl _, rfl, rfl, lv_sub hl [1, 2, 3, 4, 5, 6, 0] rfl⟩
    rintro d ls ⟨w, seen2, hw, hseen2, he2, rfl, hl⟩ ih26
    refine lv_iload hx hb dX0_siblingAt_26 (lv_at hl 6 rfl) ?_
    refine lv_aload_n hx hb dX0_siblingAt_28 rfl (lv_at hl 0 rfl) ?_
    refine va_get (D := (dC, dI)) (ci := 0) (v := .ref (ad 1)) (C := RX0) (T := TX0) (N := 9) hx hb hts hin0 hown hK hP 0 rfl rfl 2 (by decide) (hts (.fieldLink RX0 22 "DottedSiblings" "written" "[I") (by decide +kernel)) (fun _ h9 => h9) rfl dX0_siblingAt_29 ?_
    refine lv_iload_n hx hb dX0_siblingAt_32 rfl (lv_at hl 1 rfl) ?_
    refine zr_iald (v := nI (n k)) hx hb hK hP 1 0 rfl rfl (by omega) (by omega) rfl dX0_siblingAt_33 ?_
    refine zr_ige (tgt := 80) hx hb (by omega) (by omega) dX0_siblingAt_34 (by decide) (fun c34 => ?_) (fun c34 => ?_)
    ·
      refine lv_iinc (v := nI (s9 + 1)) (lv' := [(8, .int (nI (s9 + 1))), (0, .ref (ad 0)), (1, .int (nI k)), (4, .int x), (5, .long (lN (zNew (n k) (ps k) set))), (7, .int (nI seen2)), (9, .int (nI w))]) hx hb dX0_siblingAt_80 hl (k := 5) rfl (by rw [← nI_1]; rfl) (by decide) rfl (fun ls hl => ?_)
      refine lv_goto (tgt := 14) hx hb dX0_siblingAt_83 (by decide) ?_
      exact ih14 _ _ (by omega) ⟨s9 + 1, seen2, by omega, by omega, (zOut_next (by omega) (by rw [← he2, show n k - w = 0 by omega]; rfl)).symm.trans he, rfl, lv_sub hl [1, 2, 3, 4, 5, 0] rfl⟩
    ·
      have hm9 := hmk w (by omega)
      have hz9 := zNew_le (n k) (ps k) set
      refine lv_aload_n hx hb dX0_siblingAt_37 rfl (lv_at hl 0 rfl) ?_
      refine va_get (D := (dC, dI)) (ci := 0) (v := .ref (ad 3)) (C := RX0) (T := TX0) (N := 9) hx hb hts hin0 hown hK hP 0 rfl rfl 4 (by decide) (hts (.fieldLink RX0 31 "DottedSiblings" "makers" "[[I") (by decide +kernel)) (fun _ h9 => h9) rfl dX0_siblingAt_38 ?_
      refine lv_iload_n hx hb dX0_siblingAt_41 rfl (lv_at hl 1 rfl) ?_
      refine zr_aald (r := ad (11 + k)) hx hb hK hP 3 2 rfl rfl (by omega) (by decide) (zo_at ad 11 (by omega)) dX0_siblingAt_42 ?_
      refine lv_iload hx hb dX0_siblingAt_43 (lv_at hl 6 rfl) ?_
      refine zr_iald (v := nI (mk k w)) hx hb hK hP (11 + k) 0 (xw_mk (by omega)) rfl (by omega) (by omega) rfl dX0_siblingAt_45 ?_
      refine lv_iload hx hb dX0_siblingAt_46 (lv_at hl 5 rfl) ?_
      refine zr_ine (tgt := 74) hx hb (by omega) (by omega) dX0_siblingAt_48 (by decide) (fun c48 => ?_) (fun c48 => ?_)
      ·
        refine lv_iinc (v := nI (w + 1)) (lv' := [(9, .int (nI (w + 1))), (0, .ref (ad 0)), (1, .int (nI k)), (4, .int x), (5, .long (lN (zNew (n k) (ps k) set))), (7, .int (nI seen2)), (8, .int (nI s9))]) hx hb dX0_siblingAt_74 hl (k := 6) rfl (by rw [← nI_1]; rfl) (by decide) rfl (fun ls hl => ?_)
        refine lv_goto (tgt := 26) hx hb dX0_siblingAt_77 (by decide) ?_
        first | exact ih26 _ _ (by omega) ⟨w + 1, seen2 + 1, by omega, by omega, (zIn_go (by omega) (zHit_t c48 c55) c65).symm.trans he2, rfl, lv_sub hl [1, 2, 3, 4, 5, 6, 0] rfl⟩ | exact ih26 _ _ (by omega) ⟨w + 1, seen2, by omega, by omega, (zIn_skip (by omega) (zHit_n c48)).symm.trans he2, rfl, lv_sub hl [1, 2, 3, 4, 5, 6, 0] rfl⟩ | exact ih26 _ _ (by omega) ⟨w + 1, seen2, by omega, by omega, (zIn_skip (by omega) (zHit_b c55)).symm.trans he2, rfl, lv_sub hl [1, 2, 3, 4, 5, 6, 0] rfl⟩
      ·
        refine lv_lload hx hb dX0_siblingAt_51 (lv_at hl 3 rfl) ?_
        refine lv_iload hx hb dX0_siblingAt_53 (lv_at hl 6 rfl) ?_
        refine vp_callSi (W.runS (As := [.long (lN (zNew (n k) (ps k) set)), .int (nI w)]) (rest := []) ⟨hx, hb, hml, hown, hts⟩ (c_X0_has l (zNew (n k) (ps k) set) w (by omega) (by omega)) (va_cwS 2 hts gX0_siblingAt_X0_has rfl rfl rfl (by decide +kernel) ⟨Nat.le_of_ble_eq_true rfl, Nat.le_of_ble_eq_true rfl⟩) ⟨zB_blind, fun U hU hW => ⟨rfl, trivial⟩⟩ rfl rfl hl.1 rfl (lv_room (Nat.le_of_ble_eq_true rfl)) dX0_siblingAt_55 ⟨Nat.le_of_ble_eq_true rfl, Nat.le_of_ble_eq_true rfl⟩) (fun r hq => ?_)
        rcases hq with ⟨rfl, c55⟩ | ⟨rfl, c55⟩
        ·
          refine lv_if_eq (tgt := 74) hx hb dX0_siblingAt_58 (by decide) (fun q => absurd q (by decide)) (fun _ => ?_)
          refine lv_iload hx hb dX0_siblingAt_61 (lv_at hl 4 rfl) ?_
          refine lv_iload hx hb dX0_siblingAt_63 (lv_at hl 2 rfl) ?_
          refine lv_icmp_ne (tgt := 71) hx hb dX0_siblingAt_65 (by decide) (fun c65 => ?_) (fun c65 => ?_)
          ·
            refine lv_iinc (v := nI (seen2 + 1)) (lv' := [(7, .int (nI (seen2 + 1))), (0, .ref (ad 0)), (1, .int (nI k)), (4, .int x), (5, .long (lN (zNew (n k) (ps k) set))), (8, .int (nI s9)), (9, .int (nI w))]) hx hb dX0_siblingAt_71 hl (k := 4) rfl (by rw [← nI_1]; rfl) (by decide) rfl (fun ls hl => ?_)
            refine lv_iinc (v := nI (w + 1)) (lv' := [(9, .int (nI (w + 1))), (7, .int (nI (seen2 + 1))), (0, .ref (ad 0)), (1, .int (nI k)), (4, .int x), (5, .long (lN (zNew (n k) (ps k) set))), (8, .int (nI s9))]) hx hb dX0_siblingAt_74 hl (k := 6) rfl (by rw [← nI_1]; rfl) (by decide) rfl (fun ls hl => ?_)
            refine lv_goto (tgt := 26) hx hb dX0_siblingAt_77 (by decide) ?_
            first | exact ih26 _ _ (by omega) ⟨w + 1, seen2 + 1, by omega, by omega, (zIn_go (by omega) (zHit_t c48 c55) c65).symm.trans he2, rfl, lv_sub hl [2, 3, 4, 5, 1, 6, 0] rfl⟩ | exact ih26 _ _ (by omega) ⟨w + 1, seen2, by omega, by omega, (zIn_skip (by omega) (zHit_n c48)).symm.trans he2, rfl, lv_sub hl [2, 3, 4, 5, 1, 6, 0] rfl⟩ | exact ih26 _ _ (by omega) ⟨w + 1, seen2, by omega, by omega, (zIn_skip (by omega) (zHit_b c55)).symm.trans he2, rfl, lv_sub hl [2, 3, 4, 5, 1, 6, 0] rfl⟩
          ·
            refine lv_iload hx hb dX0_siblingAt_68 (lv_at hl 6 rfl) ?_
            exact W.iret (v := nI w) hx hb hr (fun t ht hW => ⟨_, rfl, (by first | exact (by unfold zAt; rw [← he, zOut_found (by omega) (by rw [← he2, zIn_hit (by omega) (zHit_t c48 c55) c65])]; rfl)), ht⟩) (fun q h => by cases h) dX0_siblingAt_70
        ·
          refine lv_if_eq (tgt := 74) hx hb dX0_siblingAt_58 (by decide) (fun _ => ?_) (fun q => absurd q (by decide))
          refine lv_iinc (v := nI (w + 1)) (lv' := [(9, .int (nI (w + 1))), (0, .ref (ad 0)), (1, .int (nI k)), (4, .int x), (5, .long (lN (zNew (n k) (ps k) set))), (7, .int (nI seen2)), (8, .int (nI s9))]) hx hb dX0_siblingAt_74 hl (k := 6) rfl (by rw [← nI_1]; rfl) (by decide) rfl (fun ls hl => ?_)
          refine lv_goto (tgt := 26) hx hb dX0_siblingAt_77 (by decide) ?_
          first | exact ih26 _ _ (by omega) ⟨w + 1, seen2 + 1, by omega, by omega, (zIn_go (by omega) (zHit_t c48 c55) c65).symm.trans he2, rfl, lv_sub hl [1, 2, 3, 4, 5, 6, 0] rfl⟩ | exact ih26 _ _ (by omega) ⟨w + 1, seen2, by omega, by omega, (zIn_skip (by omega) (zHit_n c48)).symm.trans he2, rfl, lv_sub hl [1, 2, 3, 4, 5, 6, 0] rfl⟩ | exact ih26 _ _ (by omega) ⟨w + 1, seen2, by omega, by omega, (zIn_skip (by omega) (zHit_b c55)).symm.trans he2, rfl, lv_sub hl [1, 2, 3, 4, 5, 6, 0] rfl⟩
set_option maxHeartbeats 4000000 in
set_option maxRecDepth 100000 in
/-- one of a write's numbers -/
theorem c_X0_detailOf (l : Launch) (dC : Nat → ClassId) (dI : Nat → Nat → Nat) (ad : Nat → Nat) (cI cJ cII cJJ : ClassId) (S C : Nat) (n : Nat → Nat) (va : Nat → Nat → Int32) (mk ct ps kn cx : Nat → Nat → Nat) (k w : Nat) (x : Int32) (hk : k < 3) (hw : w < 40) : Met l yX0_detailOf wsX0_detailOf ({ frames := 0, cells := 0, slots := 0, locals := 0 }) (va_Pc [.ref (ad 0), .int (nI k), .int (nI w), .int x] (xB dC dI ad cI cJ cII cJJ S C n va mk ct ps kn cx)) (vp_Sl (fun r => r = zDet x (va k w) (mk k w) (ct k w) w)) 0 0 (fun _ => False) := by
  refine Met.ofW (cc := cX0_detailOf) (maxL := 4) (ret := (some .long)) (by decide) rfl ?_
  intro p e s m args below meth c s₁ B hml hv
  obtain ⟨rfl, hP, hK⟩ := hv
  have hx := B.exec
  have hb := B.bytes
  have hr := B.returns
  have hts := atoms_spec (ws := wsX0_detailOf) B.pre
  have hown : s.vm.findClass RX0 = some m.cls := findClass_of_methodNamed B.named
  have hlocks := B.notSynchronized
  have hin0 : ∀ w ∈ wsX00, w ∈ wsX0_detailOf := fun _ h => List.mem_cons_of_mem _ (List.mem_append_right _ h)
  have hl := lv_entry ([.ref (ad 0), .int (nI k), .int (nI w), .int x]) (n := 4) (Nat.le_of_ble_eq_true rfl)
  rw [lg_entry_eq]
  generalize (lg_sl ([.ref (ad 0), .int (nI k), .int (nI w), .int x]) ++ List.replicate (4 - (lg_sl ([.ref (ad 0), .int (nI k), .int (nI w), .int x])).length) Slot.unset).toArray = ls at hl ⊢
  have hl : lv_has ls 4 [(0, .ref (ad 0)), (1, .int (nI k)), (2, .int (nI w)), (3, .int x)] := hl
  refine lv_iload_n hx hb dX0_detailOf_0 rfl (lv_at hl 3 rfl) ?_
  by_cases q0 : x = 0
  ·
    subst q0
    refine lv_tableIn (tgt := 32) hx hb dX0_detailOf_1 (by decide) (by decide) rfl (by decide) ?_
    refine lv_aload_n hx hb dX0_detailOf_32 rfl (lv_at hl 0 rfl) ?_
    refine va_get (D := (dC, dI)) (ci := 0) (v := .ref (ad 2)) (C := RX0) (T := TX0) (N := 9) hx hb hts hin0 hown hK hP 0 rfl rfl 3 (by decide) (hts (.fieldLink RX0 28 "DottedSiblings" "values" "[[I") (by decide +kernel)) (fun _ h9 => h9) rfl dX0_detailOf_33 ?_
    refine lv_iload_n hx hb dX0_detailOf_36 rfl (lv_at hl 1 rfl) ?_
    refine zr_aald (r := ad (8 + k)) hx hb hK hP 2 2 rfl rfl (by omega) (by decide) (zo_at ad 8 (by omega)) dX0_detailOf_37 ?_
    refine lv_iload_n hx hb dX0_detailOf_38 rfl (lv_at hl 2 rfl) ?_
    refine zr_iald (v := va k w) hx hb hK hP (8 + k) 0 (xw_va (by omega)) rfl (by omega) (by omega) rfl dX0_detailOf_39 ?_
    refine lv_i2l hx hb dX0_detailOf_40 rfl ?_
    exact W.lret (v := (va k w).toInt64) hx hb hr (fun t ht hW => ⟨_, rfl, (by first | rfl | exact (by unfold zDet; rw [if_neg q0, if_neg q1, if_neg q2, if_neg q3])), ht⟩) (fun q h => by cases h) dX0_detailOf_41
  ·
    by_cases q1 : x = 1
    ·
      subst q1
      refine lv_tableIn (tgt := 42) hx hb dX0_detailOf_1 (by decide) (by decide) rfl (by decide) ?_
      refine lv_aload_n hx hb dX0_detailOf_42 rfl (lv_at hl 0 rfl) ?_
      refine va_get (D := (dC, dI)) (ci := 0) (v := .ref (ad 3)) (C := RX0) (T := TX0) (N := 9) hx hb hts hin0 hown hK hP 0 rfl rfl 4 (by decide) (hts (.fieldLink RX0 31 "DottedSiblings" "makers" "[[I") (by decide +kernel)) (fun _ h9 => h9) rfl dX0_detailOf_43 ?_
      refine lv_iload_n hx hb dX0_detailOf_46 rfl (lv_at hl 1 rfl) ?_
      refine zr_aald (r := ad (11 + k)) hx hb hK hP 3 2 rfl rfl (by omega) (by decide) (zo_at ad 11 (by omega)) dX0_detailOf_47 ?_
      refine lv_iload_n hx hb dX0_detailOf_48 rfl (lv_at hl 2 rfl) ?_
      refine zr_iald (v := nI (mk k w)) hx hb hK hP (11 + k) 0 (xw_mk (by omega)) rfl (by omega) (by omega) rfl dX0_detailOf_49 ?_
      refine lv_i2l hx hb dX0_detailOf_50 rfl ?_
      exact W.lret (v := (nI (mk k w)).toInt64) hx hb hr (fun t ht hW => ⟨_, rfl, (by first | rfl | exact (by unfold zDet; rw [if_neg q0, if_neg q1, if_neg q2, if_neg q3])), ht⟩) (fun q h => by cases h) dX0_detailOf_51
    ·
      by_cases q2 : x = 2
      ·
        subst q2
        refine lv_tableIn (tgt := 52) hx hb dX0_detailOf_1 (by decide) (by decide) rfl (by decide) ?_
        refine lv_aload_n hx hb dX0_detailOf_52 rfl (lv_at hl 0 rfl) ?_
        refine va_get (D := (dC, dI)) (ci := 0) (v := .ref (ad 4)) (C := RX0) (T := TX0) (N := 9) hx hb hts hin0 hown hK hP 0 rfl rfl 5 (by decide) (hts (.fieldLink RX0 34 "DottedSiblings" "counters" "[[I") (by decide +kernel)) (fun _ h9 => h9) rfl dX0_detailOf_53 ?_
        refine lv_iload_n hx hb dX0_detailOf_56 rfl (lv_at hl 1 rfl) ?_
        refine zr_aald (r := ad (14 + k)) hx hb hK hP 4 2 rfl rfl (by omega) (by decide) (zo_at ad 14 (by omega)) dX0_detailOf_57 ?_
        refine lv_iload_n hx hb dX0_detailOf_58 rfl (lv_at hl 2 rfl) ?_
        refine zr_iald (v := nI (ct k w)) hx hb hK hP (14 + k) 0 (xw_ct (by omega)) rfl (by omega) (by omega) rfl dX0_detailOf_59 ?_
        refine lv_i2l hx hb dX0_detailOf_60 rfl ?_
        exact W.lret (v := (nI (ct k w)).toInt64) hx hb hr (fun t ht hW => ⟨_, rfl, (by first | rfl | exact (by unfold zDet; rw [if_neg q0, if_neg q1, if_neg q2, if_neg q3])), ht⟩) (fun q h => by cases h) dX0_detailOf_61
      ·
        by_cases q3 : x = 3
        ·
          subst q3
          refine lv_tableIn (tgt := 62) hx hb dX0_detailOf_1 (by decide) (by decide) rfl (by decide) ?_
          refine lv_iload_n hx hb dX0_detailOf_62 rfl (lv_at hl 2 rfl) ?_
          refine lv_i2l hx hb dX0_detailOf_63 rfl ?_
          exact W.lret (v := (nI w).toInt64) hx hb hr (fun t ht hW => ⟨_, rfl, (by first | rfl | exact (by unfold zDet; rw [if_neg q0, if_neg q1, if_neg q2, if_neg q3])), ht⟩) (fun q h => by cases h) dX0_detailOf_64
        ·
          refine lv_tableOut (tgt := 65) hx hb dX0_detailOf_1 (zsw q0 q1 q2 q3) (by decide) ?_
          refine lv_ldc2 (v := (-9223372036854775808)) hx hb hown (hts (.constantLong RX0 66 (-9223372036854775808)) (by decide +kernel)) dX0_detailOf_65 ?_
          exact W.lret (v := (-9223372036854775808)) hx hb hr (fun t ht hW => ⟨_, rfl, (by first | rfl | exact (by unfold zDet; rw [if_neg q0, if_neg q1, if_neg q2, if_neg q3])), ht⟩) (fun q h => by cases h) dX0_detailOf_68
set_option maxHeartbeats 4000000 in
set_option maxRecDepth 100000 in
/-- what the vector of a set has for a server -/
theorem c_X0_vectorAt (l : Launch) (dC : Nat → ClassId) (dI : Nat → Nat → Nat) (ad : Nat → Nat) (cI cJ cII cJJ : ClassId) (S C : Nat) (n : Nat → Nat) (va : Nat → Nat → Int32) (mk ct ps kn cx : Nat → Nat → Nat) (k set o : Nat) (hk : k < 3) (hset : set < 2 ^ 63) (ho : o < 4) (hn : n k ≤ 40) (hmk : ∀ w, w < n k → mk k w < 4) (hct : ∀ w, ct k w ≤ 40) : Met l yX0_vectorAt wsX0_vectorAt ({ frames := 1, cells := 0, slots := 0, locals := 22 }) (va_Pc [.ref (ad 0), .int (nI k), .long (lN set), .int (nI o)] (xB dC dI ad cI cJ cII cJJ S C n va mk ct ps kn cx)) (vp_Si (fun r => r = nI (zVec (ct k) (zHit (mk k) set o) (n k)))) 0 0 (fun _ => False) := by
  refine Met.ofW (cc := cX0_vectorAt) (maxL := 7) (ret := (some .int)) (by decide) rfl ?_
  intro p e s m args below meth c s₁ B hml hv
  obtain ⟨rfl, hP, hK⟩ := hv
  have hx := B.exec
  have hb := B.bytes
  have hr := B.returns
  have hts := atoms_spec (ws := wsX0_vectorAt) B.pre
  have hown : s.vm.findClass RX0 = some m.cls := findClass_of_methodNamed B.named
  have hlocks := B.notSynchronized
  have hin0 : ∀ w ∈ wsX00, w ∈ wsX0_vectorAt := fun _ h => List.mem_cons_of_mem _ (List.mem_append_right _ h)
  have hl := lv_entry ([.ref (ad 0), .int (nI k), .long (lN set), .int (nI o)]) (n := 7) (Nat.le_of_ble_eq_true rfl)
  rw [lg_entry_eq]
  generalize (lg_sl ([.ref (ad 0), .int (nI k), .long (lN set), .int (nI o)]) ++ List.replicate (7 - (lg_sl ([.ref (ad 0), .int (nI k), .long (lN set), .int (nI o)])).length) Slot.unset).toArray = ls at hl ⊢
  have hl : lv_has ls 7 [(0, .ref (ad 0)), (1, .int (nI k)), (2, .long (lN set)), (4, .int (nI o))] := hl
  refine lv_iconst (v := nI 0) hx hb dX0_vectorAt_0 (by decide) ?_
  refine lv_istore (lv' := [(5, .int (nI 0)), (0, .ref (ad 0)), (1, .int (nI k)), (2, .long (lN set)), (4, .int (nI o))]) hx hb dX0_vectorAt_1 hl (by decide) rfl (fun ls hl => ?_)
  refine lv_iconst (v := nI 0) hx hb dX0_vectorAt_3 (by decide) ?_
  refine lv_istore (lv' := [(6, .int (nI 0)), (5, .int (nI 0)), (0, .ref (ad 0)), (1, .int (nI k)), (2, .long (lN set)), (4, .int (nI o))]) hx hb dX0_vectorAt_4 hl (by decide) rfl (fun ls hl => ?_)
  refine zr_loop (pc := 6) (fun d ls => ∃ i, i ≤ n k ∧ d = n k - i ∧ lv_has ls 7 [(0, .ref (ad 0)), (1, .int (nI k)), (2, .long (lN set)), (4, .int (nI o)), (5, .int (nI (zVec (ct k) (zHit (mk k) set o) i))), (6, .int (nI i))]) ?_ _ _ ⟨0, Nat.zero_le _, rfl, lv_sub hl [2, 3, 4, 5, 1, 0] rfl⟩
  rintro d ls ⟨i, hi, rfl, hl⟩ ih6
  have hz9 := zVec_le (hit := zHit (mk k) set o) hct i
  have hc9 := hct i
  refine lv_iload hx hb dX0_vectorAt_6 (lv_at hl 5 rfl) ?_
  refine lv_aload_n hx hb dX0_vectorAt_8 rfl (lv_at hl 0 rfl) ?_
  refine va_get (D := (dC, dI)) (ci := 0) (v := .ref (ad 1)) (C := RX0) (T := TX0) (N := 9) hx hb hts hin0 hown hK hP 0 rfl rfl 2 (by decide) (hts (.fieldLink RX0 22 "DottedSiblings" "written" "[I") (by decide +kernel)) (fun _ h9 => h9) rfl dX0_vectorAt_9 ?_
  refine lv_iload_n hx hb dX0_vectorAt_12 rfl (lv_at hl 1 rfl) ?_
  refine zr_iald (v := nI (n k)) hx hb hK hP 1 0 rfl rfl (by omega) (by omega) rfl dX0_vectorAt_13 ?_
  refine zr_ige (tgt := 62) hx hb (by omega) (by omega) dX0_vectorAt_14 (by decide) (fun c14 => ?_) (fun c14 => ?_)
  ·
    refine lv_iload hx hb dX0_vectorAt_62 (lv_at hl 4 rfl) ?_
    exact W.iret (v := nI (zVec (ct k) (zHit (mk k) set o) i)) hx hb hr (fun t ht hW => ⟨_, rfl, (by first | exact (by rw [show i = n k by omega])), ht⟩) (fun q h => by cases h) dX0_vectorAt_64
  ·
    have hm9 := hmk i (by omega)
    refine lv_aload_n hx hb dX0_vectorAt_17 rfl (lv_at hl 0 rfl) ?_
    refine va_get (D := (dC, dI)) (ci := 0) (v := .ref (ad 3)) (C := RX0) (T := TX0) (N := 9) hx hb hts hin0 hown hK hP 0 rfl rfl 4 (by decide) (hts (.fieldLink RX0 31 "DottedSiblings" "makers" "[[I") (by decide +kernel)) (fun _ h9 => h9) rfl dX0_vectorAt_18 ?_
    refine lv_iload_n hx hb dX0_vectorAt_21 rfl (lv_at hl 1 rfl) ?_
    refine zr_aald (r := ad (11 + k)) hx hb hK hP 3 2 rfl rfl (by omega) (by decide) (zo_at ad 11 (by omega)) dX0_vectorAt_22 ?_
    refine lv_iload hx hb dX0_vectorAt_23 (lv_at hl 5 rfl) ?_
    refine zr_iald (v := nI (mk k i)) hx hb hK hP (11 + k) 0 (xw_mk (by omega)) rfl (by omega) (by omega) rfl dX0_vectorAt_25 ?_
    refine lv_iload hx hb dX0_vectorAt_26 (lv_at hl 3 rfl) ?_
    refine zr_ine (tgt := 56) hx hb (by omega) (by omega) dX0_vectorAt_28 (by decide) (fun c28 => ?_) (fun c28 => ?_)
    ·
      refine lv_iinc (v := nI (i + 1)) (lv' := [(6, .int (nI (i + 1))), (0, .ref (ad 0)), (1, .int (nI k)), (2, .long (lN set)), (4, .int (nI o)), (5, .int (nI (zVec (ct k) (zHit (mk k) set o) i)))]) hx hb dX0_vectorAt_56 hl (k := 5) rfl (by rw [← nI_1]; rfl) (by decide) rfl (fun ls hl => ?_)
      refine lv_goto (tgt := 6) hx hb dX0_vectorAt_59 (by decide) ?_
      exact ih6 _ _ (by omega) ⟨i + 1, by omega, rfl, by first | (rw [zVec_t (zHit_t c28 c34)]; exact lv_sub hl [1, 2, 3, 4, 5, 0] rfl) | (rw [zVec_f (zHit_n c28)]; exact lv_sub hl [1, 2, 3, 4, 5, 0] rfl) | (rw [zVec_f (zHit_b c34)]; exact lv_sub hl [1, 2, 3, 4, 5, 0] rfl)⟩
    ·
      refine lv_lload_n hx hb dX0_vectorAt_31 rfl (lv_at hl 2 rfl) ?_
      refine lv_iload hx hb dX0_vectorAt_32 (lv_at hl 5 rfl) ?_
      refine vp_callSi (W.runS (As := [.long (lN set), .int (nI i)]) (rest := []) ⟨hx, hb, hml, hown, hts⟩ (c_X0_has l set i (by omega) (by omega)) (va_cwS 2 hts gX0_vectorAt_X0_has rfl rfl rfl (by decide +kernel) ⟨Nat.le_of_ble_eq_true rfl, Nat.le_of_ble_eq_true rfl⟩) ⟨zB_blind, fun U hU hW => ⟨rfl, trivial⟩⟩ rfl rfl hl.1 rfl (lv_room (Nat.le_of_ble_eq_true rfl)) dX0_vectorAt_34 ⟨Nat.le_of_ble_eq_true rfl, Nat.le_of_ble_eq_true rfl⟩) (fun r hq => ?_)
      rcases hq with ⟨rfl, c34⟩ | ⟨rfl, c34⟩
      ·
        refine lv_if_eq (tgt := 56) hx hb dX0_vectorAt_37 (by decide) (fun q => absurd q (by decide)) (fun _ => ?_)
        refine lv_iload hx hb dX0_vectorAt_40 (lv_at hl 4 rfl) ?_
        refine lv_aload_n hx hb dX0_vectorAt_42 rfl (lv_at hl 0 rfl) ?_
        refine va_get (D := (dC, dI)) (ci := 0) (v := .ref (ad 4)) (C := RX0) (T := TX0) (N := 9) hx hb hts hin0 hown hK hP 0 rfl rfl 5 (by decide) (hts (.fieldLink RX0 34 "DottedSiblings" "counters" "[[I") (by decide +kernel)) (fun _ h9 => h9) rfl dX0_vectorAt_43 ?_
        refine lv_iload_n hx hb dX0_vectorAt_46 rfl (lv_at hl 1 rfl) ?_
        refine zr_aald (r := ad (14 + k)) hx hb hK hP 4 2 rfl rfl (by omega) (by decide) (zo_at ad 14 (by omega)) dX0_vectorAt_47 ?_
        refine lv_iload hx hb dX0_vectorAt_48 (lv_at hl 5 rfl) ?_
        refine zr_iald (v := nI (ct k i)) hx hb hK hP (14 + k) 0 (xw_ct (by omega)) rfl (by omega) (by omega) rfl dX0_vectorAt_50 ?_
        refine va_mmax hx hb (hml.trans hl.1.symm) hown (hts (.methodLink RX0 85 Lib.Math.max.name) (by decide +kernel)) (hts (.static Lib.Math.max.name) (by decide +kernel)) (hts (.initialized "java/lang/Math") (by decide +kernel)) (hts (.code Lib.Math.max.name Lib.Math.max.code 2 (some .int)) (by decide +kernel)) (Nat.le_of_ble_eq_true rfl) (Nat.le_of_ble_eq_true rfl) (Nat.zero_le _) (Nat.zero_le _) dX0_vectorAt_51 ?_
        rw [zmaxI (by omega) (by omega)]
        refine lv_istore (lv' := [(5, .int (nI (if (zVec (ct k) (zHit (mk k) set o) i) < (ct k i) then (ct k i) else (zVec (ct k) (zHit (mk k) set o) i)))), (0, .ref (ad 0)), (1, .int (nI k)), (2, .long (lN set)), (4, .int (nI o)), (6, .int (nI i))]) hx hb dX0_vectorAt_54 hl (by decide) rfl (fun ls hl => ?_)
        refine lv_iinc (v := nI (i + 1)) (lv' := [(6, .int (nI (i + 1))), (5, .int (nI (if (zVec (ct k) (zHit (mk k) set o) i) < (ct k i) then (ct k i) else (zVec (ct k) (zHit (mk k) set o) i)))), (0, .ref (ad 0)), (1, .int (nI k)), (2, .long (lN set)), (4, .int (nI o))]) hx hb dX0_vectorAt_56 hl (k := 5) rfl (by rw [← nI_1]; rfl) (by decide) rfl (fun ls hl => ?_)
        refine lv_goto (tgt := 6) hx hb dX0_vectorAt_59 (by decide) ?_
        exact ih6 _ _ (by omega) ⟨i + 1, by omega, rfl, by first | (rw [zVec_t (zHit_t c28 c34)]; exact lv_sub hl [2, 3, 4, 5, 1, 0] rfl) | (rw [zVec_f (zHit_n c28)]; exact lv_sub hl [2, 3, 4, 5, 1, 0] rfl) | (rw [zVec_f (zHit_b c34)]; exact lv_sub hl [2, 3, 4, 5, 1, 0] rfl)⟩
      ·
        refine lv_if_eq (tgt := 56) hx hb dX0_vectorAt_37 (by decide) (fun _ => ?_) (fun q => absurd q (by decide))
        refine lv_iinc (v := nI (i + 1)) (lv' := [(6, .int (nI (i + 1))), (0, .ref (ad 0)), (1, .int (nI k)), (2, .long (lN set)), (4, .int (nI o)), (5, .int (nI (zVec (ct k) (zHit (mk k) set o) i)))]) hx hb dX0_vectorAt_56 hl (k := 5) rfl (by rw [← nI_1]; rfl) (by decide) rfl (fun ls hl => ?_)
        refine lv_goto (tgt := 6) hx hb dX0_vectorAt_59 (by decide) ?_
        exact ih6 _ _ (by omega) ⟨i + 1, by omega, rfl, by first | (rw [zVec_t (zHit_t c28 c34)]; exact lv_sub hl [1, 2, 3, 4, 5, 0] rfl) | (rw [zVec_f (zHit_n c28)]; exact lv_sub hl [1, 2, 3, 4, 5, 0] rfl) | (rw [zVec_f (zHit_b c34)]; exact lv_sub hl [1, 2, 3, 4, 5, 0] rfl)⟩
