set_option maxHeartbeats 4000000 in
set_option maxRecDepth 100000 in
/-- Long.bitCount -/
theorem c_J13_bitCount_95d88 (l : Launch) (x : Nat) (hx64 : x < 2 ^ 64) : Met l yJ13_bitCount_95d88 wsJ13_bitCount_95d88 ({ frames := 0, cells := 0, slots := 0, locals := 0 }) (va_Pc [.long (lN x)] (fun _ => True)) (vp_Si (fun r => r = nI (cn (fun i => x.testBit i) 64))) 0 0 (fun _ => False) := by
  refine Met.ofW (cc := cJ13_bitCount_95d88) (maxL := 2) (ret := (some .int)) (by decide) rfl ?_
  intro p e s m args below meth c s₁ B hml hv
  obtain ⟨rfl, -⟩ := hv
  have hx := B.exec
  have hb := B.bytes
  have hr := B.returns
  have hts := atoms_spec (ws := wsJ13_bitCount_95d88) B.pre
  have hown : s.vm.findClass RJ13 = some m.cls := findClass_of_methodNamed B.named
  have hlocks := B.notSynchronized
  have hl := lv_entry ([.long (lN x)]) (n := 2) (Nat.le_of_ble_eq_true rfl)
  rw [lg_entry_eq]
  generalize (lg_sl ([.long (lN x)]) ++ List.replicate (2 - (lg_sl ([.long (lN x)])).length) Slot.unset).toArray = ls at hl ⊢
  have hl : lv_has ls 2 [(0, .long (lN x))] := hl
  obtain ⟨k1, -, -, -⟩ := bc_steps hx64
  obtain ⟨k2, k3, k4⟩ := bc_bounds hx64
  obtain ⟨k5, k6, k7, k8, k9⟩ := bc_count hx64
  refine lv_lload_n hx hb dJ13_bitCount_95d88_0 rfl (lv_at hl 0 rfl) ?_
  refine lv_lload_n hx hb dJ13_bitCount_95d88_1 rfl (lv_at hl 0 rfl) ?_
  refine lv_iconst (v := nI 1) hx hb dJ13_bitCount_95d88_2 (by decide) ?_
  refine zr_lushr hx hb hx64 (by decide) dJ13_bitCount_95d88_3 ?_
  refine lv_ldc2 (v := lN 6148914691236517205) hx hb hown (hts (.constantLong RJ13 314 (6148914691236517205)) (by decide +kernel)) dJ13_bitCount_95d88_4 ?_
  refine zr_land hx hb dJ13_bitCount_95d88_7 ?_
  refine zr_lsub hx hb k1 dJ13_bitCount_95d88_8 ?_
  refine lv_lstore_n (lv' := [(0, .long (lN (bc_a x)))]) hx hb dJ13_bitCount_95d88_9 rfl hl (by decide) rfl (fun ls hl => ?_)
  refine lv_lload_n hx hb dJ13_bitCount_95d88_10 rfl (lv_at hl 0 rfl) ?_
  refine lv_ldc2 (v := lN 3689348814741910323) hx hb hown (hts (.constantLong RJ13 316 (3689348814741910323)) (by decide +kernel)) dJ13_bitCount_95d88_11 ?_
  refine zr_land hx hb dJ13_bitCount_95d88_14 ?_
  refine lv_lload_n hx hb dJ13_bitCount_95d88_15 rfl (lv_at hl 0 rfl) ?_
  refine lv_iconst (v := nI 2) hx hb dJ13_bitCount_95d88_16 (by decide) ?_
  refine zr_lushr hx hb k2 (by decide) dJ13_bitCount_95d88_17 ?_
  refine lv_ldc2 (v := lN 3689348814741910323) hx hb hown (hts (.constantLong RJ13 316 (3689348814741910323)) (by decide +kernel)) dJ13_bitCount_95d88_18 ?_
  refine zr_land hx hb dJ13_bitCount_95d88_21 ?_
  refine zr_ladd hx hb dJ13_bitCount_95d88_22 ?_
  refine lv_lstore_n (lv' := [(0, .long (lN (bc_b x)))]) hx hb dJ13_bitCount_95d88_23 rfl hl (by decide) rfl (fun ls hl => ?_)
  refine lv_lload_n hx hb dJ13_bitCount_95d88_24 rfl (lv_at hl 0 rfl) ?_
  refine lv_lload_n hx hb dJ13_bitCount_95d88_25 rfl (lv_at hl 0 rfl) ?_
  refine lv_iconst (v := nI 4) hx hb dJ13_bitCount_95d88_26 (by decide) ?_
  refine zr_lushr hx hb k3 (by decide) dJ13_bitCount_95d88_27 ?_
  refine zr_ladd hx hb dJ13_bitCount_95d88_28 ?_
  refine lv_ldc2 (v := lN 1085102592571150095) hx hb hown (hts (.constantLong RJ13 318 (1085102592571150095)) (by decide +kernel)) dJ13_bitCount_95d88_29 ?_
  refine zr_land hx hb dJ13_bitCount_95d88_32 ?_
  refine lv_lstore_n (lv' := [(0, .long (lN (bc_d x)))]) hx hb dJ13_bitCount_95d88_33 rfl hl (by decide) rfl (fun ls hl => ?_)
  refine lv_lload_n hx hb dJ13_bitCount_95d88_34 rfl (lv_at hl 0 rfl) ?_
  refine lv_lload_n hx hb dJ13_bitCount_95d88_35 rfl (lv_at hl 0 rfl) ?_
  refine lv_bipush (v := nI 8) hx hb dJ13_bitCount_95d88_36 (by decide) ?_
  refine zr_lushr hx hb k9 (by decide) dJ13_bitCount_95d88_38 ?_
  refine zr_ladd hx hb dJ13_bitCount_95d88_39 ?_
  refine lv_lstore_n (lv' := [(0, .long (lN (bc_f x)))]) hx hb dJ13_bitCount_95d88_40 rfl hl (by decide) rfl (fun ls hl => ?_)
  refine lv_lload_n hx hb dJ13_bitCount_95d88_41 rfl (lv_at hl 0 rfl) ?_
  refine lv_lload_n hx hb dJ13_bitCount_95d88_42 rfl (lv_at hl 0 rfl) ?_
  refine lv_bipush (v := nI 16) hx hb dJ13_bitCount_95d88_43 (by decide) ?_
  refine zr_lushr hx hb k8 (by decide) dJ13_bitCount_95d88_45 ?_
  refine zr_ladd hx hb dJ13_bitCount_95d88_46 ?_
  refine lv_lstore_n (lv' := [(0, .long (lN (bc_g x)))]) hx hb dJ13_bitCount_95d88_47 rfl hl (by decide) rfl (fun ls hl => ?_)
  refine lv_lload_n hx hb dJ13_bitCount_95d88_48 rfl (lv_at hl 0 rfl) ?_
  refine lv_lload_n hx hb dJ13_bitCount_95d88_49 rfl (lv_at hl 0 rfl) ?_
  refine lv_bipush (v := nI 32) hx hb dJ13_bitCount_95d88_50 (by decide) ?_
  refine zr_lushr hx hb k7 (by decide) dJ13_bitCount_95d88_52 ?_
  refine zr_ladd hx hb dJ13_bitCount_95d88_53 ?_
  refine lv_lstore_n (lv' := [(0, .long (lN (bc_h x)))]) hx hb dJ13_bitCount_95d88_54 rfl hl (by decide) rfl (fun ls hl => ?_)
  refine lv_lload_n hx hb dJ13_bitCount_95d88_55 rfl (lv_at hl 0 rfl) ?_
  refine lv_l2i hx hb dJ13_bitCount_95d88_56 (lN_i _) ?_
  refine lv_bipush (v := nI 127) hx hb dJ13_bitCount_95d88_57 (by decide) ?_
  refine zr_iand hx hb dJ13_bitCount_95d88_59 ?_
  exact W.iret (v := nI (bc_h x &&& 127)) hx hb hr (fun t ht hW => ⟨_, rfl, congrArg nI ((Nat.and_two_pow_sub_one_eq_mod (bc_h x) 7).trans k5), ht⟩) (fun q h => by cases h) dJ13_bitCount_95d88_60
set_option maxHeartbeats 4000000 in
set_option maxRecDepth 100000 in
/-- read -/
theorem c_X0_read (l : Launch) (dC : Nat → ClassId) (dI : Nat → Nat → Nat) (ad : Nat → Nat) (cI cJ cII cJJ : ClassId) (S C : Nat) (n : Nat → Nat) (va : Nat → Nat → Int32) (mk ct ps kn cx : Nat → Nat → Nat) (hG : zG S C n mk ct ps kn cx) (x1 x2 x3 : Int32) : Met l yX0_read wsX0_read ({ frames := 3, cells := 0, slots := 0, locals := 77 }) (va_Pc [.ref (ad 0), .int x1, .int x2, .int x3] (xB dC dI ad cI cJ cII cJJ S C n va mk ct ps kn cx)) (vp_Sl (fun r => r = aRead S C n va mk ps cx x1 x2 x3)) 0 0 (fun _ => False) := by
  refine Met.ofW (cc := cX0_read) (maxL := 5) (ret := (some .long)) (by decide) rfl ?_
  intro p e s m args below meth c s₁ B hml hv
  obtain ⟨rfl, hP, hK⟩ := hv
  have hx := B.exec
  have hb := B.bytes
  have hr := B.returns
  have hts := atoms_spec (ws := wsX0_read) B.pre
  have hown : s.vm.findClass RX0 = some m.cls := findClass_of_methodNamed B.named
  have hlocks := B.notSynchronized
  have hin0 : ∀ w ∈ wsX00, w ∈ wsX0_read := fun _ h => List.mem_cons_of_mem _ (List.mem_append_right _ h)
  have hl := lv_entry ([.ref (ad 0), .int x1, .int x2, .int x3]) (n := 5) (Nat.le_of_ble_eq_true rfl)
  rw [lg_entry_eq]
  generalize (lg_sl ([.ref (ad 0), .int x1, .int x2, .int x3]) ++ List.replicate (5 - (lg_sl ([.ref (ad 0), .int x1, .int x2, .int x3])).length) Slot.unset).toArray = ls at hl ⊢
  have hl : lv_has ls 5 [(0, .ref (ad 0)), (1, .int x1), (2, .int x2), (3, .int x3)] := hl
  obtain ⟨⟨hS1, hS4, hC1, hC4⟩, hn, hmk, hct, hps, hkn, hcx, hcn, hkw⟩ := hG
  refine lv_aload_n hx hb dX0_read_0 rfl (lv_at hl 0 rfl) ?_
  refine lv_iload_n hx hb dX0_read_1 rfl (lv_at hl 1 rfl) ?_
  refine vp_callSi (W.runV (As := [.int x1]) (rest := []) ⟨hx, hb, hml, hown, hts⟩ (c_X0_isClient l dC dI ad cI cJ cII cJJ S C n va mk ct ps kn cx (by omega) x1) (cwV 1 hts gX0_read_X0_isClient rfl rfl rfl (by decide +kernel) ⟨Nat.le_of_ble_eq_true rfl, Nat.le_of_ble_eq_true rfl⟩) ⟨xB_blind, va_recv hK hP (ci := 0) (q0 := 0) rfl rfl, fun U hU hW => ⟨rfl, xB_at hP hK hU hW⟩⟩ rfl rfl hl.1 rfl (lv_room (Nat.le_of_ble_eq_true rfl)) dX0_read_2 ⟨Nat.le_of_ble_eq_true rfl, Nat.le_of_ble_eq_true rfl⟩) (fun r hq => ?_)
  rcases hq with ⟨rfl, cl, hcl, rfl, hdx1⟩ | ⟨rfl, hdx1⟩
  ·
    refine lv_if_eq (tgt := 15) hx hb dX0_read_5 (by decide) (fun q => absurd q (by decide)) (fun _ => ?_)
    refine lv_iload_n hx hb dX0_read_8 rfl (lv_at hl 2 rfl) ?_
    refine vp_callSi (W.runS (As := [.int x2]) (rest := []) ⟨hx, hb, hml, hown, hts⟩ (c_X0_isKey l x2) (va_cwS 1 hts gX0_read_X0_isKey rfl rfl rfl (by decide +kernel) ⟨Nat.le_of_ble_eq_true rfl, Nat.le_of_ble_eq_true rfl⟩) ⟨zB_blind, fun U hU hW => ⟨rfl, trivial⟩⟩ rfl rfl hl.1 rfl (lv_room (Nat.le_of_ble_eq_true rfl)) dX0_read_9 ⟨Nat.le_of_ble_eq_true rfl, Nat.le_of_ble_eq_true rfl⟩) (fun r hq => ?_)
    rcases hq with ⟨rfl, ky, hky, rfl, hdx2⟩ | ⟨rfl, hdx2⟩
    ·
      refine lv_if_ne (tgt := 19) hx hb dX0_read_12 (by decide) (fun _ => ?_) (fun q => absurd q (by decide))
      refine lv_aload_n hx hb dX0_read_19 rfl (lv_at hl 0 rfl) ?_
      refine lv_iload_n hx hb dX0_read_20 rfl (lv_at hl 2 rfl) ?_
      refine lv_aload_n hx hb dX0_read_21 rfl (lv_at hl 0 rfl) ?_
      refine va_get (D := (dC, dI)) (ci := 0) (v := .ref (ad 7)) (C := RX0) (T := TX0) (N := 9) hx hb hts hin0 hown hK hP 0 rfl rfl 8 (by decide) (hts (.fieldLink RX0 45 "DottedSiblings" "contextSets" "[[J") (by decide +kernel)) (fun _ h9 => h9) rfl dX0_read_22 ?_
      refine lv_iload_n hx hb dX0_read_25 rfl (lv_at hl 2 rfl) ?_
      refine zr_aald (r := ad (23 + ky)) hx hb hK hP 7 3 rfl rfl (by omega) (by decide) (zo_at ad 23 (by omega)) dX0_read_26 ?_
      refine lv_iload_n hx hb dX0_read_27 rfl (lv_at hl 1 rfl) ?_
      refine zr_lald (v := lN (cx ky cl)) hx hb hK hP (23 + ky) 1 (xw_cx (by omega)) rfl (by omega) (by omega) rfl dX0_read_28 ?_
      refine lv_iload_n hx hb dX0_read_29 rfl (lv_at hl 3 rfl) ?_
      refine vp_callSi (W.runV (As := [.int (nI ky), .long (lN (cx ky cl)), .int x3]) (rest := []) ⟨hx, hb, hml, hown, hts⟩ (c_X0_siblingAt l dC dI ad cI cJ cII cJJ S C n va mk ct ps kn cx ky (cx ky cl) x3 (by omega) (Nat.lt_trans (z40 (hcx _ _) (hn _)) (by decide)) (hn _) (by omega) (hmk _)) (cwV 3 hts gX0_read_X0_siblingAt rfl rfl rfl (by decide +kernel) ⟨Nat.le_of_ble_eq_true rfl, Nat.le_of_ble_eq_true rfl⟩) ⟨xB_blind, va_recv hK hP (ci := 0) (q0 := 0) rfl rfl, fun U hU hW => ⟨rfl, xB_at hP hK hU hW⟩⟩ rfl rfl hl.1 rfl (lv_room (Nat.le_of_ble_eq_true rfl)) dX0_read_30 ⟨Nat.le_of_ble_eq_true rfl, Nat.le_of_ble_eq_true rfl⟩) (fun r hq => ?_)
      rcases hz : zAt S (n ky) (mk ky) (zNew (n ky) (ps ky) (cx ky cl)) x3 with _ | wr
      ·
        have hq : r = -1 := by rw [hq, hz]; rfl
        subst hq
        refine lv_istore (lv' := [(4, .int (-1)), (0, .ref (ad 0)), (1, .int (nI cl)), (2, .int (nI ky)), (3, .int x3)]) hx hb dX0_read_33 hl (by decide) rfl (fun ls hl => ?_)
        refine lv_iload hx hb dX0_read_35 (lv_at hl 0 rfl) ?_
        refine lv_iconst (v := (-1)) hx hb dX0_read_37 (by decide) ?_
        refine lv_icmp_ne (tgt := 47) hx hb dX0_read_38 (by decide) (fun q => absurd rfl q) (fun _ => ?_)
        refine lv_ldc2 (v := (-9223372036854775808)) hx hb hown (hts (.constantLong RX0 66 (-9223372036854775808)) (by decide +kernel)) dX0_read_41 ?_
        refine lv_goto (tgt := 57) hx hb dX0_read_44 (by decide) ?_
        exact W.lret (v := (-9223372036854775808)) hx hb hr (fun t ht hW => ⟨_, rfl, (by first | exact (zq2_1 hdx1).symm | exact (zq2_2 hdx2).symm | exact (by unfold aRead; rw [zq2_s hdx1 hdx2, hz]; first | done | rfl)), ht⟩) (fun q h => by cases h) dX0_read_57
      ·
        have hq : r = nI wr := by rw [hq, hz]; rfl
        have hwr : wr < _ := zOut_lt _ _ _ hz
        have hn9 := hn ky
        subst hq
        refine lv_istore (lv' := [(4, .int (nI wr)), (0, .ref (ad 0)), (1, .int (nI cl)), (2, .int (nI ky)), (3, .int x3)]) hx hb dX0_read_33 hl (by decide) rfl (fun ls hl => ?_)
        refine lv_iload hx hb dX0_read_35 (lv_at hl 0 rfl) ?_
        refine lv_iconst (v := (-1)) hx hb dX0_read_37 (by decide) ?_
        refine lv_icmp_ne (tgt := 47) hx hb dX0_read_38 (by decide) (fun _ => ?_) (fun q => absurd q (znm1 (by omega)))
        refine lv_aload_n hx hb dX0_read_47 rfl (lv_at hl 1 rfl) ?_
        refine va_get (D := (dC, dI)) (ci := 0) (v := .ref (ad 2)) (C := RX0) (T := TX0) (N := 9) hx hb hts hin0 hown hK hP 0 rfl rfl 3 (by decide) (hts (.fieldLink RX0 28 "DottedSiblings" "values" "[[I") (by decide +kernel)) (fun _ h9 => h9) rfl dX0_read_48 ?_
        refine lv_iload_n hx hb dX0_read_51 rfl (lv_at hl 3 rfl) ?_
        refine zr_aald (r := ad (8 + ky)) hx hb hK hP 2 2 rfl rfl (by omega) (by decide) (zo_at ad 8 (by omega)) dX0_read_52 ?_
        refine lv_iload hx hb dX0_read_53 (lv_at hl 0 rfl) ?_
        refine zr_iald (v := va ky wr) hx hb hK hP (8 + ky) 0 (xw_va (by omega)) rfl (by omega) (by omega) rfl dX0_read_55 ?_
        refine lv_i2l hx hb dX0_read_56 rfl ?_
        exact W.lret (v := (va ky wr).toInt64) hx hb hr (fun t ht hW => ⟨_, rfl, (by first | exact (zq2_1 hdx1).symm | exact (zq2_2 hdx2).symm | exact (by unfold aRead; rw [zq2_s hdx1 hdx2, hz]; first | done | rfl)), ht⟩) (fun q h => by cases h) dX0_read_57
    ·
      refine lv_if_ne (tgt := 19) hx hb dX0_read_12 (by decide) (fun q => absurd q (by decide)) (fun _ => ?_)
      refine lv_ldc2 (v := (-9223372036854775808)) hx hb hown (hts (.constantLong RX0 66 (-9223372036854775808)) (by decide +kernel)) dX0_read_15 ?_
      exact W.lret (v := (-9223372036854775808)) hx hb hr (fun t ht hW => ⟨_, rfl, (by first | exact (zq2_1 hdx1).symm | exact (zq2_2 hdx2).symm | exact (by unfold aRead; rw [zq2_s hdx1 hdx2, hz]; first | done | rfl)), ht⟩) (fun q h => by cases h) dX0_read_18
  ·
    refine lv_if_eq (tgt := 15) hx hb dX0_read_5 (by decide) (fun _ => ?_) (fun q => absurd q (by decide))
    refine lv_ldc2 (v := (-9223372036854775808)) hx hb hown (hts (.constantLong RX0 66 (-9223372036854775808)) (by decide +kernel)) dX0_read_15 ?_
    exact W.lret (v := (-9223372036854775808)) hx hb hr (fun t ht hW => ⟨_, rfl, (by first | exact (zq2_1 hdx1).symm | exact (zq2_2 hdx2).symm | exact (by unfold aRead; rw [zq2_s hdx1 hdx2, hz]; first | done | rfl)), ht⟩) (fun q h => by cases h) dX0_read_18
set_option maxHeartbeats 4000000 in
set_option maxRecDepth 100000 in
/-- siblings -/
theorem c_X0_siblings (l : Launch) (dC : Nat → ClassId) (dI : Nat → Nat → Nat) (ad : Nat → Nat) (cI cJ cII cJJ : ClassId) (S C : Nat) (n : Nat → Nat) (va : Nat → Nat → Int32) (mk ct ps kn cx : Nat → Nat → Nat) (hG : zG S C n mk ct ps kn cx) (x1 x2 : Int32) : Met l yX0_siblings wsX0_siblings ({ frames := 2, cells := 0, slots := 0, locals := 48 }) (va_Pc [.ref (ad 0), .int x1, .int x2] (xB dC dI ad cI cJ cII cJJ S C n va mk ct ps kn cx)) (vp_Si (fun r => r = aSibs S n ps kn x1 x2)) 0 0 (fun _ => False) := by
  refine Met.ofW (cc := cX0_siblings) (maxL := 3) (ret := (some .int)) (by decide) rfl ?_
  intro p e s m args below meth c s₁ B hml hv
  obtain ⟨rfl, hP, hK⟩ := hv
  have hx := B.exec
  have hb := B.bytes
  have hr := B.returns
  have hts := atoms_spec (ws := wsX0_siblings) B.pre
  have hown : s.vm.findClass RX0 = some m.cls := findClass_of_methodNamed B.named
  have hlocks := B.notSynchronized
  have hin0 : ∀ w ∈ wsX00, w ∈ wsX0_siblings := fun _ h => List.mem_cons_of_mem _ (List.mem_append_right _ h)
  have hl := lv_entry ([.ref (ad 0), .int x1, .int x2]) (n := 3) (Nat.le_of_ble_eq_true rfl)
  rw [lg_entry_eq]
  generalize (lg_sl ([.ref (ad 0), .int x1, .int x2]) ++ List.replicate (3 - (lg_sl ([.ref (ad 0), .int x1, .int x2])).length) Slot.unset).toArray = ls at hl ⊢
  have hl : lv_has ls 3 [(0, .ref (ad 0)), (1, .int x1), (2, .int x2)] := hl
  obtain ⟨⟨hS1, hS4, hC1, hC4⟩, hn, hmk, hct, hps, hkn, hcx, hcn, hkw⟩ := hG
  refine lv_aload_n hx hb dX0_siblings_0 rfl (lv_at hl 0 rfl) ?_
  refine lv_iload_n hx hb dX0_siblings_1 rfl (lv_at hl 1 rfl) ?_
  refine vp_callSi (W.runV (As := [.int x1]) (rest := []) ⟨hx, hb, hml, hown, hts⟩ (c_X0_isServer l dC dI ad cI cJ cII cJJ S C n va mk ct ps kn cx (by omega) x1) (cwV 1 hts gX0_siblings_X0_isServer rfl rfl rfl (by decide +kernel) ⟨Nat.le_of_ble_eq_true rfl, Nat.le_of_ble_eq_true rfl⟩) ⟨xB_blind, va_recv hK hP (ci := 0) (q0 := 0) rfl rfl, fun U hU hW => ⟨rfl, xB_at hP hK hU hW⟩⟩ rfl rfl hl.1 rfl (lv_room (Nat.le_of_ble_eq_true rfl)) dX0_siblings_2 ⟨Nat.le_of_ble_eq_true rfl, Nat.le_of_ble_eq_true rfl⟩) (fun r hq => ?_)
  rcases hq with ⟨rfl, sv, hsv, rfl, hdx1⟩ | ⟨rfl, hdx1⟩
  ·
    refine lv_if_eq (tgt := 15) hx hb dX0_siblings_5 (by decide) (fun q => absurd q (by decide)) (fun _ => ?_)
    refine lv_iload_n hx hb dX0_siblings_8 rfl (lv_at hl 2 rfl) ?_
    refine vp_callSi (W.runS (As := [.int x2]) (rest := []) ⟨hx, hb, hml, hown, hts⟩ (c_X0_isKey l x2) (va_cwS 1 hts gX0_siblings_X0_isKey rfl rfl rfl (by decide +kernel) ⟨Nat.le_of_ble_eq_true rfl, Nat.le_of_ble_eq_true rfl⟩) ⟨zB_blind, fun U hU hW => ⟨rfl, trivial⟩⟩ rfl rfl hl.1 rfl (lv_room (Nat.le_of_ble_eq_true rfl)) dX0_siblings_9 ⟨Nat.le_of_ble_eq_true rfl, Nat.le_of_ble_eq_true rfl⟩) (fun r hq => ?_)
    rcases hq with ⟨rfl, ky, hky, rfl, hdx2⟩ | ⟨rfl, hdx2⟩
    ·
      refine lv_if_ne (tgt := 17) hx hb dX0_siblings_12 (by decide) (fun _ => ?_) (fun q => absurd q (by decide))
      refine lv_aload_n hx hb dX0_siblings_17 rfl (lv_at hl 0 rfl) ?_
      refine lv_iload_n hx hb dX0_siblings_18 rfl (lv_at hl 2 rfl) ?_
      refine lv_aload_n hx hb dX0_siblings_19 rfl (lv_at hl 0 rfl) ?_
      refine va_get (D := (dC, dI)) (ci := 0) (v := .ref (ad 6)) (C := RX0) (T := TX0) (N := 9) hx hb hts hin0 hown hK hP 0 rfl rfl 7 (by decide) (hts (.fieldLink RX0 42 "DottedSiblings" "knownSets" "[[J") (by decide +kernel)) (fun _ h9 => h9) rfl dX0_siblings_20 ?_
      refine lv_iload_n hx hb dX0_siblings_23 rfl (lv_at hl 2 rfl) ?_
      refine zr_aald (r := ad (20 + ky)) hx hb hK hP 6 3 rfl rfl (by omega) (by decide) (zo_at ad 20 (by omega)) dX0_siblings_24 ?_
      refine lv_iload_n hx hb dX0_siblings_25 rfl (lv_at hl 1 rfl) ?_
      refine zr_lald (v := lN (kn ky sv)) hx hb hK hP (20 + ky) 1 (xw_kn (by omega)) rfl (by omega) (by omega) rfl dX0_siblings_26 ?_
      refine vp_callSl (W.runV (As := [.int (nI ky), .long (lN (kn ky sv))]) (rest := []) ⟨hx, hb, hml, hown, hts⟩ (c_X0_greatestOf l dC dI ad cI cJ cII cJJ S C n va mk ct ps kn cx ky (kn ky sv) (by omega) (Nat.lt_trans (z40 (hkn _ _) (hn _)) (by decide)) (hn _)) (cwV 2 hts gX0_siblings_X0_greatestOf rfl rfl rfl (by decide +kernel) ⟨Nat.le_of_ble_eq_true rfl, Nat.le_of_ble_eq_true rfl⟩) ⟨xB_blind, va_recv hK hP (ci := 0) (q0 := 0) rfl rfl, fun U hU hW => ⟨rfl, xB_at hP hK hU hW⟩⟩ rfl rfl hl.1 rfl (lv_room (Nat.le_of_ble_eq_true rfl)) dX0_siblings_27 ⟨Nat.le_of_ble_eq_true rfl, Nat.le_of_ble_eq_true rfl⟩) (fun r hq => ?_)
      subst hq
      refine vp_callSi (W.runS (As := [.long (lN (zNew (n ky) (ps ky) (kn ky sv)))]) (rest := []) ⟨hx, hb, hml, hown, hts⟩ (c_J13_bitCount_95d88 l (zNew (n ky) (ps ky) (kn ky sv)) (Nat.lt_trans (Nat.lt_of_le_of_lt (zNew_le _ _ _) (z40 (hkn _ _) (hn _))) (by decide))) (va_cwS 1 hts gX0_siblings_J13_bitCount_95d88 rfl rfl rfl (by decide +kernel) ⟨Nat.le_of_ble_eq_true rfl, Nat.le_of_ble_eq_true rfl⟩) ⟨zB_blind, fun U hU hW => ⟨rfl, trivial⟩⟩ rfl rfl hl.1 rfl (lv_room (Nat.le_of_ble_eq_true rfl)) dX0_siblings_30 ⟨Nat.le_of_ble_eq_true rfl, Nat.le_of_ble_eq_true rfl⟩) (fun r hq => ?_)
      have hq := hq.trans (congrArg nI (zSize64 (Nat.lt_of_le_of_lt (zNew_le _ _ _) (z40 (hkn _ _) (hn _)))))
      subst hq
      exact W.iret (v := nI (zSize (zNew (n ky) (ps ky) (kn ky sv)))) hx hb hr (fun t ht hW => ⟨_, rfl, (by first | exact (zq2_1 hdx1).symm | exact (zq2_2 hdx2).symm | exact (by unfold aSibs; rw [zq2_s hdx1 hdx2]; first | done | rfl)), ht⟩) (fun q h => by cases h) dX0_siblings_33
    ·
      refine lv_if_ne (tgt := 17) hx hb dX0_siblings_12 (by decide) (fun q => absurd q (by decide)) (fun _ => ?_)
      refine lv_iconst (v := (-1)) hx hb dX0_siblings_15 (by decide) ?_
      exact W.iret (v := (-1)) hx hb hr (fun t ht hW => ⟨_, rfl, (by first | exact (zq2_1 hdx1).symm | exact (zq2_2 hdx2).symm | exact (by unfold aSibs; rw [zq2_s hdx1 hdx2]; first | done | rfl)), ht⟩) (fun q h => by cases h) dX0_siblings_16
  ·
    refine lv_if_eq (tgt := 15) hx hb dX0_siblings_5 (by decide) (fun _ => ?_) (fun q => absurd q (by decide))
    refine lv_iconst (v := (-1)) hx hb dX0_siblings_15 (by decide) ?_
    exact W.iret (v := (-1)) hx hb hr (fun t ht hW => ⟨_, rfl, (by first | exact (zq2_1 hdx1).symm | exact (zq2_2 hdx2).symm | exact (by unfold aSibs; rw [zq2_s hdx1 hdx2]; first | done | rfl)), ht⟩) (fun q h => by cases h) dX0_siblings_16
set_option maxHeartbeats 4000000 in
set_option maxRecDepth 100000 in
/-- sibling -/
theorem c_X0_sibling (l : Launch) (dC : Nat → ClassId) (dI : Nat → Nat → Nat) (ad : Nat → Nat) (cI cJ cII cJJ : ClassId) (S C : Nat) (n : Nat → Nat) (va : Nat → Nat → Int32) (mk ct ps kn cx : Nat → Nat → Nat) (hG : zG S C n mk ct ps kn cx) (x1 x2 x3 x4 : Int32) : Met l yX0_sibling wsX0_sibling ({ frames := 3, cells := 0, slots := 0, locals := 77 }) (va_Pc [.ref (ad 0), .int x1, .int x2, .int x3, .int x4] (xB dC dI ad cI cJ cII cJJ S C n va mk ct ps kn cx)) (vp_Sl (fun r => r = aSib S n va mk ct ps kn x1 x2 x3 x4)) 0 0 (fun _ => False) := by
  refine Met.ofW (cc := cX0_sibling) (maxL := 6) (ret := (some .long)) (by decide) rfl ?_
  intro p e s m args below meth c s₁ B hml hv
  obtain ⟨rfl, hP, hK⟩ := hv
  have hx := B.exec
  have hb := B.bytes
  have hr := B.returns
  have hts := atoms_spec (ws := wsX0_sibling) B.pre
  have hown : s.vm.findClass RX0 = some m.cls := findClass_of_methodNamed B.named
  have hlocks := B.notSynchronized
  have hin0 : ∀ w ∈ wsX00, w ∈ wsX0_sibling := fun _ h => List.mem_cons_of_mem _ (List.mem_append_right _ h)
  have hl := lv_entry ([.ref (ad 0), .int x1, .int x2, .int x3, .int x4]) (n := 6) (Nat.le_of_ble_eq_true rfl)
  rw [lg_entry_eq]
  generalize (lg_sl ([.ref (ad 0), .int x1, .int x2, .int x3, .int x4]) ++ List.replicate (6 - (lg_sl ([.ref (ad 0), .int x1, .int x2, .int x3, .int x4])).length) Slot.unset).toArray = ls at hl ⊢
  have hl : lv_has ls 6 [(0, .ref (ad 0)), (1, .int x1), (2, .int x2), (3, .int x3), (4, .int x4)] := hl
  obtain ⟨⟨hS1, hS4, hC1, hC4⟩, hn, hmk, hct, hps, hkn, hcx, hcn, hkw⟩ := hG
  refine lv_aload_n hx hb dX0_sibling_0 rfl (lv_at hl 0 rfl) ?_
  refine lv_iload_n hx hb dX0_sibling_1 rfl (lv_at hl 1 rfl) ?_
  refine vp_callSi (W.runV (As := [.int x1]) (rest := []) ⟨hx, hb, hml, hown, hts⟩ (c_X0_isServer l dC dI ad cI cJ cII cJJ S C n va mk ct ps kn cx (by omega) x1) (cwV 1 hts gX0_sibling_X0_isServer rfl rfl rfl (by decide +kernel) ⟨Nat.le_of_ble_eq_true rfl, Nat.le_of_ble_eq_true rfl⟩) ⟨xB_blind, va_recv hK hP (ci := 0) (q0 := 0) rfl rfl, fun U hU hW => ⟨rfl, xB_at hP hK hU hW⟩⟩ rfl rfl hl.1 rfl (lv_room (Nat.le_of_ble_eq_true rfl)) dX0_sibling_2 ⟨Nat.le_of_ble_eq_true rfl, Nat.le_of_ble_eq_true rfl⟩) (fun r hq => ?_)
  rcases hq with ⟨rfl, sv, hsv, rfl, hdx1⟩ | ⟨rfl, hdx1⟩
  ·
    refine lv_if_eq (tgt := 15) hx hb dX0_sibling_5 (by decide) (fun q => absurd q (by decide)) (fun _ => ?_)
    refine lv_iload_n hx hb dX0_sibling_8 rfl (lv_at hl 2 rfl) ?_
    refine vp_callSi (W.runS (As := [.int x2]) (rest := []) ⟨hx, hb, hml, hown, hts⟩ (c_X0_isKey l x2) (va_cwS 1 hts gX0_sibling_X0_isKey rfl rfl rfl (by decide +kernel) ⟨Nat.le_of_ble_eq_true rfl, Nat.le_of_ble_eq_true rfl⟩) ⟨zB_blind, fun U hU hW => ⟨rfl, trivial⟩⟩ rfl rfl hl.1 rfl (lv_room (Nat.le_of_ble_eq_true rfl)) dX0_sibling_9 ⟨Nat.le_of_ble_eq_true rfl, Nat.le_of_ble_eq_true rfl⟩) (fun r hq => ?_)
    rcases hq with ⟨rfl, ky, hky, rfl, hdx2⟩ | ⟨rfl, hdx2⟩
    ·
      refine lv_if_ne (tgt := 19) hx hb dX0_sibling_12 (by decide) (fun _ => ?_) (fun q => absurd q (by decide))
      refine lv_aload_n hx hb dX0_sibling_19 rfl (lv_at hl 0 rfl) ?_
      refine lv_iload_n hx hb dX0_sibling_20 rfl (lv_at hl 2 rfl) ?_
      refine lv_aload_n hx hb dX0_sibling_21 rfl (lv_at hl 0 rfl) ?_
      refine va_get (D := (dC, dI)) (ci := 0) (v := .ref (ad 6)) (C := RX0) (T := TX0) (N := 9) hx hb hts hin0 hown hK hP 0 rfl rfl 7 (by decide) (hts (.fieldLink RX0 42 "DottedSiblings" "knownSets" "[[J") (by decide +kernel)) (fun _ h9 => h9) rfl dX0_sibling_22 ?_
      refine lv_iload_n hx hb dX0_sibling_25 rfl (lv_at hl 2 rfl) ?_
      refine zr_aald (r := ad (20 + ky)) hx hb hK hP 6 3 rfl rfl (by omega) (by decide) (zo_at ad 20 (by omega)) dX0_sibling_26 ?_
      refine lv_iload_n hx hb dX0_sibling_27 rfl (lv_at hl 1 rfl) ?_
      refine zr_lald (v := lN (kn ky sv)) hx hb hK hP (20 + ky) 1 (xw_kn (by omega)) rfl (by omega) (by omega) rfl dX0_sibling_28 ?_
      refine lv_iload_n hx hb dX0_sibling_29 rfl (lv_at hl 3 rfl) ?_
      refine vp_callSi (W.runV (As := [.int (nI ky), .long (lN (kn ky sv)), .int x3]) (rest := []) ⟨hx, hb, hml, hown, hts⟩ (c_X0_siblingAt l dC dI ad cI cJ cII cJJ S C n va mk ct ps kn cx ky (kn ky sv) x3 (by omega) (Nat.lt_trans (z40 (hkn _ _) (hn _)) (by decide)) (hn _) (by omega) (hmk _)) (cwV 3 hts gX0_sibling_X0_siblingAt rfl rfl rfl (by decide +kernel) ⟨Nat.le_of_ble_eq_true rfl, Nat.le_of_ble_eq_true rfl⟩) ⟨xB_blind, va_recv hK hP (ci := 0) (q0 := 0) rfl rfl, fun U hU hW => ⟨rfl, xB_at hP hK hU hW⟩⟩ rfl rfl hl.1 rfl (lv_room (Nat.le_of_ble_eq_true rfl)) dX0_sibling_30 ⟨Nat.le_of_ble_eq_true rfl, Nat.le_of_ble_eq_true rfl⟩) (fun r hq => ?_)
      rcases hz : zAt S (n ky) (mk ky) (zNew (n ky) (ps ky) (kn ky sv)) x3 with _ | wr
      ·
        have hq : r = -1 := by rw [hq, hz]; rfl
        subst hq
        refine lv_istore (lv' := [(5, .int (-1)), (0, .ref (ad 0)), (1, .int (nI sv)), (2, .int (nI ky)), (3, .int x3), (4, .int x4)]) hx hb dX0_sibling_33 hl (by decide) rfl (fun ls hl => ?_)
        refine lv_iload hx hb dX0_sibling_35 (lv_at hl 0 rfl) ?_
        refine lv_iconst (v := (-1)) hx hb dX0_sibling_37 (by decide) ?_
        refine lv_icmp_ne (tgt := 47) hx hb dX0_sibling_38 (by decide) (fun q => absurd rfl q) (fun _ => ?_)
        refine lv_ldc2 (v := (-9223372036854775808)) hx hb hown (hts (.constantLong RX0 66 (-9223372036854775808)) (by decide +kernel)) dX0_sibling_41 ?_
        refine lv_goto (tgt := 56) hx hb dX0_sibling_44 (by decide) ?_
        exact W.lret (v := (-9223372036854775808)) hx hb hr (fun t ht hW => ⟨_, rfl, (by first | exact (zq2_1 hdx1).symm | exact (zq2_2 hdx2).symm | exact (by unfold aSib; rw [zq2_s hdx1 hdx2, hz]; first | done | rfl)), ht⟩) (fun q h => by cases h) dX0_sibling_56
      ·
        have hq : r = nI wr := by rw [hq, hz]; rfl
        have hwr : wr < _ := zOut_lt _ _ _ hz
        have hn9 := hn ky
        subst hq
        refine lv_istore (lv' := [(5, .int (nI wr)), (0, .ref (ad 0)), (1, .int (nI sv)), (2, .int (nI ky)), (3, .int x3), (4, .int x4)]) hx hb dX0_sibling_33 hl (by decide) rfl (fun ls hl => ?_)
        refine lv_iload hx hb dX0_sibling_35 (lv_at hl 0 rfl) ?_
        refine lv_iconst (v := (-1)) hx hb dX0_sibling_37 (by decide) ?_
        refine lv_icmp_ne (tgt := 47) hx hb dX0_sibling_38 (by decide) (fun _ => ?_) (fun q => absurd q (znm1 (by omega)))
        refine lv_aload_n hx hb dX0_sibling_47 rfl (lv_at hl 1 rfl) ?_
        refine lv_iload_n hx hb dX0_sibling_48 rfl (lv_at hl 3 rfl) ?_
        refine lv_iload hx hb dX0_sibling_49 (lv_at hl 0 rfl) ?_
        refine lv_iload hx hb dX0_sibling_51 (lv_at hl 5 rfl) ?_
        refine vp_callSl (W.runV (As := [.int (nI ky), .int (nI wr), .int x4]) (rest := []) ⟨hx, hb, hml, hown, hts⟩ (c_X0_detailOf l dC dI ad cI cJ cII cJJ S C n va mk ct ps kn cx ky wr x4 (by omega) (by omega)) (cwV 3 hts gX0_sibling_X0_detailOf rfl rfl rfl (by decide +kernel) ⟨Nat.le_of_ble_eq_true rfl, Nat.le_of_ble_eq_true rfl⟩) ⟨xB_blind, va_recv hK hP (ci := 0) (q0 := 0) rfl rfl, fun U hU hW => ⟨rfl, xB_at hP hK hU hW⟩⟩ rfl rfl hl.1 rfl (lv_room (Nat.le_of_ble_eq_true rfl)) dX0_sibling_53 ⟨Nat.le_of_ble_eq_true rfl, Nat.le_of_ble_eq_true rfl⟩) (fun r hq => ?_)
        subst hq
        exact W.lret (v := zDet x4 (va ky wr) (mk ky wr) (ct ky wr) wr) hx hb hr (fun t ht hW => ⟨_, rfl, (by first | exact (zq2_1 hdx1).symm | exact (zq2_2 hdx2).symm | exact (by unfold aSib; rw [zq2_s hdx1 hdx2, hz]; first | done | rfl)), ht⟩) (fun q h => by cases h) dX0_sibling_56
    ·
      refine lv_if_ne (tgt := 19) hx hb dX0_sibling_12 (by decide) (fun q => absurd q (by decide)) (fun _ => ?_)
      refine lv_ldc2 (v := (-9223372036854775808)) hx hb hown (hts (.constantLong RX0 66 (-9223372036854775808)) (by decide +kernel)) dX0_sibling_15 ?_
      exact W.lret (v := (-9223372036854775808)) hx hb hr (fun t ht hW => ⟨_, rfl, (by first | exact (zq2_1 hdx1).symm | exact (zq2_2 hdx2).symm | exact (by unfold aSib; rw [zq2_s hdx1 hdx2, hz]; first | done | rfl)), ht⟩) (fun q h => by cases h) dX0_sibling_18
  ·
    refine lv_if_eq (tgt := 15) hx hb dX0_sibling_5 (by decide) (fun _ => ?_) (fun q => absurd q (by decide))
    refine lv_ldc2 (v := (-9223372036854775808)) hx hb hown (hts (.constantLong RX0 66 (-9223372036854775808)) (by decide +kernel)) dX0_sibling_15 ?_
    exact W.lret (v := (-9223372036854775808)) hx hb hr (fun t ht hW => ⟨_, rfl, (by first | exact (zq2_1 hdx1).symm | exact (zq2_2 hdx2).symm | exact (by unfold aSib; rw [zq2_s hdx1 hdx2, hz]; first | done | rfl)), ht⟩) (fun q h => by cases h) dX0_sibling_18
set_option maxHeartbeats 4000000 in
set_option maxRecDepth 100000 in
/-- known -/
theorem c_X0_known (l : Launch) (dC : Nat → ClassId) (dI : Nat → Nat → Nat) (ad : Nat → Nat) (cI cJ cII cJJ : ClassId) (S C : Nat) (n : Nat → Nat) (va : Nat → Nat → Int32) (mk ct ps kn cx : Nat → Nat → Nat) (hG : zG S C n mk ct ps kn cx) (x1 x2 x3 : Int32) : Met l yX0_known wsX0_known ({ frames := 2, cells := 0, slots := 0, locals := 48 }) (va_Pc [.ref (ad 0), .int x1, .int x2, .int x3] (xB dC dI ad cI cJ cII cJJ S C n va mk ct ps kn cx)) (vp_Si (fun r => r = aKnown S n mk ct kn x1 x2 x3)) 0 0 (fun _ => False) := by
  refine Met.ofW (cc := cX0_known) (maxL := 4) (ret := (some .int)) (by decide) rfl ?_
  intro p e s m args below meth c s₁ B hml hv
  obtain ⟨rfl, hP, hK⟩ := hv
  have hx := B.exec
  have hb := B.bytes
  have hr := B.returns
  have hts := atoms_spec (ws := wsX0_known) B.pre
  have hown : s.vm.findClass RX0 = some m.cls := findClass_of_methodNamed B.named
  have hlocks := B.notSynchronized
  have hin0 : ∀ w ∈ wsX00, w ∈ wsX0_known := fun _ h => List.mem_cons_of_mem _ (List.mem_append_right _ h)
  have hl := lv_entry ([.ref (ad 0), .int x1, .int x2, .int x3]) (n := 4) (Nat.le_of_ble_eq_true rfl)
  rw [lg_entry_eq]
  generalize (lg_sl ([.ref (ad 0), .int x1, .int x2, .int x3]) ++ List.replicate (4 - (lg_sl ([.ref (ad 0), .int x1, .int x2, .int x3])).length) Slot.unset).toArray = ls at hl ⊢
  have hl : lv_has ls 4 [(0, .ref (ad 0)), (1, .int x1), (2, .int x2), (3, .int x3)] := hl
  obtain ⟨⟨hS1, hS4, hC1, hC4⟩, hn, hmk, hct, hps, hkn, hcx, hcn, hkw⟩ := hG
  refine lv_aload_n hx hb dX0_known_0 rfl (lv_at hl 0 rfl) ?_
  refine lv_iload_n hx hb dX0_known_1 rfl (lv_at hl 1 rfl) ?_
  refine vp_callSi (W.runV (As := [.int x1]) (rest := []) ⟨hx, hb, hml, hown, hts⟩ (c_X0_isServer l dC dI ad cI cJ cII cJJ S C n va mk ct ps kn cx (by omega) x1) (cwV 1 hts gX0_known_X0_isServer rfl rfl rfl (by decide +kernel) ⟨Nat.le_of_ble_eq_true rfl, Nat.le_of_ble_eq_true rfl⟩) ⟨xB_blind, va_recv hK hP (ci := 0) (q0 := 0) rfl rfl, fun U hU hW => ⟨rfl, xB_at hP hK hU hW⟩⟩ rfl rfl hl.1 rfl (lv_room (Nat.le_of_ble_eq_true rfl)) dX0_known_2 ⟨Nat.le_of_ble_eq_true rfl, Nat.le_of_ble_eq_true rfl⟩) (fun r hq => ?_)
  rcases hq with ⟨rfl, sv, hsv, rfl, hdx1⟩ | ⟨rfl, hdx1⟩
  ·
    refine lv_if_eq (tgt := 23) hx hb dX0_known_5 (by decide) (fun q => absurd q (by decide)) (fun _ => ?_)
    refine lv_iload_n hx hb dX0_known_8 rfl (lv_at hl 2 rfl) ?_
    refine vp_callSi (W.runS (As := [.int x2]) (rest := []) ⟨hx, hb, hml, hown, hts⟩ (c_X0_isKey l x2) (va_cwS 1 hts gX0_known_X0_isKey rfl rfl rfl (by decide +kernel) ⟨Nat.le_of_ble_eq_true rfl, Nat.le_of_ble_eq_true rfl⟩) ⟨zB_blind, fun U hU hW => ⟨rfl, trivial⟩⟩ rfl rfl hl.1 rfl (lv_room (Nat.le_of_ble_eq_true rfl)) dX0_known_9 ⟨Nat.le_of_ble_eq_true rfl, Nat.le_of_ble_eq_true rfl⟩) (fun r hq => ?_)
    rcases hq with ⟨rfl, ky, hky, rfl, hdx2⟩ | ⟨rfl, hdx2⟩
    ·
      refine lv_if_eq (tgt := 23) hx hb dX0_known_12 (by decide) (fun q => absurd q (by decide)) (fun _ => ?_)
      refine lv_aload_n hx hb dX0_known_15 rfl (lv_at hl 0 rfl) ?_
      refine lv_iload_n hx hb dX0_known_16 rfl (lv_at hl 3 rfl) ?_
      refine vp_callSi (W.runV (As := [.int x3]) (rest := []) ⟨hx, hb, hml, hown, hts⟩ (c_X0_isServer l dC dI ad cI cJ cII cJJ S C n va mk ct ps kn cx (by omega) x3) (cwV 1 hts gX0_known_X0_isServer rfl rfl rfl (by decide +kernel) ⟨Nat.le_of_ble_eq_true rfl, Nat.le_of_ble_eq_true rfl⟩) ⟨xB_blind, va_recv hK hP (ci := 0) (q0 := 0) rfl rfl, fun U hU hW => ⟨rfl, xB_at hP hK hU hW⟩⟩ rfl rfl hl.1 rfl (lv_room (Nat.le_of_ble_eq_true rfl)) dX0_known_17 ⟨Nat.le_of_ble_eq_true rfl, Nat.le_of_ble_eq_true rfl⟩) (fun r hq => ?_)
      rcases hq with ⟨rfl, ov, hov, rfl, hdx3⟩ | ⟨rfl, hdx3⟩
      ·
        refine lv_if_ne (tgt := 25) hx hb dX0_known_20 (by decide) (fun _ => ?_) (fun q => absurd q (by decide))
        refine lv_aload_n hx hb dX0_known_25 rfl (lv_at hl 0 rfl) ?_
        refine lv_iload_n hx hb dX0_known_26 rfl (lv_at hl 2 rfl) ?_
        refine lv_aload_n hx hb dX0_known_27 rfl (lv_at hl 0 rfl) ?_
        refine va_get (D := (dC, dI)) (ci := 0) (v := .ref (ad 6)) (C := RX0) (T := TX0) (N := 9) hx hb hts hin0 hown hK hP 0 rfl rfl 7 (by decide) (hts (.fieldLink RX0 42 "DottedSiblings" "knownSets" "[[J") (by decide +kernel)) (fun _ h9 => h9) rfl dX0_known_28 ?_
        refine lv_iload_n hx hb dX0_known_31 rfl (lv_at hl 2 rfl) ?_
        refine zr_aald (r := ad (20 + ky)) hx hb hK hP 6 3 rfl rfl (by omega) (by decide) (zo_at ad 20 (by omega)) dX0_known_32 ?_
        refine lv_iload_n hx hb dX0_known_33 rfl (lv_at hl 1 rfl) ?_
        refine zr_lald (v := lN (kn ky sv)) hx hb hK hP (20 + ky) 1 (xw_kn (by omega)) rfl (by omega) (by omega) rfl dX0_known_34 ?_
        refine lv_iload_n hx hb dX0_known_35 rfl (lv_at hl 3 rfl) ?_
        refine vp_callSi (W.runV (As := [.int (nI ky), .long (lN (kn ky sv)), .int (nI ov)]) (rest := []) ⟨hx, hb, hml, hown, hts⟩ (c_X0_vectorAt l dC dI ad cI cJ cII cJJ S C n va mk ct ps kn cx ky (kn ky sv) ov (by omega) (Nat.lt_trans (z40 (hkn _ _) (hn _)) (by decide)) (by omega) (hn _) (fun w h => Nat.lt_of_lt_of_le (hmk _ w h) hS4) (hct _)) (cwV 3 hts gX0_known_X0_vectorAt rfl rfl rfl (by decide +kernel) ⟨Nat.le_of_ble_eq_true rfl, Nat.le_of_ble_eq_true rfl⟩) ⟨xB_blind, va_recv hK hP (ci := 0) (q0 := 0) rfl rfl, fun U hU hW => ⟨rfl, xB_at hP hK hU hW⟩⟩ rfl rfl hl.1 rfl (lv_room (Nat.le_of_ble_eq_true rfl)) dX0_known_36 ⟨Nat.le_of_ble_eq_true rfl, Nat.le_of_ble_eq_true rfl⟩) (fun r hq => ?_)
        subst hq
        exact W.iret (v := nI (zVec (ct ky) (zHit (mk ky) (kn ky sv) ov) (n ky))) hx hb hr (fun t ht hW => ⟨_, rfl, (by first | exact (zq3_1 hdx1).symm | exact (zq3_2 hdx2).symm | exact (zq3_3 hdx3).symm | exact (by unfold aKnown; rw [zq3_s hdx1 hdx2 hdx3]; first | done | rfl)), ht⟩) (fun q h => by cases h) dX0_known_39
      ·
        refine lv_if_ne (tgt := 25) hx hb dX0_known_20 (by decide) (fun q => absurd q (by decide)) (fun _ => ?_)
        refine lv_iconst (v := (-1)) hx hb dX0_known_23 (by decide) ?_
        exact W.iret (v := (-1)) hx hb hr (fun t ht hW => ⟨_, rfl, (by first | exact (zq3_1 hdx1).symm | exact (zq3_2 hdx2).symm | exact (zq3_3 hdx3).symm | exact (by unfold aKnown; rw [zq3_s hdx1 hdx2 hdx3]; first | done | rfl)), ht⟩) (fun q h => by cases h) dX0_known_24
    ·
      refine lv_if_eq (tgt := 23) hx hb dX0_known_12 (by decide) (fun _ => ?_) (fun q => absurd q (by decide))
      refine lv_iconst (v := (-1)) hx hb dX0_known_23 (by decide) ?_
      exact W.iret (v := (-1)) hx hb hr (fun t ht hW => ⟨_, rfl, (by first | exact (zq3_1 hdx1).symm | exact (zq3_2 hdx2).symm | exact (zq3_3 hdx3).symm | exact (by unfold aKnown; rw [zq3_s hdx1 hdx2 hdx3]; first | done | rfl)), ht⟩) (fun q h => by cases h) dX0_known_24
  ·
    refine lv_if_eq (tgt := 23) hx hb dX0_known_5 (by decide) (fun _ => ?_) (fun q => absurd q (by decide))
    refine lv_iconst (v := (-1)) hx hb dX0_known_23 (by decide) ?_
    exact W.iret (v := (-1)) hx hb hr (fun t ht hW => ⟨_, rfl, (by first | exact (zq3_1 hdx1).symm | exact (zq3_2 hdx2).symm | exact (zq3_3 hdx3).symm | exact (by unfold aKnown; rw [zq3_s hdx1 hdx2 hdx3]; first | done | rfl)), ht⟩) (fun q h => by cases h) dX0_known_24
set_option maxHeartbeats 4000000 in
set_option maxRecDepth 100000 in
/-- context -/
theorem c_X0_context (l : Launch) (dC : Nat → ClassId) (dI : Nat → Nat → Nat) (ad : Nat → Nat) (cI cJ cII cJJ : ClassId) (S C : Nat) (n : Nat → Nat) (va : Nat → Nat → Int32) (mk ct ps kn cx : Nat → Nat → Nat) (hG : zG S C n mk ct ps kn cx) (x1 x2 x3 : Int32) : Met l yX0_context wsX0_context ({ frames := 2, cells := 0, slots := 0, locals := 48 }) (va_Pc [.ref (ad 0), .int x1, .int x2, .int x3] (xB dC dI ad cI cJ cII cJJ S C n va mk ct ps kn cx)) (vp_Si (fun r => r = aCtx S C n mk ct cx x1 x2 x3)) 0 0 (fun _ => False) := by
  refine Met.ofW (cc := cX0_context) (maxL := 4) (ret := (some .int)) (by decide) rfl ?_
  intro p e s m args below meth c s₁ B hml hv
  obtain ⟨rfl, hP, hK⟩ := hv
  have hx := B.exec
  have hb := B.bytes
  have hr := B.returns
  have hts := atoms_spec (ws := wsX0_context) B.pre
  have hown : s.vm.findClass RX0 = some m.cls := findClass_of_methodNamed B.named
  have hlocks := B.notSynchronized
  have hin0 : ∀ w ∈ wsX00, w ∈ wsX0_context := fun _ h => List.mem_cons_of_mem _ (List.mem_append_right _ h)
  have hl := lv_entry ([.ref (ad 0), .int x1, .int x2, .int x3]) (n := 4) (Nat.le_of_ble_eq_true rfl)
  rw [lg_entry_eq]
  generalize (lg_sl ([.ref (ad 0), .int x1, .int x2, .int x3]) ++ List.replicate (4 - (lg_sl ([.ref (ad 0), .int x1, .int x2, .int x3])).length) Slot.unset).toArray = ls at hl ⊢
  have hl : lv_has ls 4 [(0, .ref (ad 0)), (1, .int x1), (2, .int x2), (3, .int x3)] := hl
  obtain ⟨⟨hS1, hS4, hC1, hC4⟩, hn, hmk, hct, hps, hkn, hcx, hcn, hkw⟩ := hG
  refine lv_aload_n hx hb dX0_context_0 rfl (lv_at hl 0 rfl) ?_
  refine lv_iload_n hx hb dX0_context_1 rfl (lv_at hl 1 rfl) ?_
  refine vp_callSi (W.runV (As := [.int x1]) (rest := []) ⟨hx, hb, hml, hown, hts⟩ (c_X0_isClient l dC dI ad cI cJ cII cJJ S C n va mk ct ps kn cx (by omega) x1) (cwV 1 hts gX0_context_X0_isClient rfl rfl rfl (by decide +kernel) ⟨Nat.le_of_ble_eq_true rfl, Nat.le_of_ble_eq_true rfl⟩) ⟨xB_blind, va_recv hK hP (ci := 0) (q0 := 0) rfl rfl, fun U hU hW => ⟨rfl, xB_at hP hK hU hW⟩⟩ rfl rfl hl.1 rfl (lv_room (Nat.le_of_ble_eq_true rfl)) dX0_context_2 ⟨Nat.le_of_ble_eq_true rfl, Nat.le_of_ble_eq_true rfl⟩) (fun r hq => ?_)
  rcases hq with ⟨rfl, cl, hcl, rfl, hdx1⟩ | ⟨rfl, hdx1⟩
  ·
    refine lv_if_eq (tgt := 23) hx hb dX0_context_5 (by decide) (fun q => absurd q (by decide)) (fun _ => ?_)
    refine lv_iload_n hx hb dX0_context_8 rfl (lv_at hl 2 rfl) ?_
    refine vp_callSi (W.runS (As := [.int x2]) (rest := []) ⟨hx, hb, hml, hown, hts⟩ (c_X0_isKey l x2) (va_cwS 1 hts gX0_context_X0_isKey rfl rfl rfl (by decide +kernel) ⟨Nat.le_of_ble_eq_true rfl, Nat.le_of_ble_eq_true rfl⟩) ⟨zB_blind, fun U hU hW => ⟨rfl, trivial⟩⟩ rfl rfl hl.1 rfl (lv_room (Nat.le_of_ble_eq_true rfl)) dX0_context_9 ⟨Nat.le_of_ble_eq_true rfl, Nat.le_of_ble_eq_true rfl⟩) (fun r hq => ?_)
    rcases hq with ⟨rfl, ky, hky, rfl, hdx2⟩ | ⟨rfl, hdx2⟩
    ·
      refine lv_if_eq (tgt := 23) hx hb dX0_context_12 (by decide) (fun q => absurd q (by decide)) (fun _ => ?_)
      refine lv_aload_n hx hb dX0_context_15 rfl (lv_at hl 0 rfl) ?_
      refine lv_iload_n hx hb dX0_context_16 rfl (lv_at hl 3 rfl) ?_
      refine vp_callSi (W.runV (As := [.int x3]) (rest := []) ⟨hx, hb, hml, hown, hts⟩ (c_X0_isServer l dC dI ad cI cJ cII cJJ S C n va mk ct ps kn cx (by omega) x3) (cwV 1 hts gX0_context_X0_isServer rfl rfl rfl (by decide +kernel) ⟨Nat.le_of_ble_eq_true rfl, Nat.le_of_ble_eq_true rfl⟩) ⟨xB_blind, va_recv hK hP (ci := 0) (q0 := 0) rfl rfl, fun U hU hW => ⟨rfl, xB_at hP hK hU hW⟩⟩ rfl rfl hl.1 rfl (lv_room (Nat.le_of_ble_eq_true rfl)) dX0_context_17 ⟨Nat.le_of_ble_eq_true rfl, Nat.le_of_ble_eq_true rfl⟩) (fun r hq => ?_)
      rcases hq with ⟨rfl, ov, hov, rfl, hdx3⟩ | ⟨rfl, hdx3⟩
      ·
        refine lv_if_ne (tgt := 25) hx hb dX0_context_20 (by decide) (fun _ => ?_) (fun q => absurd q (by decide))
        refine lv_aload_n hx hb dX0_context_25 rfl (lv_at hl 0 rfl) ?_
        refine lv_iload_n hx hb dX0_context_26 rfl (lv_at hl 2 rfl) ?_
        refine lv_aload_n hx hb dX0_context_27 rfl (lv_at hl 0 rfl) ?_
        refine va_get (D := (dC, dI)) (ci := 0) (v := .ref (ad 7)) (C := RX0) (T := TX0) (N := 9) hx hb hts hin0 hown hK hP 0 rfl rfl 8 (by decide) (hts (.fieldLink RX0 45 "DottedSiblings" "contextSets" "[[J") (by decide +kernel)) (fun _ h9 => h9) rfl dX0_context_28 ?_
        refine lv_iload_n hx hb dX0_context_31 rfl (lv_at hl 2 rfl) ?_
        refine zr_aald (r := ad (23 + ky)) hx hb hK hP 7 3 rfl rfl (by omega) (by decide) (zo_at ad 23 (by omega)) dX0_context_32 ?_
        refine lv_iload_n hx hb dX0_context_33 rfl (lv_at hl 1 rfl) ?_
        refine zr_lald (v := lN (cx ky cl)) hx hb hK hP (23 + ky) 1 (xw_cx (by omega)) rfl (by omega) (by omega) rfl dX0_context_34 ?_
        refine lv_iload_n hx hb dX0_context_35 rfl (lv_at hl 3 rfl) ?_
        refine vp_callSi (W.runV (As := [.int (nI ky), .long (lN (cx ky cl)), .int (nI ov)]) (rest := []) ⟨hx, hb, hml, hown, hts⟩ (c_X0_vectorAt l dC dI ad cI cJ cII cJJ S C n va mk ct ps kn cx ky (cx ky cl) ov (by omega) (Nat.lt_trans (z40 (hcx _ _) (hn _)) (by decide)) (by omega) (hn _) (fun w h => Nat.lt_of_lt_of_le (hmk _ w h) hS4) (hct _)) (cwV 3 hts gX0_context_X0_vectorAt rfl rfl rfl (by decide +kernel) ⟨Nat.le_of_ble_eq_true rfl, Nat.le_of_ble_eq_true rfl⟩) ⟨xB_blind, va_recv hK hP (ci := 0) (q0 := 0) rfl rfl, fun U hU hW => ⟨rfl, xB_at hP hK hU hW⟩⟩ rfl rfl hl.1 rfl (lv_room (Nat.le_of_ble_eq_true rfl)) dX0_context_36 ⟨Nat.le_of_ble_eq_true rfl, Nat.le_of_ble_eq_true rfl⟩) (fun r hq => ?_)
        subst hq
        exact W.iret (v := nI (zVec (ct ky) (zHit (mk ky) (cx ky cl) ov) (n ky))) hx hb hr (fun t ht hW => ⟨_, rfl, (by first | exact (zq3_1 hdx1).symm | exact (zq3_2 hdx2).symm | exact (zq3_3 hdx3).symm | exact (by unfold aCtx; rw [zq3_s hdx1 hdx2 hdx3]; first | done | rfl)), ht⟩) (fun q h => by cases h) dX0_context_39
      ·
        refine lv_if_ne (tgt := 25) hx hb dX0_context_20 (by decide) (fun q => absurd q (by decide)) (fun _ => ?_)
        refine lv_iconst (v := (-1)) hx hb dX0_context_23 (by decide) ?_
        exact W.iret (v := (-1)) hx hb hr (fun t ht hW => ⟨_, rfl, (by first | exact (zq3_1 hdx1).symm | exact (zq3_2 hdx2).symm | exact (zq3_3 hdx3).symm | exact (by unfold aCtx; rw [zq3_s hdx1 hdx2 hdx3]; first | done | rfl)), ht⟩) (fun q h => by cases h) dX0_context_24
    ·
      refine lv_if_eq (tgt := 23) hx hb dX0_context_12 (by decide) (fun _ => ?_) (fun q => absurd q (by decide))
      refine lv_iconst (v := (-1)) hx hb dX0_context_23 (by decide) ?_
      exact W.iret (v := (-1)) hx hb hr (fun t ht hW => ⟨_, rfl, (by first | exact (zq3_1 hdx1).symm | exact (zq3_2 hdx2).symm | exact (zq3_3 hdx3).symm | exact (by unfold aCtx; rw [zq3_s hdx1 hdx2 hdx3]; first | done | rfl)), ht⟩) (fun q h => by cases h) dX0_context_24
  ·
    refine lv_if_eq (tgt := 23) hx hb dX0_context_5 (by decide) (fun _ => ?_) (fun q => absurd q (by decide))
    refine lv_iconst (v := (-1)) hx hb dX0_context_23 (by decide) ?_
    exact W.iret (v := (-1)) hx hb hr (fun t ht hW => ⟨_, rfl, (by first | exact (zq3_1 hdx1).symm | exact (zq3_2 hdx2).symm | exact (zq3_3 hdx3).symm | exact (by unfold aCtx; rw [zq3_s hdx1 hdx2 hdx3]; first | done | rfl)), ht⟩) (fun q h => by cases h) dX0_context_24
set_option maxHeartbeats 4000000 in
set_option maxRecDepth 100000 in
/-- sees -/
theorem c_X0_sees (l : Launch) (dC : Nat → ClassId) (dI : Nat → Nat → Nat) (ad : Nat → Nat) (cI cJ cII cJJ : ClassId) (S C : Nat) (n : Nat → Nat) (va : Nat → Nat → Int32) (mk ct ps kn cx : Nat → Nat → Nat) (hG : zG S C n mk ct ps kn cx) (x1 x2 x3 : Int32) : Met l yX0_sees wsX0_sees ({ frames := 1, cells := 0, slots := 0, locals := 22 }) (va_Pc [.ref (ad 0), .int x1, .int x2, .int x3] (xB dC dI ad cI cJ cII cJJ S C n va mk ct ps kn cx)) (vp_Si (fun r => r = aSees C n cx x1 x2 x3)) 0 0 (fun _ => False) := by
  refine Met.ofW (cc := cX0_sees) (maxL := 4) (ret := (some .boolean)) (by decide) rfl ?_
  intro p e s m args below meth c s₁ B hml hv
  obtain ⟨rfl, hP, hK⟩ := hv
  have hx := B.exec
  have hb := B.bytes
  have hr := B.returns
  have hts := atoms_spec (ws := wsX0_sees) B.pre
  have hown : s.vm.findClass RX0 = some m.cls := findClass_of_methodNamed B.named
  have hlocks := B.notSynchronized
  have hin0 : ∀ w ∈ wsX00, w ∈ wsX0_sees := fun _ h => List.mem_cons_of_mem _ (List.mem_append_right _ h)
  have hl := lv_entry ([.ref (ad 0), .int x1, .int x2, .int x3]) (n := 4) (Nat.le_of_ble_eq_true rfl)
  rw [lg_entry_eq]
  generalize (lg_sl ([.ref (ad 0), .int x1, .int x2, .int x3]) ++ List.replicate (4 - (lg_sl ([.ref (ad 0), .int x1, .int x2, .int x3])).length) Slot.unset).toArray = ls at hl ⊢
  have hl : lv_has ls 4 [(0, .ref (ad 0)), (1, .int x1), (2, .int x2), (3, .int x3)] := hl
  obtain ⟨⟨hS1, hS4, hC1, hC4⟩, hn, hmk, hct, hps, hkn, hcx, hcn, hkw⟩ := hG
  refine lv_aload_n hx hb dX0_sees_0 rfl (lv_at hl 0 rfl) ?_
  refine lv_iload_n hx hb dX0_sees_1 rfl (lv_at hl 1 rfl) ?_
  refine vp_callSi (W.runV (As := [.int x1]) (rest := []) ⟨hx, hb, hml, hown, hts⟩ (c_X0_isClient l dC dI ad cI cJ cII cJJ S C n va mk ct ps kn cx (by omega) x1) (cwV 1 hts gX0_sees_X0_isClient rfl rfl rfl (by decide +kernel) ⟨Nat.le_of_ble_eq_true rfl, Nat.le_of_ble_eq_true rfl⟩) ⟨xB_blind, va_recv hK hP (ci := 0) (q0 := 0) rfl rfl, fun U hU hW => ⟨rfl, xB_at hP hK hU hW⟩⟩ rfl rfl hl.1 rfl (lv_room (Nat.le_of_ble_eq_true rfl)) dX0_sees_2 ⟨Nat.le_of_ble_eq_true rfl, Nat.le_of_ble_eq_true rfl⟩) (fun r hq => ?_)
  rcases hq with ⟨rfl, cl, hcl, rfl, hdx1⟩ | ⟨rfl, hdx1⟩
  ·
    refine lv_if_eq (tgt := 29) hx hb dX0_sees_5 (by decide) (fun q => absurd q (by decide)) (fun _ => ?_)
    refine lv_iload_n hx hb dX0_sees_8 rfl (lv_at hl 2 rfl) ?_
    refine vp_callSi (W.runS (As := [.int x2]) (rest := []) ⟨hx, hb, hml, hown, hts⟩ (c_X0_isKey l x2) (va_cwS 1 hts gX0_sees_X0_isKey rfl rfl rfl (by decide +kernel) ⟨Nat.le_of_ble_eq_true rfl, Nat.le_of_ble_eq_true rfl⟩) ⟨zB_blind, fun U hU hW => ⟨rfl, trivial⟩⟩ rfl rfl hl.1 rfl (lv_room (Nat.le_of_ble_eq_true rfl)) dX0_sees_9 ⟨Nat.le_of_ble_eq_true rfl, Nat.le_of_ble_eq_true rfl⟩) (fun r hq => ?_)
    rcases hq with ⟨rfl, ky, hky, rfl, hdx2⟩ | ⟨rfl, hdx2⟩
    ·
      refine lv_if_eq (tgt := 29) hx hb dX0_sees_12 (by decide) (fun q => absurd q (by decide)) (fun _ => ?_)
      refine lv_iload_n hx hb dX0_sees_15 rfl (lv_at hl 3 rfl) ?_
      refine lv_if_lt (tgt := 29) hx hb dX0_sees_16 (by decide) (fun c16 => ?_) (fun c16 => ?_)
      ·
        refine lv_iconst (v := nI 0) hx hb dX0_sees_29 (by decide) ?_
        exact W.zret (v := nI 0) hx hb hr (by first | rfl | decide) (fun t ht hW => ⟨_, rfl, (by first | exact (zq2_1 hdx1).symm | exact (zq2_2 hdx2).symm | exact (by unfold aSees; rw [zq2_s hdx1 hdx2, zD_neg c16]; first | done | rfl) | exact (by unfold aSees; rw [zq2_s hdx1 hdx2, zD_big (Nat.lt_of_le_of_lt (hn ky) (by decide)) (Int32.not_lt.mp c26)]; first | done | rfl) | exact (by unfold aSees; rw [zq2_s hdx1 hdx2, hdx3]; show _ = zB01 _; rw [c40]; rfl)), ht⟩) (fun q h => by cases h) dX0_sees_30
      ·
        refine lv_iload_n hx hb dX0_sees_19 rfl (lv_at hl 3 rfl) ?_
        refine lv_aload_n hx hb dX0_sees_20 rfl (lv_at hl 0 rfl) ?_
        refine va_get (D := (dC, dI)) (ci := 0) (v := .ref (ad 1)) (C := RX0) (T := TX0) (N := 9) hx hb hts hin0 hown hK hP 0 rfl rfl 2 (by decide) (hts (.fieldLink RX0 22 "DottedSiblings" "written" "[I") (by decide +kernel)) (fun _ h9 => h9) rfl dX0_sees_21 ?_
        refine lv_iload_n hx hb dX0_sees_24 rfl (lv_at hl 2 rfl) ?_
        refine zr_iald (v := nI (n ky)) hx hb hK hP 1 0 rfl rfl (by omega) (by omega) rfl dX0_sees_25 ?_
        refine lv_icmp_lt (tgt := 31) hx hb dX0_sees_26 (by decide) (fun c26 => ?_) (fun c26 => ?_)
        ·
          have hn9 := hn ky
          obtain ⟨wr, hwr, rfl, hdx3⟩ := zD_in (N := n ky) (by omega) c16 (fun q => absurd c26 (Int32.not_lt.mpr q))
          refine lv_aload_n hx hb dX0_sees_31 rfl (lv_at hl 0 rfl) ?_
          refine va_get (D := (dC, dI)) (ci := 0) (v := .ref (ad 7)) (C := RX0) (T := TX0) (N := 9) hx hb hts hin0 hown hK hP 0 rfl rfl 8 (by decide) (hts (.fieldLink RX0 45 "DottedSiblings" "contextSets" "[[J") (by decide +kernel)) (fun _ h9 => h9) rfl dX0_sees_32 ?_
          refine lv_iload_n hx hb dX0_sees_35 rfl (lv_at hl 2 rfl) ?_
          refine zr_aald (r := ad (23 + ky)) hx hb hK hP 7 3 rfl rfl (by omega) (by decide) (zo_at ad 23 (by omega)) dX0_sees_36 ?_
          refine lv_iload_n hx hb dX0_sees_37 rfl (lv_at hl 1 rfl) ?_
          refine zr_lald (v := lN (cx ky cl)) hx hb hK hP (23 + ky) 1 (xw_cx (by omega)) rfl (by omega) (by omega) rfl dX0_sees_38 ?_
          refine lv_iload_n hx hb dX0_sees_39 rfl (lv_at hl 3 rfl) ?_
          refine vp_callSi (W.runS (As := [.long (lN (cx ky cl)), .int (nI wr)]) (rest := []) ⟨hx, hb, hml, hown, hts⟩ (c_X0_has l (cx ky cl) wr (Nat.lt_trans (z40 (hcx _ _) (hn _)) (by decide)) (by omega)) (va_cwS 2 hts gX0_sees_X0_has rfl rfl rfl (by decide +kernel) ⟨Nat.le_of_ble_eq_true rfl, Nat.le_of_ble_eq_true rfl⟩) ⟨zB_blind, fun U hU hW => ⟨rfl, trivial⟩⟩ rfl rfl hl.1 rfl (lv_room (Nat.le_of_ble_eq_true rfl)) dX0_sees_40 ⟨Nat.le_of_ble_eq_true rfl, Nat.le_of_ble_eq_true rfl⟩) (fun r hq => ?_)
          rcases hq with ⟨rfl, c40⟩ | ⟨rfl, c40⟩
          ·
            exact W.zret (v := 1) hx hb hr (by first | rfl | decide) (fun t ht hW => ⟨_, rfl, (by first | exact (zq2_1 hdx1).symm | exact (zq2_2 hdx2).symm | exact (by unfold aSees; rw [zq2_s hdx1 hdx2, zD_neg c16]; first | done | rfl) | exact (by unfold aSees; rw [zq2_s hdx1 hdx2, zD_big (Nat.lt_of_le_of_lt (hn ky) (by decide)) (Int32.not_lt.mp c26)]; first | done | rfl) | exact (by unfold aSees; rw [zq2_s hdx1 hdx2, hdx3]; show _ = zB01 _; rw [c40]; rfl)), ht⟩) (fun q h => by cases h) dX0_sees_43
          ·
            exact W.zret (v := 0) hx hb hr (by first | rfl | decide) (fun t ht hW => ⟨_, rfl, (by first | exact (zq2_1 hdx1).symm | exact (zq2_2 hdx2).symm | exact (by unfold aSees; rw [zq2_s hdx1 hdx2, zD_neg c16]; first | done | rfl) | exact (by unfold aSees; rw [zq2_s hdx1 hdx2, zD_big (Nat.lt_of_le_of_lt (hn ky) (by decide)) (Int32.not_lt.mp c26)]; first | done | rfl) | exact (by unfold aSees; rw [zq2_s hdx1 hdx2, hdx3]; show _ = zB01 _; rw [c40]; rfl)), ht⟩) (fun q h => by cases h) dX0_sees_43
        ·
          refine lv_iconst (v := nI 0) hx hb dX0_sees_29 (by decide) ?_
          exact W.zret (v := nI 0) hx hb hr (by first | rfl | decide) (fun t ht hW => ⟨_, rfl, (by first | exact (zq2_1 hdx1).symm | exact (zq2_2 hdx2).symm | exact (by unfold aSees; rw [zq2_s hdx1 hdx2, zD_neg c16]; first | done | rfl) | exact (by unfold aSees; rw [zq2_s hdx1 hdx2, zD_big (Nat.lt_of_le_of_lt (hn ky) (by decide)) (Int32.not_lt.mp c26)]; first | done | rfl) | exact (by unfold aSees; rw [zq2_s hdx1 hdx2, hdx3]; show _ = zB01 _; rw [c40]; rfl)), ht⟩) (fun q h => by cases h) dX0_sees_30
    ·
      refine lv_if_eq (tgt := 29) hx hb dX0_sees_12 (by decide) (fun _ => ?_) (fun q => absurd q (by decide))
      refine lv_iconst (v := nI 0) hx hb dX0_sees_29 (by decide) ?_
      exact W.zret (v := nI 0) hx hb hr (by first | rfl | decide) (fun t ht hW => ⟨_, rfl, (by first | exact (zq2_1 hdx1).symm | exact (zq2_2 hdx2).symm | exact (by unfold aSees; rw [zq2_s hdx1 hdx2, zD_neg c16]; first | done | rfl) | exact (by unfold aSees; rw [zq2_s hdx1 hdx2, zD_big (Nat.lt_of_le_of_lt (hn ky) (by decide)) (Int32.not_lt.mp c26)]; first | done | rfl) | exact (by unfold aSees; rw [zq2_s hdx1 hdx2, hdx3]; show _ = zB01 _; rw [c40]; rfl)), ht⟩) (fun q h => by cases h) dX0_sees_30
  ·
    refine lv_if_eq (tgt := 29) hx hb dX0_sees_5 (by decide) (fun _ => ?_) (fun q => absurd q (by decide))
    refine lv_iconst (v := nI 0) hx hb dX0_sees_29 (by decide) ?_
    exact W.zret (v := nI 0) hx hb hr (by first | rfl | decide) (fun t ht hW => ⟨_, rfl, (by first | exact (zq2_1 hdx1).symm | exact (zq2_2 hdx2).symm | exact (by unfold aSees; rw [zq2_s hdx1 hdx2, zD_neg c16]; first | done | rfl) | exact (by unfold aSees; rw [zq2_s hdx1 hdx2, zD_big (Nat.lt_of_le_of_lt (hn ky) (by decide)) (Int32.not_lt.mp c26)]; first | done | rfl) | exact (by unfold aSees; rw [zq2_s hdx1 hdx2, hdx3]; show _ = zB01 _; rw [c40]; rfl)), ht⟩) (fun q h => by cases h) dX0_sees_30
set_option maxHeartbeats 4000000 in
set_option maxRecDepth 100000 in
/-- same -/
theorem c_X0_same (l : Launch) (dC : Nat → ClassId) (dI : Nat → Nat → Nat) (ad : Nat → Nat) (cI cJ cII cJJ : ClassId) (S C : Nat) (n : Nat → Nat) (va : Nat → Nat → Int32) (mk ct ps kn cx : Nat → Nat → Nat) (hG : zG S C n mk ct ps kn cx) (x1 x2 x3 : Int32) : Met l yX0_same wsX0_same ({ frames := 1, cells := 0, slots := 0, locals := 21 }) (va_Pc [.ref (ad 0), .int x1, .int x2, .int x3] (xB dC dI ad cI cJ cII cJJ S C n va mk ct ps kn cx)) (vp_Si (fun r => r = aSame S kn x1 x2 x3)) 0 0 (fun _ => False) := by
  refine Met.ofW (cc := cX0_same) (maxL := 4) (ret := (some .boolean)) (by decide) rfl ?_
  intro p e s m args below meth c s₁ B hml hv
  obtain ⟨rfl, hP, hK⟩ := hv
  have hx := B.exec
  have hb := B.bytes
  have hr := B.returns
  have hts := atoms_spec (ws := wsX0_same) B.pre
  have hown : s.vm.findClass RX0 = some m.cls := findClass_of_methodNamed B.named
  have hlocks := B.notSynchronized
  have hin0 : ∀ w ∈ wsX00, w ∈ wsX0_same := fun _ h => List.mem_cons_of_mem _ (List.mem_append_right _ h)
  have hl := lv_entry ([.ref (ad 0), .int x1, .int x2, .int x3]) (n := 4) (Nat.le_of_ble_eq_true rfl)
  rw [lg_entry_eq]
  generalize (lg_sl ([.ref (ad 0), .int x1, .int x2, .int x3]) ++ List.replicate (4 - (lg_sl ([.ref (ad 0), .int x1, .int x2, .int x3])).length) Slot.unset).toArray = ls at hl ⊢
  have hl : lv_has ls 4 [(0, .ref (ad 0)), (1, .int x1), (2, .int x2), (3, .int x3)] := hl
  obtain ⟨⟨hS1, hS4, hC1, hC4⟩, hn, hmk, hct, hps, hkn, hcx, hcn, hkw⟩ := hG
  refine lv_aload_n hx hb dX0_same_0 rfl (lv_at hl 0 rfl) ?_
  refine lv_iload_n hx hb dX0_same_1 rfl (lv_at hl 1 rfl) ?_
  refine vp_callSi (W.runV (As := [.int x1]) (rest := []) ⟨hx, hb, hml, hown, hts⟩ (c_X0_isServer l dC dI ad cI cJ cII cJJ S C n va mk ct ps kn cx (by omega) x1) (cwV 1 hts gX0_same_X0_isServer rfl rfl rfl (by decide +kernel) ⟨Nat.le_of_ble_eq_true rfl, Nat.le_of_ble_eq_true rfl⟩) ⟨xB_blind, va_recv hK hP (ci := 0) (q0 := 0) rfl rfl, fun U hU hW => ⟨rfl, xB_at hP hK hU hW⟩⟩ rfl rfl hl.1 rfl (lv_room (Nat.le_of_ble_eq_true rfl)) dX0_same_2 ⟨Nat.le_of_ble_eq_true rfl, Nat.le_of_ble_eq_true rfl⟩) (fun r hq => ?_)
  rcases hq with ⟨rfl, sa, hsa, rfl, hdx1⟩ | ⟨rfl, hdx1⟩
  ·
    refine lv_if_eq (tgt := 23) hx hb dX0_same_5 (by decide) (fun q => absurd q (by decide)) (fun _ => ?_)
    refine lv_aload_n hx hb dX0_same_8 rfl (lv_at hl 0 rfl) ?_
    refine lv_iload_n hx hb dX0_same_9 rfl (lv_at hl 2 rfl) ?_
    refine vp_callSi (W.runV (As := [.int x2]) (rest := []) ⟨hx, hb, hml, hown, hts⟩ (c_X0_isServer l dC dI ad cI cJ cII cJJ S C n va mk ct ps kn cx (by omega) x2) (cwV 1 hts gX0_same_X0_isServer rfl rfl rfl (by decide +kernel) ⟨Nat.le_of_ble_eq_true rfl, Nat.le_of_ble_eq_true rfl⟩) ⟨xB_blind, va_recv hK hP (ci := 0) (q0 := 0) rfl rfl, fun U hU hW => ⟨rfl, xB_at hP hK hU hW⟩⟩ rfl rfl hl.1 rfl (lv_room (Nat.le_of_ble_eq_true rfl)) dX0_same_10 ⟨Nat.le_of_ble_eq_true rfl, Nat.le_of_ble_eq_true rfl⟩) (fun r hq => ?_)
    rcases hq with ⟨rfl, sb, hsb, rfl, hdx2⟩ | ⟨rfl, hdx2⟩
    ·
      refine lv_if_eq (tgt := 23) hx hb dX0_same_13 (by decide) (fun q => absurd q (by decide)) (fun _ => ?_)
      refine lv_iload_n hx hb dX0_same_16 rfl (lv_at hl 3 rfl) ?_
      refine vp_callSi (W.runS (As := [.int x3]) (rest := []) ⟨hx, hb, hml, hown, hts⟩ (c_X0_isKey l x3) (va_cwS 1 hts gX0_same_X0_isKey rfl rfl rfl (by decide +kernel) ⟨Nat.le_of_ble_eq_true rfl, Nat.le_of_ble_eq_true rfl⟩) ⟨zB_blind, fun U hU hW => ⟨rfl, trivial⟩⟩ rfl rfl hl.1 rfl (lv_room (Nat.le_of_ble_eq_true rfl)) dX0_same_17 ⟨Nat.le_of_ble_eq_true rfl, Nat.le_of_ble_eq_true rfl⟩) (fun r hq => ?_)
      rcases hq with ⟨rfl, ky, hky, rfl, hdx3⟩ | ⟨rfl, hdx3⟩
      ·
        refine lv_if_ne (tgt := 25) hx hb dX0_same_20 (by decide) (fun _ => ?_) (fun q => absurd q (by decide))
        refine lv_aload_n hx hb dX0_same_25 rfl (lv_at hl 0 rfl) ?_
        refine va_get (D := (dC, dI)) (ci := 0) (v := .ref (ad 6)) (C := RX0) (T := TX0) (N := 9) hx hb hts hin0 hown hK hP 0 rfl rfl 7 (by decide) (hts (.fieldLink RX0 42 "DottedSiblings" "knownSets" "[[J") (by decide +kernel)) (fun _ h9 => h9) rfl dX0_same_26 ?_
        refine lv_iload_n hx hb dX0_same_29 rfl (lv_at hl 3 rfl) ?_
        refine zr_aald (r := ad (20 + ky)) hx hb hK hP 6 3 rfl rfl (by omega) (by decide) (zo_at ad 20 (by omega)) dX0_same_30 ?_
        refine lv_iload_n hx hb dX0_same_31 rfl (lv_at hl 1 rfl) ?_
        refine zr_lald (v := lN (kn ky sa)) hx hb hK hP (20 + ky) 1 (xw_kn (by omega)) rfl (by omega) (by omega) rfl dX0_same_32 ?_
        refine lv_aload_n hx hb dX0_same_33 rfl (lv_at hl 0 rfl) ?_
        refine va_get (D := (dC, dI)) (ci := 0) (v := .ref (ad 6)) (C := RX0) (T := TX0) (N := 9) hx hb hts hin0 hown hK hP 0 rfl rfl 7 (by decide) (hts (.fieldLink RX0 42 "DottedSiblings" "knownSets" "[[J") (by decide +kernel)) (fun _ h9 => h9) rfl dX0_same_34 ?_
        refine lv_iload_n hx hb dX0_same_37 rfl (lv_at hl 3 rfl) ?_
        refine zr_aald (r := ad (20 + ky)) hx hb hK hP 6 3 rfl rfl (by omega) (by decide) (zo_at ad 20 (by omega)) dX0_same_38 ?_
        refine lv_iload_n hx hb dX0_same_39 rfl (lv_at hl 2 rfl) ?_
        refine zr_lald (v := lN (kn ky sb)) hx hb hK hP (20 + ky) 1 (xw_kn (by omega)) rfl (by omega) (by omega) rfl dX0_same_40 ?_
        refine zr_leq (tgt := 49) hx hb (Nat.lt_trans (z40 (hkn _ _) (hn _)) (by decide)) (Nat.lt_trans (z40 (hkn _ _) (hn _)) (by decide)) dX0_same_41 dX0_same_42 (by decide) (fun c41 => ?_) (fun c41 => ?_)
        ·
          refine lv_iconst (v := nI 0) hx hb dX0_same_49 (by decide) ?_
          exact W.zret (v := nI 0) hx hb hr (by first | rfl | decide) (fun t ht hW => ⟨_, rfl, (by first | exact (zq3_1 hdx1).symm | exact (zq3_2 hdx2).symm | exact (zq3_3 hdx3).symm | exact (by unfold aSame; rw [zq3_s hdx1 hdx2 hdx3, if_pos c41]; first | done | rfl) | exact (by unfold aSame; rw [zq3_s hdx1 hdx2 hdx3, if_neg c41]; first | done | rfl)), ht⟩) (fun q h => by cases h) dX0_same_50
        ·
          refine lv_iconst (v := nI 1) hx hb dX0_same_45 (by decide) ?_
          refine lv_goto (tgt := 50) hx hb dX0_same_46 (by decide) ?_
          exact W.zret (v := nI 1) hx hb hr (by first | rfl | decide) (fun t ht hW => ⟨_, rfl, (by first | exact (zq3_1 hdx1).symm | exact (zq3_2 hdx2).symm | exact (zq3_3 hdx3).symm | exact (by unfold aSame; rw [zq3_s hdx1 hdx2 hdx3, if_pos c41]; first | done | rfl) | exact (by unfold aSame; rw [zq3_s hdx1 hdx2 hdx3, if_neg c41]; first | done | rfl)), ht⟩) (fun q h => by cases h) dX0_same_50
      ·
        refine lv_if_ne (tgt := 25) hx hb dX0_same_20 (by decide) (fun q => absurd q (by decide)) (fun _ => ?_)
        refine lv_iconst (v := nI 0) hx hb dX0_same_23 (by decide) ?_
        exact W.zret (v := nI 0) hx hb hr (by first | rfl | decide) (fun t ht hW => ⟨_, rfl, (by first | exact (zq3_1 hdx1).symm | exact (zq3_2 hdx2).symm | exact (zq3_3 hdx3).symm | exact (by unfold aSame; rw [zq3_s hdx1 hdx2 hdx3, if_pos c41]; first | done | rfl) | exact (by unfold aSame; rw [zq3_s hdx1 hdx2 hdx3, if_neg c41]; first | done | rfl)), ht⟩) (fun q h => by cases h) dX0_same_24
    ·
      refine lv_if_eq (tgt := 23) hx hb dX0_same_13 (by decide) (fun _ => ?_) (fun q => absurd q (by decide))
      refine lv_iconst (v := nI 0) hx hb dX0_same_23 (by decide) ?_
      exact W.zret (v := nI 0) hx hb hr (by first | rfl | decide) (fun t ht hW => ⟨_, rfl, (by first | exact (zq3_1 hdx1).symm | exact (zq3_2 hdx2).symm | exact (zq3_3 hdx3).symm | exact (by unfold aSame; rw [zq3_s hdx1 hdx2 hdx3, if_pos c41]; first | done | rfl) | exact (by unfold aSame; rw [zq3_s hdx1 hdx2 hdx3, if_neg c41]; first | done | rfl)), ht⟩) (fun q h => by cases h) dX0_same_24
  ·
    refine lv_if_eq (tgt := 23) hx hb dX0_same_5 (by decide) (fun _ => ?_) (fun q => absurd q (by decide))
    refine lv_iconst (v := nI 0) hx hb dX0_same_23 (by decide) ?_
    exact W.zret (v := nI 0) hx hb hr (by first | rfl | decide) (fun t ht hW => ⟨_, rfl, (by first | exact (zq3_1 hdx1).symm | exact (zq3_2 hdx2).symm | exact (zq3_3 hdx3).symm | exact (by unfold aSame; rw [zq3_s hdx1 hdx2 hdx3, if_pos c41]; first | done | rfl) | exact (by unfold aSame; rw [zq3_s hdx1 hdx2 hdx3, if_neg c41]; first | done | rfl)), ht⟩) (fun q h => by cases h) dX0_same_24
set_option maxHeartbeats 4000000 in
set_option maxRecDepth 100000 in
/-- weight -/
theorem c_X0_weight (l : Launch) (dC : Nat → ClassId) (dI : Nat → Nat → Nat) (ad : Nat → Nat) (cI cJ cII cJJ : ClassId) (S C : Nat) (n : Nat → Nat) (va : Nat → Nat → Int32) (mk ct ps kn cx : Nat → Nat → Nat) (hG : zG S C n mk ct ps kn cx) (x1 x2 : Int32) : Met l yX0_weight wsX0_weight ({ frames := 2, cells := 0, slots := 0, locals := 48 }) (va_Pc [.ref (ad 0), .int x1, .int x2] (xB dC dI ad cI cJ cII cJJ S C n va mk ct ps kn cx)) (vp_Si (fun r => r = aWeight S n mk ct ps kn x1 x2)) 0 0 (fun _ => False) := by
  refine Met.ofW (cc := cX0_weight) (maxL := 7) (ret := (some .int)) (by decide) rfl ?_
  intro p e s m args below meth c s₁ B hml hv
  obtain ⟨rfl, hP, hK⟩ := hv
  have hx := B.exec
  have hb := B.bytes
  have hr := B.returns
  have hts := atoms_spec (ws := wsX0_weight) B.pre
  have hown : s.vm.findClass RX0 = some m.cls := findClass_of_methodNamed B.named
  have hlocks := B.notSynchronized
  have hin0 : ∀ w ∈ wsX00, w ∈ wsX0_weight := fun _ h => List.mem_cons_of_mem _ (List.mem_append_right _ h)
  have hl := lv_entry ([.ref (ad 0), .int x1, .int x2]) (n := 7) (Nat.le_of_ble_eq_true rfl)
  rw [lg_entry_eq]
  generalize (lg_sl ([.ref (ad 0), .int x1, .int x2]) ++ List.replicate (7 - (lg_sl ([.ref (ad 0), .int x1, .int x2])).length) Slot.unset).toArray = ls at hl ⊢
  have hl : lv_has ls 7 [(0, .ref (ad 0)), (1, .int x1), (2, .int x2)] := hl
  obtain ⟨⟨hS1, hS4, hC1, hC4⟩, hn, hmk, hct, hps, hkn, hcx, hcn, hkw⟩ := hG
  refine lv_aload_n hx hb dX0_weight_0 rfl (lv_at hl 0 rfl) ?_
  refine lv_iload_n hx hb dX0_weight_1 rfl (lv_at hl 1 rfl) ?_
  refine vp_callSi (W.runV (As := [.int x1]) (rest := []) ⟨hx, hb, hml, hown, hts⟩ (c_X0_isServer l dC dI ad cI cJ cII cJJ S C n va mk ct ps kn cx (by omega) x1) (cwV 1 hts gX0_weight_X0_isServer rfl rfl rfl (by decide +kernel) ⟨Nat.le_of_ble_eq_true rfl, Nat.le_of_ble_eq_true rfl⟩) ⟨xB_blind, va_recv hK hP (ci := 0) (q0 := 0) rfl rfl, fun U hU hW => ⟨rfl, xB_at hP hK hU hW⟩⟩ rfl rfl hl.1 rfl (lv_room (Nat.le_of_ble_eq_true rfl)) dX0_weight_2 ⟨Nat.le_of_ble_eq_true rfl, Nat.le_of_ble_eq_true rfl⟩) (fun r hq => ?_)
  rcases hq with ⟨rfl, sv, hsv, rfl, hdx1⟩ | ⟨rfl, hdx1⟩
  ·
    refine lv_if_eq (tgt := 15) hx hb dX0_weight_5 (by decide) (fun q => absurd q (by decide)) (fun _ => ?_)
    refine lv_iload_n hx hb dX0_weight_8 rfl (lv_at hl 2 rfl) ?_
    refine vp_callSi (W.runS (As := [.int x2]) (rest := []) ⟨hx, hb, hml, hown, hts⟩ (c_X0_isKey l x2) (va_cwS 1 hts gX0_weight_X0_isKey rfl rfl rfl (by decide +kernel) ⟨Nat.le_of_ble_eq_true rfl, Nat.le_of_ble_eq_true rfl⟩) ⟨zB_blind, fun U hU hW => ⟨rfl, trivial⟩⟩ rfl rfl hl.1 rfl (lv_room (Nat.le_of_ble_eq_true rfl)) dX0_weight_9 ⟨Nat.le_of_ble_eq_true rfl, Nat.le_of_ble_eq_true rfl⟩) (fun r hq => ?_)
    rcases hq with ⟨rfl, ky, hky, rfl, hdx2⟩ | ⟨rfl, hdx2⟩
    ·
      refine lv_if_ne (tgt := 17) hx hb dX0_weight_12 (by decide) (fun _ => ?_) (fun q => absurd q (by decide))
      refine lv_aload_n hx hb dX0_weight_17 rfl (lv_at hl 0 rfl) ?_
      refine va_get (D := (dC, dI)) (ci := 0) (v := .ref (ad 6)) (C := RX0) (T := TX0) (N := 9) hx hb hts hin0 hown hK hP 0 rfl rfl 7 (by decide) (hts (.fieldLink RX0 42 "DottedSiblings" "knownSets" "[[J") (by decide +kernel)) (fun _ h9 => h9) rfl dX0_weight_18 ?_
      refine lv_iload_n hx hb dX0_weight_21 rfl (lv_at hl 2 rfl) ?_
      refine zr_aald (r := ad (20 + ky)) hx hb hK hP 6 3 rfl rfl (by omega) (by decide) (zo_at ad 20 (by omega)) dX0_weight_22 ?_
      refine lv_iload_n hx hb dX0_weight_23 rfl (lv_at hl 1 rfl) ?_
      refine zr_lald (v := lN (kn ky sv)) hx hb hK hP (20 + ky) 1 (xw_kn (by omega)) rfl (by omega) (by omega) rfl dX0_weight_24 ?_
      refine lv_lstore_n (lv' := [(3, .long (lN (kn ky sv))), (0, .ref (ad 0)), (1, .int (nI sv)), (2, .int (nI ky))]) hx hb dX0_weight_25 rfl hl (by decide) rfl (fun ls hl => ?_)
      refine lv_iconst (v := nI 0) hx hb dX0_weight_26 (by decide) ?_
      refine lv_istore (lv' := [(5, .int (nI 0)), (3, .long (lN (kn ky sv))), (0, .ref (ad 0)), (1, .int (nI sv)), (2, .int (nI ky))]) hx hb dX0_weight_27 hl (by decide) rfl (fun ls hl => ?_)
      refine lv_iconst (v := nI 0) hx hb dX0_weight_29 (by decide) ?_
      refine lv_istore (lv' := [(6, .int (nI 0)), (5, .int (nI 0)), (3, .long (lN (kn ky sv))), (0, .ref (ad 0)), (1, .int (nI sv)), (2, .int (nI ky))]) hx hb dX0_weight_30 hl (by decide) rfl (fun ls hl => ?_)
      refine zr_loop (pc := 32) (fun d ls => ∃ i, i ≤ S ∧ d = S - i ∧ lv_has ls 7 [(0, .ref (ad 0)), (1, .int (nI sv)), (2, .int (nI ky)), (3, .long (lN (kn ky sv))), (5, .int (nI (cn (fun o => decide (0 < zVec (ct ky) (zHit (mk ky) (kn ky sv) o) (n ky))) i))), (6, .int (nI i))]) ?_ _ _ ⟨0, Nat.zero_le _, rfl, lv_sub hl [3, 4, 5, 2, 1, 0] rfl⟩
      rintro d ls ⟨i, hi, rfl, hl⟩ ih32
      have hz9 := zVec_le (hit := zHit (mk ky) (kn ky sv) i) (hct ky) (n ky)
      refine lv_iload hx hb dX0_weight_32 (lv_at hl 5 rfl) ?_
      refine lv_aload_n hx hb dX0_weight_34 rfl (lv_at hl 0 rfl) ?_
      refine va_get (D := (dC, dI)) (ci := 0) (v := .int (nI S)) (C := RX0) (T := TX0) (N := 9) hx hb hts hin0 hown hK hP 0 rfl rfl 0 (by decide) (hts (.fieldLink RX0 15 "DottedSiblings" "servers" "I") (by decide +kernel)) (fun _ h9 => h9) rfl dX0_weight_35 ?_
      refine zr_ige (tgt := 61) hx hb (by omega) (by omega) dX0_weight_38 (by decide) (fun c38 => ?_) (fun c38 => ?_)
      ·
        refine lv_iload hx hb dX0_weight_61 (lv_at hl 4 rfl) ?_
        refine lv_aload_n hx hb dX0_weight_63 rfl (lv_at hl 0 rfl) ?_
        refine lv_iload_n hx hb dX0_weight_64 rfl (lv_at hl 2 rfl) ?_
        refine lv_lload_n hx hb dX0_weight_65 rfl (lv_at hl 3 rfl) ?_
        refine vp_callSl (W.runV (As := [.int (nI ky), .long (lN (kn ky sv))]) (rest := [.int (nI (cn (fun o => decide (0 < zVec (ct ky) (zHit (mk ky) (kn ky sv) o) (n ky))) i))]) ⟨hx, hb, hml, hown, hts⟩ (c_X0_greatestOf l dC dI ad cI cJ cII cJJ S C n va mk ct ps kn cx ky (kn ky sv) (by omega) (Nat.lt_trans (z40 (hkn _ _) (hn _)) (by decide)) (hn _)) (cwV 2 hts gX0_weight_X0_greatestOf rfl rfl rfl (by decide +kernel) ⟨Nat.le_of_ble_eq_true rfl, Nat.le_of_ble_eq_true rfl⟩) ⟨xB_blind, va_recv hK hP (ci := 0) (q0 := 0) rfl rfl, fun U hU hW => ⟨rfl, xB_at hP hK hU hW⟩⟩ rfl rfl hl.1 rfl (lv_room (Nat.le_of_ble_eq_true rfl)) dX0_weight_66 ⟨Nat.le_of_ble_eq_true rfl, Nat.le_of_ble_eq_true rfl⟩) (fun r hq => ?_)
        subst hq
        refine vp_callSi (W.runS (As := [.long (lN (zNew (n ky) (ps ky) (kn ky sv)))]) (rest := [.int (nI (cn (fun o => decide (0 < zVec (ct ky) (zHit (mk ky) (kn ky sv) o) (n ky))) i))]) ⟨hx, hb, hml, hown, hts⟩ (c_J13_bitCount_95d88 l (zNew (n ky) (ps ky) (kn ky sv)) (Nat.lt_trans (Nat.lt_of_le_of_lt (zNew_le _ _ _) (z40 (hkn _ _) (hn _))) (by decide))) (va_cwS 1 hts gX0_weight_J13_bitCount_95d88 rfl rfl rfl (by decide +kernel) ⟨Nat.le_of_ble_eq_true rfl, Nat.le_of_ble_eq_true rfl⟩) ⟨zB_blind, fun U hU hW => ⟨rfl, trivial⟩⟩ rfl rfl hl.1 rfl (lv_room (Nat.le_of_ble_eq_true rfl)) dX0_weight_69 ⟨Nat.le_of_ble_eq_true rfl, Nat.le_of_ble_eq_true rfl⟩) (fun r hq => ?_)
        have hq := hq.trans (congrArg nI (zSize64 (Nat.lt_of_le_of_lt (zNew_le _ _ _) (z40 (hkn _ _) (hn _)))))
        subst hq
        refine zr_iadd hx hb dX0_weight_72 ?_
        exact W.iret (v := nI (cn (fun o => decide (0 < zVec (ct ky) (zHit (mk ky) (kn ky sv) o) (n ky))) i + (zSize (zNew (n ky) (ps ky) (kn ky sv))))) hx hb hr (fun t ht hW => ⟨_, rfl, (by first | exact (zq2_1 hdx1).symm | exact (zq2_2 hdx2).symm | exact (by unfold aWeight; rw [zq2_s hdx1 hdx2, show S = i by omega]; first | done | rfl) | exact (by unfold aWeight; rw [zq2_s hdx1 hdx2]; first | done | rfl)), ht⟩) (fun q h => by cases h) dX0_weight_73
      ·
        refine lv_aload_n hx hb dX0_weight_41 rfl (lv_at hl 0 rfl) ?_
        refine lv_iload_n hx hb dX0_weight_42 rfl (lv_at hl 2 rfl) ?_
        refine lv_lload_n hx hb dX0_weight_43 rfl (lv_at hl 3 rfl) ?_
        refine lv_iload hx hb dX0_weight_44 (lv_at hl 5 rfl) ?_
        refine vp_callSi (W.runV (As := [.int (nI ky), .long (lN (kn ky sv)), .int (nI i)]) (rest := []) ⟨hx, hb, hml, hown, hts⟩ (c_X0_vectorAt l dC dI ad cI cJ cII cJJ S C n va mk ct ps kn cx ky (kn ky sv) i (by omega) (Nat.lt_trans (z40 (hkn _ _) (hn _)) (by decide)) (by omega) (hn _) (fun w h => Nat.lt_of_lt_of_le (hmk _ w h) hS4) (hct _)) (cwV 3 hts gX0_weight_X0_vectorAt rfl rfl rfl (by decide +kernel) ⟨Nat.le_of_ble_eq_true rfl, Nat.le_of_ble_eq_true rfl⟩) ⟨xB_blind, va_recv hK hP (ci := 0) (q0 := 0) rfl rfl, fun U hU hW => ⟨rfl, xB_at hP hK hU hW⟩⟩ rfl rfl hl.1 rfl (lv_room (Nat.le_of_ble_eq_true rfl)) dX0_weight_46 ⟨Nat.le_of_ble_eq_true rfl, Nat.le_of_ble_eq_true rfl⟩) (fun r hq => ?_)
        subst hq
        refine zr_ifle (tgt := 55) hx hb (by omega) dX0_weight_49 (by decide) (fun c49 => ?_) (fun c49 => ?_)
        ·
          refine lv_iinc (v := nI (i + 1)) (lv' := [(6, .int (nI (i + 1))), (0, .ref (ad 0)), (1, .int (nI sv)), (2, .int (nI ky)), (3, .long (lN (kn ky sv))), (5, .int (nI (cn (fun o => decide (0 < zVec (ct ky) (zHit (mk ky) (kn ky sv) o) (n ky))) i)))]) hx hb dX0_weight_55 hl (k := 5) rfl (by rw [← nI_1]; rfl) (by decide) rfl (fun ls hl => ?_)
          refine lv_goto (tgt := 32) hx hb dX0_weight_58 (by decide) ?_
          exact ih32 _ _ (by omega) ⟨i + 1, by omega, rfl, by first | (rw [cn_t (f := (fun o => decide (0 < zVec (ct ky) (zHit (mk ky) (kn ky sv) o) (n ky)))) (i := i) (decide_eq_true c49)]; exact lv_sub hl [1, 2, 3, 4, 5, 0] rfl) | (rw [cn_f (f := (fun o => decide (0 < zVec (ct ky) (zHit (mk ky) (kn ky sv) o) (n ky)))) (i := i) (decide_eq_false (by omega))]; exact lv_sub hl [1, 2, 3, 4, 5, 0] rfl)⟩
        ·
          refine lv_iinc (v := nI (cn (fun o => decide (0 < zVec (ct ky) (zHit (mk ky) (kn ky sv) o) (n ky))) i + 1)) (lv' := [(5, .int (nI (cn (fun o => decide (0 < zVec (ct ky) (zHit (mk ky) (kn ky sv) o) (n ky))) i + 1))), (0, .ref (ad 0)), (1, .int (nI sv)), (2, .int (nI ky)), (3, .long (lN (kn ky sv))), (6, .int (nI i))]) hx hb dX0_weight_52 hl (k := 4) rfl (by rw [← nI_1]; rfl) (by decide) rfl (fun ls hl => ?_)
          refine lv_iinc (v := nI (i + 1)) (lv' := [(6, .int (nI (i + 1))), (5, .int (nI (cn (fun o => decide (0 < zVec (ct ky) (zHit (mk ky) (kn ky sv) o) (n ky))) i + 1))), (0, .ref (ad 0)), (1, .int (nI sv)), (2, .int (nI ky)), (3, .long (lN (kn ky sv)))]) hx hb dX0_weight_55 hl (k := 5) rfl (by rw [← nI_1]; rfl) (by decide) rfl (fun ls hl => ?_)
          refine lv_goto (tgt := 32) hx hb dX0_weight_58 (by decide) ?_
          exact ih32 _ _ (by omega) ⟨i + 1, by omega, rfl, by first | (rw [cn_t (f := (fun o => decide (0 < zVec (ct ky) (zHit (mk ky) (kn ky sv) o) (n ky)))) (i := i) (decide_eq_true c49)]; exact lv_sub hl [2, 3, 4, 5, 1, 0] rfl) | (rw [cn_f (f := (fun o => decide (0 < zVec (ct ky) (zHit (mk ky) (kn ky sv) o) (n ky)))) (i := i) (decide_eq_false (by omega))]; exact lv_sub hl [2, 3, 4, 5, 1, 0] rfl)⟩
    ·
      refine lv_if_ne (tgt := 17) hx hb dX0_weight_12 (by decide) (fun q => absurd q (by decide)) (fun _ => ?_)
      refine lv_iconst (v := (-1)) hx hb dX0_weight_15 (by decide) ?_
      exact W.iret (v := (-1)) hx hb hr (fun t ht hW => ⟨_, rfl, (by first | exact (zq2_1 hdx1).symm | exact (zq2_2 hdx2).symm | exact (by unfold aWeight; rw [zq2_s hdx1 hdx2, show S = i by omega]; first | done | rfl) | exact (by unfold aWeight; rw [zq2_s hdx1 hdx2]; first | done | rfl)), ht⟩) (fun q h => by cases h) dX0_weight_16
  ·
    refine lv_if_eq (tgt := 15) hx hb dX0_weight_5 (by decide) (fun _ => ?_) (fun q => absurd q (by decide))
    refine lv_iconst (v := (-1)) hx hb dX0_weight_15 (by decide) ?_
    exact W.iret (v := (-1)) hx hb hr (fun t ht hW => ⟨_, rfl, (by first | exact (zq2_1 hdx1).symm | exact (zq2_2 hdx2).symm | exact (by unfold aWeight; rw [zq2_s hdx1 hdx2, show S = i by omega]; first | done | rfl) | exact (by unfold aWeight; rw [zq2_s hdx1 hdx2]; first | done | rfl)), ht⟩) (fun q h => by cases h) dX0_weight_16
