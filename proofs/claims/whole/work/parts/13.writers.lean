set_option maxHeartbeats 4000000 in
set_option maxRecDepth 100000 in
/-- get -/
theorem c_X0_get (l : Launch) (dC : Nat → ClassId) (dI : Nat → Nat → Nat) (ad : Nat → Nat) (cI cJ cII cJJ : ClassId) (S C : Nat) (n : Nat → Nat) (va : Nat → Nat → Int32) (mk ct ps kn cx : Nat → Nat → Nat) (hG : zG S C n mk ct ps kn cx) (x1 x2 x3 : Int32) (sz : Nat) : Met l yX0_get wsX0_get ({ frames := 2, cells := 0, slots := 0, locals := 48 }) (va_Pc [.ref (ad 0), .int x1, .int x2, .int x3] (xC dC dI ad cI cJ cII cJJ S C n va mk ct ps kn cx sz)) (va_Qi (fun (r : Int32) (u : Nat → Nat → Nat) => r = aGet S C n ps kn x1 x2 x3 ∧ u = uGet S C kn cx x1 x2 x3) (fun u t => xE (va_A (xw ad cI cJ cII cJJ S C n va mk ct ps kn cx) sz) dC dI ad cI cJ cII cJJ S C n va mk ct ps kn u t) (va_A (xw ad cI cJ cII cJJ S C n va mk ct ps kn cx) sz)) 0 0 (va_A (xw ad cI cJ cII cJJ S C n va mk ct ps kn cx) sz) := by
  refine Met.ofW (cc := cX0_get) (maxL := 4) (ret := (some .int)) (by decide) rfl ?_
  intro p e s m args below meth c s₁ B hml hv
  obtain ⟨rfl, hsz, hP, hK, hD0⟩ := hv
  have hx := B.exec
  have hb := B.bytes
  have hr := B.returns
  have hts := atoms_spec (ws := wsX0_get) B.pre
  have hown : s.vm.findClass RX0 = some m.cls := findClass_of_methodNamed B.named
  have hlocks := B.notSynchronized
  have hin0 : ∀ w ∈ wsX00, w ∈ wsX0_get := fun _ h => List.mem_cons_of_mem _ (List.mem_append_right _ h)
  subst hsz
  have hD := hD0.self (sz := s.heap.size)
  generalize hAe : va_A (xw ad cI cJ cII cJJ S C n va mk ct ps kn cx) s.heap.size = A at hD ⊢
  have hS : va_S A s.heap s.heap [] := va_S.rf
  have hl := lv_entry ([.ref (ad 0), .int x1, .int x2, .int x3]) (n := 4) (Nat.le_of_ble_eq_true rfl)
  rw [lg_entry_eq]
  generalize (lg_sl ([.ref (ad 0), .int x1, .int x2, .int x3]) ++ List.replicate (4 - (lg_sl ([.ref (ad 0), .int x1, .int x2, .int x3])).length) Slot.unset).toArray = ls at hl ⊢
  have hl : lv_has ls 4 [(0, .ref (ad 0)), (1, .int x1), (2, .int x2), (3, .int x3)] := hl
  obtain ⟨⟨hS1, hS4, hC1, hC4⟩, hn, hmk, hct, hps, hkn, hcx, hcn, hkw⟩ := hG
  refine lv_aload_n hx hb dX0_get_0 rfl (lv_at hl 0 rfl) ?_
  refine lv_iload_n hx hb dX0_get_1 rfl (lv_at hl 1 rfl) ?_
  refine vp_callSi (W.runV (As := [.int x1]) (rest := []) ⟨hx, hb, hml, hown, hts⟩ (c_X0_isServer l dC dI ad cI cJ cII cJJ S C n va mk ct ps kn cx (by omega) x1) (cwV 1 hts gX0_get_X0_isServer rfl rfl rfl (by decide +kernel) ⟨Nat.le_of_ble_eq_true rfl, Nat.le_of_ble_eq_true rfl⟩) ⟨xB_blind, va_recv hK hP (ci := 0) (q0 := 0) rfl rfl, fun U hU hW => ⟨rfl, xB_at hP hK hU hW⟩⟩ rfl rfl hl.1 rfl (lv_room (Nat.le_of_ble_eq_true rfl)) dX0_get_2 ⟨Nat.le_of_ble_eq_true rfl, Nat.le_of_ble_eq_true rfl⟩) (fun r hq => ?_)
  rcases hq with ⟨rfl, sv, hsv, rfl, hdx1⟩ | ⟨rfl, hdx1⟩
  ·
    refine lv_if_eq (tgt := 23) hx hb dX0_get_5 (by decide) (fun q => absurd q (by decide)) (fun _ => ?_)
    refine lv_aload_n hx hb dX0_get_8 rfl (lv_at hl 0 rfl) ?_
    refine lv_iload_n hx hb dX0_get_9 rfl (lv_at hl 2 rfl) ?_
    refine vp_callSi (W.runV (As := [.int x2]) (rest := []) ⟨hx, hb, hml, hown, hts⟩ (c_X0_isClient l dC dI ad cI cJ cII cJJ S C n va mk ct ps kn cx (by omega) x2) (cwV 1 hts gX0_get_X0_isClient rfl rfl rfl (by decide +kernel) ⟨Nat.le_of_ble_eq_true rfl, Nat.le_of_ble_eq_true rfl⟩) ⟨xB_blind, va_recv hK hP (ci := 0) (q0 := 0) rfl rfl, fun U hU hW => ⟨rfl, xB_at hP hK hU hW⟩⟩ rfl rfl hl.1 rfl (lv_room (Nat.le_of_ble_eq_true rfl)) dX0_get_10 ⟨Nat.le_of_ble_eq_true rfl, Nat.le_of_ble_eq_true rfl⟩) (fun r hq => ?_)
    rcases hq with ⟨rfl, cl, hcl, rfl, hdx2⟩ | ⟨rfl, hdx2⟩
    ·
      refine lv_if_eq (tgt := 23) hx hb dX0_get_13 (by decide) (fun q => absurd q (by decide)) (fun _ => ?_)
      refine lv_iload_n hx hb dX0_get_16 rfl (lv_at hl 3 rfl) ?_
      refine vp_callSi (W.runS (As := [.int x3]) (rest := []) ⟨hx, hb, hml, hown, hts⟩ (c_X0_isKey l x3) (va_cwS 1 hts gX0_get_X0_isKey rfl rfl rfl (by decide +kernel) ⟨Nat.le_of_ble_eq_true rfl, Nat.le_of_ble_eq_true rfl⟩) ⟨zB_blind, fun U hU hW => ⟨rfl, trivial⟩⟩ rfl rfl hl.1 rfl (lv_room (Nat.le_of_ble_eq_true rfl)) dX0_get_17 ⟨Nat.le_of_ble_eq_true rfl, Nat.le_of_ble_eq_true rfl⟩) (fun r hq => ?_)
      rcases hq with ⟨rfl, ky, hky, rfl, hdx3⟩ | ⟨rfl, hdx3⟩
      ·
        refine lv_if_ne (tgt := 25) hx hb dX0_get_20 (by decide) (fun _ => ?_) (fun q => absurd q (by decide))
        refine lv_aload_n hx hb dX0_get_25 rfl (lv_at hl 0 rfl) ?_
        refine va_get (D := (dC, dI)) (ci := 0) (v := .ref (ad 7)) (C := RX0) (T := TX0) (N := 9) hx hb hts hin0 hown hK hP 0 rfl rfl 8 (by decide) (hts (.fieldLink RX0 45 "DottedSiblings" "contextSets" "[[J") (by decide +kernel)) (fun _ h9 => h9) rfl dX0_get_26 ?_
        refine lv_iload_n hx hb dX0_get_29 rfl (lv_at hl 3 rfl) ?_
        refine zr_aald (r := ad (23 + ky)) hx hb hK hP 7 3 rfl rfl (by omega) (by decide) (zo_at ad 23 (by omega)) dX0_get_30 ?_
        refine lv_iload_n hx hb dX0_get_31 rfl (lv_at hl 2 rfl) ?_
        refine lv_aload_n hx hb dX0_get_32 rfl (lv_at hl 0 rfl) ?_
        refine va_get (D := (dC, dI)) (ci := 0) (v := .ref (ad 6)) (C := RX0) (T := TX0) (N := 9) hx hb hts hin0 hown hK hP 0 rfl rfl 7 (by decide) (hts (.fieldLink RX0 42 "DottedSiblings" "knownSets" "[[J") (by decide +kernel)) (fun _ h9 => h9) rfl dX0_get_33 ?_
        refine lv_iload_n hx hb dX0_get_36 rfl (lv_at hl 3 rfl) ?_
        refine zr_aald (r := ad (20 + ky)) hx hb hK hP 6 3 rfl rfl (by omega) (by decide) (zo_at ad 20 (by omega)) dX0_get_37 ?_
        refine lv_iload_n hx hb dX0_get_38 rfl (lv_at hl 1 rfl) ?_
        refine zr_lald (v := lN (kn ky sv)) hx hb hK hP (20 + ky) 1 (xw_kn (by omega)) rfl (by omega) (by omega) rfl dX0_get_39 ?_
        refine zr_last hx hb hK hP hD hS (23 + ky) 1 (xw_cx (by omega)) rfl (by omega) (by omega) (xs_cx (by omega) _ _) dX0_get_40 (fun H locs hP hD hS => ?_)
        refine lv_aload_n hx hb dX0_get_41 rfl (lv_at hl 0 rfl) ?_
        refine lv_iload_n hx hb dX0_get_42 rfl (lv_at hl 3 rfl) ?_
        refine lv_aload_n hx hb dX0_get_43 rfl (lv_at hl 0 rfl) ?_
        refine va_get (D := (dC, dI)) (ci := 0) (v := .ref (ad 6)) (C := RX0) (T := TX0) (N := 9) hx hb hts hin0 hown hK hP 0 rfl rfl 7 (by decide) (hts (.fieldLink RX0 42 "DottedSiblings" "knownSets" "[[J") (by decide +kernel)) (fun _ h9 => h9) rfl dX0_get_44 ?_
        refine lv_iload_n hx hb dX0_get_47 rfl (lv_at hl 3 rfl) ?_
        refine zr_aald (r := ad (20 + ky)) hx hb hK hP 6 3 rfl rfl (by omega) (by decide) (zo_at ad 20 (by omega)) dX0_get_48 ?_
        refine lv_iload_n hx hb dX0_get_49 rfl (lv_at hl 1 rfl) ?_
        refine zr_lald (v := lN (kn ky sv)) hx hb hK hP (20 + ky) 1 (xw_kn (by omega)) rfl (by omega) (by omega) rfl dX0_get_50 ?_
        refine vp_callSl (W.runV (As := [.int (nI ky), .long (lN (kn ky sv))]) (rest := []) ⟨hx, hb, hml, hown, hts⟩ (c_X0_greatestOf l dC dI ad cI cJ cII cJJ S C n va mk ct ps kn (zU cx ky cl (kn ky sv)) ky (kn ky sv) (by omega) (Nat.lt_trans (z40 (hkn _ _) (hn _)) (by decide)) (hn _)) (cwV 2 hts gX0_get_X0_greatestOf rfl rfl rfl (by decide +kernel) ⟨Nat.le_of_ble_eq_true rfl, Nat.le_of_ble_eq_true rfl⟩) ⟨xB_blind, va_recv hK hP (ci := 0) (q0 := 0) rfl rfl, fun U hU hW => ⟨rfl, xB_at hP hK hU hW⟩⟩ rfl rfl hl.1 rfl (lv_room (Nat.le_of_ble_eq_true rfl)) dX0_get_51 ⟨Nat.le_of_ble_eq_true rfl, Nat.le_of_ble_eq_true rfl⟩) (fun r hq => ?_)
        subst hq
        refine vp_callSi (W.runS (As := [.long (lN (zNew (n ky) (ps ky) (kn ky sv)))]) (rest := []) ⟨hx, hb, hml, hown, hts⟩ (c_J13_bitCount_95d88 l (zNew (n ky) (ps ky) (kn ky sv)) (Nat.lt_trans (Nat.lt_of_le_of_lt (zNew_le _ _ _) (z40 (hkn _ _) (hn _))) (by decide))) (va_cwS 1 hts gX0_get_J13_bitCount_95d88 rfl rfl rfl (by decide +kernel) ⟨Nat.le_of_ble_eq_true rfl, Nat.le_of_ble_eq_true rfl⟩) ⟨zB_blind, fun U hU hW => ⟨rfl, trivial⟩⟩ rfl rfl hl.1 rfl (lv_room (Nat.le_of_ble_eq_true rfl)) dX0_get_54 ⟨Nat.le_of_ble_eq_true rfl, Nat.le_of_ble_eq_true rfl⟩) (fun r hq => ?_)
        have hq := hq.trans (congrArg nI (zSize64 (Nat.lt_of_le_of_lt (zNew_le _ _ _) (z40 (hkn _ _) (hn _)))))
        subst hq
        exact W.iret (v := nI (zSize (zNew (n ky) (ps ky) (kn ky sv)))) hx hb hr (fun t ht hW => ⟨⟨_, (zU cx ky cl (kn ky sv)), rfl, ⟨(by first | exact (zq3_1 hdx1).symm | exact (zq3_2 hdx2).symm | exact (zq3_3 hdx3).symm | exact (by unfold aGet; rw [zq3_s hdx1 hdx2 hdx3]; first | done | rfl)), (by first | exact (zq3_1 hdx1).symm | exact (zq3_2 hdx2).symm | exact (zq3_3 hdx3).symm | exact (by unfold uGet; rw [zq3_s hdx1 hdx2 hdx3]; first | done | rfl))⟩, by rw [ht]; exact hP, va_K.moved hW.alike hK, hD⟩, hS.F ht⟩) hS.2.2 dX0_get_57
      ·
        refine lv_if_ne (tgt := 25) hx hb dX0_get_20 (by decide) (fun q => absurd q (by decide)) (fun _ => ?_)
        refine lv_iconst (v := (-1)) hx hb dX0_get_23 (by decide) ?_
        exact W.iret (v := (-1)) hx hb hr (fun t ht hW => ⟨⟨_, cx, rfl, ⟨(by first | exact (zq3_1 hdx1).symm | exact (zq3_2 hdx2).symm | exact (zq3_3 hdx3).symm | exact (by unfold aGet; rw [zq3_s hdx1 hdx2 hdx3]; first | done | rfl)), (by first | exact (zq3_1 hdx1).symm | exact (zq3_2 hdx2).symm | exact (zq3_3 hdx3).symm | exact (by unfold uGet; rw [zq3_s hdx1 hdx2 hdx3]; first | done | rfl))⟩, by rw [ht]; exact hP, va_K.moved hW.alike hK, hD⟩, hS.F ht⟩) hS.2.2 dX0_get_24
    ·
      refine lv_if_eq (tgt := 23) hx hb dX0_get_13 (by decide) (fun _ => ?_) (fun q => absurd q (by decide))
      refine lv_iconst (v := (-1)) hx hb dX0_get_23 (by decide) ?_
      exact W.iret (v := (-1)) hx hb hr (fun t ht hW => ⟨⟨_, cx, rfl, ⟨(by first | exact (zq3_1 hdx1).symm | exact (zq3_2 hdx2).symm | exact (zq3_3 hdx3).symm | exact (by unfold aGet; rw [zq3_s hdx1 hdx2 hdx3]; first | done | rfl)), (by first | exact (zq3_1 hdx1).symm | exact (zq3_2 hdx2).symm | exact (zq3_3 hdx3).symm | exact (by unfold uGet; rw [zq3_s hdx1 hdx2 hdx3]; first | done | rfl))⟩, by rw [ht]; exact hP, va_K.moved hW.alike hK, hD⟩, hS.F ht⟩) hS.2.2 dX0_get_24
  ·
    refine lv_if_eq (tgt := 23) hx hb dX0_get_5 (by decide) (fun _ => ?_) (fun q => absurd q (by decide))
    refine lv_iconst (v := (-1)) hx hb dX0_get_23 (by decide) ?_
    exact W.iret (v := (-1)) hx hb hr (fun t ht hW => ⟨⟨_, cx, rfl, ⟨(by first | exact (zq3_1 hdx1).symm | exact (zq3_2 hdx2).symm | exact (zq3_3 hdx3).symm | exact (by unfold aGet; rw [zq3_s hdx1 hdx2 hdx3]; first | done | rfl)), (by first | exact (zq3_1 hdx1).symm | exact (zq3_2 hdx2).symm | exact (zq3_3 hdx3).symm | exact (by unfold uGet; rw [zq3_s hdx1 hdx2 hdx3]; first | done | rfl))⟩, by rw [ht]; exact hP, va_K.moved hW.alike hK, hD⟩, hS.F ht⟩) hS.2.2 dX0_get_24
set_option maxHeartbeats 4000000 in
set_option maxRecDepth 100000 in
/-- forget -/
theorem c_X0_forget (l : Launch) (dC : Nat → ClassId) (dI : Nat → Nat → Nat) (ad : Nat → Nat) (cI cJ cII cJJ : ClassId) (S C : Nat) (n : Nat → Nat) (va : Nat → Nat → Int32) (mk ct ps kn cx : Nat → Nat → Nat) (hG : zG S C n mk ct ps kn cx) (x1 x2 : Int32) (sz : Nat) : Met l yX0_forget wsX0_forget ({ frames := 1, cells := 0, slots := 0, locals := 21 }) (va_Pc [.ref (ad 0), .int x1, .int x2] (xC dC dI ad cI cJ cII cJJ S C n va mk ct ps kn cx sz)) (va_Qi (fun (r : Int32) (u : Nat → Nat → Nat) => r = aForget C x1 x2 ∧ u = uForget C cx x1 x2) (fun u t => xE (va_A (xw ad cI cJ cII cJJ S C n va mk ct ps kn cx) sz) dC dI ad cI cJ cII cJJ S C n va mk ct ps kn u t) (va_A (xw ad cI cJ cII cJJ S C n va mk ct ps kn cx) sz)) 0 0 (va_A (xw ad cI cJ cII cJJ S C n va mk ct ps kn cx) sz) := by
  refine Met.ofW (cc := cX0_forget) (maxL := 3) (ret := (some .boolean)) (by decide) rfl ?_
  intro p e s m args below meth c s₁ B hml hv
  obtain ⟨rfl, hsz, hP, hK, hD0⟩ := hv
  have hx := B.exec
  have hb := B.bytes
  have hr := B.returns
  have hts := atoms_spec (ws := wsX0_forget) B.pre
  have hown : s.vm.findClass RX0 = some m.cls := findClass_of_methodNamed B.named
  have hlocks := B.notSynchronized
  have hin0 : ∀ w ∈ wsX00, w ∈ wsX0_forget := fun _ h => List.mem_cons_of_mem _ (List.mem_append_right _ h)
  subst hsz
  have hD := hD0.self (sz := s.heap.size)
  generalize hAe : va_A (xw ad cI cJ cII cJJ S C n va mk ct ps kn cx) s.heap.size = A at hD ⊢
  have hS : va_S A s.heap s.heap [] := va_S.rf
  have hl := lv_entry ([.ref (ad 0), .int x1, .int x2]) (n := 3) (Nat.le_of_ble_eq_true rfl)
  rw [lg_entry_eq]
  generalize (lg_sl ([.ref (ad 0), .int x1, .int x2]) ++ List.replicate (3 - (lg_sl ([.ref (ad 0), .int x1, .int x2])).length) Slot.unset).toArray = ls at hl ⊢
  have hl : lv_has ls 3 [(0, .ref (ad 0)), (1, .int x1), (2, .int x2)] := hl
  obtain ⟨⟨hS1, hS4, hC1, hC4⟩, hn, hmk, hct, hps, hkn, hcx, hcn, hkw⟩ := hG
  refine lv_aload_n hx hb dX0_forget_0 rfl (lv_at hl 0 rfl) ?_
  refine lv_iload_n hx hb dX0_forget_1 rfl (lv_at hl 1 rfl) ?_
  refine vp_callSi (W.runV (As := [.int x1]) (rest := []) ⟨hx, hb, hml, hown, hts⟩ (c_X0_isClient l dC dI ad cI cJ cII cJJ S C n va mk ct ps kn cx (by omega) x1) (cwV 1 hts gX0_forget_X0_isClient rfl rfl rfl (by decide +kernel) ⟨Nat.le_of_ble_eq_true rfl, Nat.le_of_ble_eq_true rfl⟩) ⟨xB_blind, va_recv hK hP (ci := 0) (q0 := 0) rfl rfl, fun U hU hW => ⟨rfl, xB_at hP hK hU hW⟩⟩ rfl rfl hl.1 rfl (lv_room (Nat.le_of_ble_eq_true rfl)) dX0_forget_2 ⟨Nat.le_of_ble_eq_true rfl, Nat.le_of_ble_eq_true rfl⟩) (fun r hq => ?_)
  rcases hq with ⟨rfl, cl, hcl, rfl, hdx1⟩ | ⟨rfl, hdx1⟩
  ·
    refine lv_if_eq (tgt := 15) hx hb dX0_forget_5 (by decide) (fun q => absurd q (by decide)) (fun _ => ?_)
    refine lv_iload_n hx hb dX0_forget_8 rfl (lv_at hl 2 rfl) ?_
    refine vp_callSi (W.runS (As := [.int x2]) (rest := []) ⟨hx, hb, hml, hown, hts⟩ (c_X0_isKey l x2) (va_cwS 1 hts gX0_forget_X0_isKey rfl rfl rfl (by decide +kernel) ⟨Nat.le_of_ble_eq_true rfl, Nat.le_of_ble_eq_true rfl⟩) ⟨zB_blind, fun U hU hW => ⟨rfl, trivial⟩⟩ rfl rfl hl.1 rfl (lv_room (Nat.le_of_ble_eq_true rfl)) dX0_forget_9 ⟨Nat.le_of_ble_eq_true rfl, Nat.le_of_ble_eq_true rfl⟩) (fun r hq => ?_)
    rcases hq with ⟨rfl, ky, hky, rfl, hdx2⟩ | ⟨rfl, hdx2⟩
    ·
      refine lv_if_ne (tgt := 17) hx hb dX0_forget_12 (by decide) (fun _ => ?_) (fun q => absurd q (by decide))
      refine lv_aload_n hx hb dX0_forget_17 rfl (lv_at hl 0 rfl) ?_
      refine va_get (D := (dC, dI)) (ci := 0) (v := .ref (ad 7)) (C := RX0) (T := TX0) (N := 9) hx hb hts hin0 hown hK hP 0 rfl rfl 8 (by decide) (hts (.fieldLink RX0 45 "DottedSiblings" "contextSets" "[[J") (by decide +kernel)) (fun _ h9 => h9) rfl dX0_forget_18 ?_
      refine lv_iload_n hx hb dX0_forget_21 rfl (lv_at hl 2 rfl) ?_
      refine zr_aald (r := ad (23 + ky)) hx hb hK hP 7 3 rfl rfl (by omega) (by decide) (zo_at ad 23 (by omega)) dX0_forget_22 ?_
      refine lv_iload_n hx hb dX0_forget_23 rfl (lv_at hl 1 rfl) ?_
      refine lv_lconst (v := lN 0) hx hb dX0_forget_24 (by decide) ?_
      refine zr_last hx hb hK hP hD hS (23 + ky) 1 (xw_cx (by omega)) rfl (by omega) (by omega) (xs_cx (by omega) _ _) dX0_forget_25 (fun H locs hP hD hS => ?_)
      refine lv_iconst (v := nI 1) hx hb dX0_forget_26 (by decide) ?_
      exact W.zret (v := nI 1) hx hb hr (by first | rfl | decide) (fun t ht hW => ⟨⟨_, (zU cx ky cl 0), rfl, ⟨(by first | exact (zq2_1 hdx1).symm | exact (zq2_2 hdx2).symm | exact (by unfold aForget; rw [zq2_s hdx1 hdx2]; first | done | rfl)), (by first | exact (zq2_1 hdx1).symm | exact (zq2_2 hdx2).symm | exact (by unfold uForget; rw [zq2_s hdx1 hdx2]; first | done | rfl))⟩, by rw [ht]; exact hP, va_K.moved hW.alike hK, hD⟩, hS.F ht⟩) hS.2.2 dX0_forget_27
    ·
      refine lv_if_ne (tgt := 17) hx hb dX0_forget_12 (by decide) (fun q => absurd q (by decide)) (fun _ => ?_)
      refine lv_iconst (v := nI 0) hx hb dX0_forget_15 (by decide) ?_
      exact W.zret (v := nI 0) hx hb hr (by first | rfl | decide) (fun t ht hW => ⟨⟨_, cx, rfl, ⟨(by first | exact (zq2_1 hdx1).symm | exact (zq2_2 hdx2).symm | exact (by unfold aForget; rw [zq2_s hdx1 hdx2]; first | done | rfl)), (by first | exact (zq2_1 hdx1).symm | exact (zq2_2 hdx2).symm | exact (by unfold uForget; rw [zq2_s hdx1 hdx2]; first | done | rfl))⟩, by rw [ht]; exact hP, va_K.moved hW.alike hK, hD⟩, hS.F ht⟩) hS.2.2 dX0_forget_16
  ·
    refine lv_if_eq (tgt := 15) hx hb dX0_forget_5 (by decide) (fun _ => ?_) (fun q => absurd q (by decide))
    refine lv_iconst (v := nI 0) hx hb dX0_forget_15 (by decide) ?_
    exact W.zret (v := nI 0) hx hb hr (by first | rfl | decide) (fun t ht hW => ⟨⟨_, cx, rfl, ⟨(by first | exact (zq2_1 hdx1).symm | exact (zq2_2 hdx2).symm | exact (by unfold aForget; rw [zq2_s hdx1 hdx2]; first | done | rfl)), (by first | exact (zq2_1 hdx1).symm | exact (zq2_2 hdx2).symm | exact (by unfold uForget; rw [zq2_s hdx1 hdx2]; first | done | rfl))⟩, by rw [ht]; exact hP, va_K.moved hW.alike hK, hD⟩, hS.F ht⟩) hS.2.2 dX0_forget_16
set_option maxHeartbeats 4000000 in
set_option maxRecDepth 100000 in
/-- sync -/
theorem c_X0_sync (l : Launch) (dC : Nat → ClassId) (dI : Nat → Nat → Nat) (ad : Nat → Nat) (cI cJ cII cJJ : ClassId) (S C : Nat) (n : Nat → Nat) (va : Nat → Nat → Int32) (mk ct ps kn cx : Nat → Nat → Nat) (hG : zG S C n mk ct ps kn cx) (x1 x2 x3 : Int32) (sz : Nat) : Met l yX0_sync wsX0_sync ({ frames := 1, cells := 0, slots := 0, locals := 21 }) (va_Pc [.ref (ad 0), .int x1, .int x2, .int x3] (xC dC dI ad cI cJ cII cJJ S C n va mk ct ps kn cx sz)) (va_Qi (fun (r : Int32) (u : Nat → Nat → Nat) => r = aSync S x1 x2 x3 ∧ u = uSync S kn x1 x2 x3) (fun u t => xE (va_A (xw ad cI cJ cII cJJ S C n va mk ct ps kn cx) sz) dC dI ad cI cJ cII cJJ S C n va mk ct ps u cx t) (va_A (xw ad cI cJ cII cJJ S C n va mk ct ps kn cx) sz)) 0 0 (va_A (xw ad cI cJ cII cJJ S C n va mk ct ps kn cx) sz) := by
  refine Met.ofW (cc := cX0_sync) (maxL := 6) (ret := (some .boolean)) (by decide) rfl ?_
  intro p e s m args below meth c s₁ B hml hv
  obtain ⟨rfl, hsz, hP, hK, hD0⟩ := hv
  have hx := B.exec
  have hb := B.bytes
  have hr := B.returns
  have hts := atoms_spec (ws := wsX0_sync) B.pre
  have hown : s.vm.findClass RX0 = some m.cls := findClass_of_methodNamed B.named
  have hlocks := B.notSynchronized
  have hin0 : ∀ w ∈ wsX00, w ∈ wsX0_sync := fun _ h => List.mem_cons_of_mem _ (List.mem_append_right _ h)
  subst hsz
  have hD := hD0.self (sz := s.heap.size)
  generalize hAe : va_A (xw ad cI cJ cII cJJ S C n va mk ct ps kn cx) s.heap.size = A at hD ⊢
  have hS : va_S A s.heap s.heap [] := va_S.rf
  have hl := lv_entry ([.ref (ad 0), .int x1, .int x2, .int x3]) (n := 6) (Nat.le_of_ble_eq_true rfl)
  rw [lg_entry_eq]
  generalize (lg_sl ([.ref (ad 0), .int x1, .int x2, .int x3]) ++ List.replicate (6 - (lg_sl ([.ref (ad 0), .int x1, .int x2, .int x3])).length) Slot.unset).toArray = ls at hl ⊢
  have hl : lv_has ls 6 [(0, .ref (ad 0)), (1, .int x1), (2, .int x2), (3, .int x3)] := hl
  obtain ⟨⟨hS1, hS4, hC1, hC4⟩, hn, hmk, hct, hps, hkn, hcx, hcn, hkw⟩ := hG
  refine lv_aload_n hx hb dX0_sync_0 rfl (lv_at hl 0 rfl) ?_
  refine lv_iload_n hx hb dX0_sync_1 rfl (lv_at hl 1 rfl) ?_
  refine vp_callSi (W.runV (As := [.int x1]) (rest := []) ⟨hx, hb, hml, hown, hts⟩ (c_X0_isServer l dC dI ad cI cJ cII cJJ S C n va mk ct ps kn cx (by omega) x1) (cwV 1 hts gX0_sync_X0_isServer rfl rfl rfl (by decide +kernel) ⟨Nat.le_of_ble_eq_true rfl, Nat.le_of_ble_eq_true rfl⟩) ⟨xB_blind, va_recv hK hP (ci := 0) (q0 := 0) rfl rfl, fun U hU hW => ⟨rfl, xB_at hP hK hU hW⟩⟩ rfl rfl hl.1 rfl (lv_room (Nat.le_of_ble_eq_true rfl)) dX0_sync_2 ⟨Nat.le_of_ble_eq_true rfl, Nat.le_of_ble_eq_true rfl⟩) (fun r hq => ?_)
  rcases hq with ⟨rfl, sa, hsa, rfl, hdx1⟩ | ⟨rfl, hdx1⟩
  ·
    refine lv_if_eq (tgt := 28) hx hb dX0_sync_5 (by decide) (fun q => absurd q (by decide)) (fun _ => ?_)
    refine lv_aload_n hx hb dX0_sync_8 rfl (lv_at hl 0 rfl) ?_
    refine lv_iload_n hx hb dX0_sync_9 rfl (lv_at hl 2 rfl) ?_
    refine vp_callSi (W.runV (As := [.int x2]) (rest := []) ⟨hx, hb, hml, hown, hts⟩ (c_X0_isServer l dC dI ad cI cJ cII cJJ S C n va mk ct ps kn cx (by omega) x2) (cwV 1 hts gX0_sync_X0_isServer rfl rfl rfl (by decide +kernel) ⟨Nat.le_of_ble_eq_true rfl, Nat.le_of_ble_eq_true rfl⟩) ⟨xB_blind, va_recv hK hP (ci := 0) (q0 := 0) rfl rfl, fun U hU hW => ⟨rfl, xB_at hP hK hU hW⟩⟩ rfl rfl hl.1 rfl (lv_room (Nat.le_of_ble_eq_true rfl)) dX0_sync_10 ⟨Nat.le_of_ble_eq_true rfl, Nat.le_of_ble_eq_true rfl⟩) (fun r hq => ?_)
    rcases hq with ⟨rfl, sb, hsb, rfl, hdx2⟩ | ⟨rfl, hdx2⟩
    ·
      refine lv_if_eq (tgt := 28) hx hb dX0_sync_13 (by decide) (fun q => absurd q (by decide)) (fun _ => ?_)
      refine lv_iload_n hx hb dX0_sync_16 rfl (lv_at hl 1 rfl) ?_
      refine lv_iload_n hx hb dX0_sync_17 rfl (lv_at hl 2 rfl) ?_
      refine zr_ieq (tgt := 28) hx hb (by omega) (by omega) dX0_sync_18 (by decide) (fun c18 => ?_) (fun c18 => ?_)
      ·
        refine lv_iconst (v := nI 0) hx hb dX0_sync_28 (by decide) ?_
        exact W.zret (v := nI 0) hx hb hr (by first | rfl | decide) (fun t ht hW => ⟨⟨_, kn, rfl, ⟨(by first | exact (zq3_1 hdx1).symm | exact (zq3_2 hdx2).symm | exact (zq3_3 hdx3).symm | exact (by unfold aSync; rw [zq3_s hdx1 hdx2 hdx3, if_neg c18]; first | done | rfl) | exact (by unfold aSync; rw [hdx1, hdx2]; cases zD 3 x3 <;> simp [zq3, c18, nI_0])), (by first | exact (zq3_1 hdx1).symm | exact (zq3_2 hdx2).symm | exact (zq3_3 hdx3).symm | exact (by unfold uSync; rw [zq3_s hdx1 hdx2 hdx3, if_neg c18]; first | done | rfl) | exact (by unfold uSync; rw [hdx1, hdx2]; cases zD 3 x3 <;> simp [zq3, c18]))⟩, by rw [ht]; exact hP, va_K.moved hW.alike hK, hD⟩, hS.F ht⟩) hS.2.2 dX0_sync_29
      ·
        refine lv_iload_n hx hb dX0_sync_21 rfl (lv_at hl 3 rfl) ?_
        refine vp_callSi (W.runS (As := [.int x3]) (rest := []) ⟨hx, hb, hml, hown, hts⟩ (c_X0_isKey l x3) (va_cwS 1 hts gX0_sync_X0_isKey rfl rfl rfl (by decide +kernel) ⟨Nat.le_of_ble_eq_true rfl, Nat.le_of_ble_eq_true rfl⟩) ⟨zB_blind, fun U hU hW => ⟨rfl, trivial⟩⟩ rfl rfl hl.1 rfl (lv_room (Nat.le_of_ble_eq_true rfl)) dX0_sync_22 ⟨Nat.le_of_ble_eq_true rfl, Nat.le_of_ble_eq_true rfl⟩) (fun r hq => ?_)
        rcases hq with ⟨rfl, ky, hky, rfl, hdx3⟩ | ⟨rfl, hdx3⟩
        ·
          refine lv_if_ne (tgt := 30) hx hb dX0_sync_25 (by decide) (fun _ => ?_) (fun q => absurd q (by decide))
          refine lv_aload_n hx hb dX0_sync_30 rfl (lv_at hl 0 rfl) ?_
          refine va_get (D := (dC, dI)) (ci := 0) (v := .ref (ad 6)) (C := RX0) (T := TX0) (N := 9) hx hb hts hin0 hown hK hP 0 rfl rfl 7 (by decide) (hts (.fieldLink RX0 42 "DottedSiblings" "knownSets" "[[J") (by decide +kernel)) (fun _ h9 => h9) rfl dX0_sync_31 ?_
          refine lv_iload_n hx hb dX0_sync_34 rfl (lv_at hl 3 rfl) ?_
          refine zr_aald (r := ad (20 + ky)) hx hb hK hP 6 3 rfl rfl (by omega) (by decide) (zo_at ad 20 (by omega)) dX0_sync_35 ?_
          refine lv_iload_n hx hb dX0_sync_36 rfl (lv_at hl 1 rfl) ?_
          refine zr_lald (v := lN (kn ky sa)) hx hb hK hP (20 + ky) 1 (xw_kn (by omega)) rfl (by omega) (by omega) rfl dX0_sync_37 ?_
          refine lv_aload_n hx hb dX0_sync_38 rfl (lv_at hl 0 rfl) ?_
          refine va_get (D := (dC, dI)) (ci := 0) (v := .ref (ad 6)) (C := RX0) (T := TX0) (N := 9) hx hb hts hin0 hown hK hP 0 rfl rfl 7 (by decide) (hts (.fieldLink RX0 42 "DottedSiblings" "knownSets" "[[J") (by decide +kernel)) (fun _ h9 => h9) rfl dX0_sync_39 ?_
          refine lv_iload_n hx hb dX0_sync_42 rfl (lv_at hl 3 rfl) ?_
          refine zr_aald (r := ad (20 + ky)) hx hb hK hP 6 3 rfl rfl (by omega) (by decide) (zo_at ad 20 (by omega)) dX0_sync_43 ?_
          refine lv_iload_n hx hb dX0_sync_44 rfl (lv_at hl 2 rfl) ?_
          refine zr_lald (v := lN (kn ky sb)) hx hb hK hP (20 + ky) 1 (xw_kn (by omega)) rfl (by omega) (by omega) rfl dX0_sync_45 ?_
          refine zr_lor hx hb dX0_sync_46 ?_
          refine lv_lstore (lv' := [(4, .long (lN ((kn ky sa) ||| (kn ky sb)))), (0, .ref (ad 0)), (1, .int (nI sa)), (2, .int (nI sb)), (3, .int (nI ky))]) hx hb dX0_sync_47 hl (by decide) rfl (fun ls hl => ?_)
          refine lv_aload_n hx hb dX0_sync_49 rfl (lv_at hl 1 rfl) ?_
          refine va_get (D := (dC, dI)) (ci := 0) (v := .ref (ad 6)) (C := RX0) (T := TX0) (N := 9) hx hb hts hin0 hown hK hP 0 rfl rfl 7 (by decide) (hts (.fieldLink RX0 42 "DottedSiblings" "knownSets" "[[J") (by decide +kernel)) (fun _ h9 => h9) rfl dX0_sync_50 ?_
          refine lv_iload_n hx hb dX0_sync_53 rfl (lv_at hl 4 rfl) ?_
          refine zr_aald (r := ad (20 + ky)) hx hb hK hP 6 3 rfl rfl (by omega) (by decide) (zo_at ad 20 (by omega)) dX0_sync_54 ?_
          refine lv_iload_n hx hb dX0_sync_55 rfl (lv_at hl 2 rfl) ?_
          refine lv_lload hx hb dX0_sync_56 (lv_at hl 0 rfl) ?_
          refine zr_last hx hb hK hP hD hS (20 + ky) 1 (xw_kn (by omega)) rfl (by omega) (by omega) (xs_kn (by omega) _ _) dX0_sync_58 (fun H locs hP hD hS => ?_)
          refine lv_aload_n hx hb dX0_sync_59 rfl (lv_at hl 1 rfl) ?_
          refine va_get (D := (dC, dI)) (ci := 0) (v := .ref (ad 6)) (C := RX0) (T := TX0) (N := 9) hx hb hts hin0 hown hK hP 0 rfl rfl 7 (by decide) (hts (.fieldLink RX0 42 "DottedSiblings" "knownSets" "[[J") (by decide +kernel)) (fun _ h9 => h9) rfl dX0_sync_60 ?_
          refine lv_iload_n hx hb dX0_sync_63 rfl (lv_at hl 4 rfl) ?_
          refine zr_aald (r := ad (20 + ky)) hx hb hK hP 6 3 rfl rfl (by omega) (by decide) (zo_at ad 20 (by omega)) dX0_sync_64 ?_
          refine lv_iload_n hx hb dX0_sync_65 rfl (lv_at hl 3 rfl) ?_
          refine lv_lload hx hb dX0_sync_66 (lv_at hl 0 rfl) ?_
          refine zr_last hx hb hK hP hD hS (20 + ky) 1 (xw_kn (by omega)) rfl (by omega) (by omega) (xs_kn (by omega) _ _) dX0_sync_68 (fun H locs hP hD hS => ?_)
          refine lv_iconst (v := nI 1) hx hb dX0_sync_69 (by decide) ?_
          exact W.zret (v := nI 1) hx hb hr (by first | rfl | decide) (fun t ht hW => ⟨⟨_, (zU (zU kn ky sa ((kn ky sa) ||| (kn ky sb))) ky sb ((kn ky sa) ||| (kn ky sb))), rfl, ⟨(by first | exact (zq3_1 hdx1).symm | exact (zq3_2 hdx2).symm | exact (zq3_3 hdx3).symm | exact (by unfold aSync; rw [zq3_s hdx1 hdx2 hdx3, if_neg c18]; first | done | rfl) | exact (by unfold aSync; rw [hdx1, hdx2]; cases zD 3 x3 <;> simp [zq3, c18, nI_0])), (by first | exact (zq3_1 hdx1).symm | exact (zq3_2 hdx2).symm | exact (zq3_3 hdx3).symm | exact (by unfold uSync; rw [zq3_s hdx1 hdx2 hdx3, if_neg c18]; first | done | rfl) | exact (by unfold uSync; rw [hdx1, hdx2]; cases zD 3 x3 <;> simp [zq3, c18]))⟩, by rw [ht]; exact hP, va_K.moved hW.alike hK, hD⟩, hS.F ht⟩) hS.2.2 dX0_sync_70
        ·
          refine lv_if_ne (tgt := 30) hx hb dX0_sync_25 (by decide) (fun q => absurd q (by decide)) (fun _ => ?_)
          refine lv_iconst (v := nI 0) hx hb dX0_sync_28 (by decide) ?_
          exact W.zret (v := nI 0) hx hb hr (by first | rfl | decide) (fun t ht hW => ⟨⟨_, kn, rfl, ⟨(by first | exact (zq3_1 hdx1).symm | exact (zq3_2 hdx2).symm | exact (zq3_3 hdx3).symm | exact (by unfold aSync; rw [zq3_s hdx1 hdx2 hdx3, if_neg c18]; first | done | rfl) | exact (by unfold aSync; rw [hdx1, hdx2]; cases zD 3 x3 <;> simp [zq3, c18, nI_0])), (by first | exact (zq3_1 hdx1).symm | exact (zq3_2 hdx2).symm | exact (zq3_3 hdx3).symm | exact (by unfold uSync; rw [zq3_s hdx1 hdx2 hdx3, if_neg c18]; first | done | rfl) | exact (by unfold uSync; rw [hdx1, hdx2]; cases zD 3 x3 <;> simp [zq3, c18]))⟩, by rw [ht]; exact hP, va_K.moved hW.alike hK, hD⟩, hS.F ht⟩) hS.2.2 dX0_sync_29
    ·
      refine lv_if_eq (tgt := 28) hx hb dX0_sync_13 (by decide) (fun _ => ?_) (fun q => absurd q (by decide))
      refine lv_iconst (v := nI 0) hx hb dX0_sync_28 (by decide) ?_
      exact W.zret (v := nI 0) hx hb hr (by first | rfl | decide) (fun t ht hW => ⟨⟨_, kn, rfl, ⟨(by first | exact (zq3_1 hdx1).symm | exact (zq3_2 hdx2).symm | exact (zq3_3 hdx3).symm | exact (by unfold aSync; rw [zq3_s hdx1 hdx2 hdx3, if_neg c18]; first | done | rfl) | exact (by unfold aSync; rw [hdx1, hdx2]; cases zD 3 x3 <;> simp [zq3, c18, nI_0])), (by first | exact (zq3_1 hdx1).symm | exact (zq3_2 hdx2).symm | exact (zq3_3 hdx3).symm | exact (by unfold uSync; rw [zq3_s hdx1 hdx2 hdx3, if_neg c18]; first | done | rfl) | exact (by unfold uSync; rw [hdx1, hdx2]; cases zD 3 x3 <;> simp [zq3, c18]))⟩, by rw [ht]; exact hP, va_K.moved hW.alike hK, hD⟩, hS.F ht⟩) hS.2.2 dX0_sync_29
  ·
    refine lv_if_eq (tgt := 28) hx hb dX0_sync_5 (by decide) (fun _ => ?_) (fun q => absurd q (by decide))
    refine lv_iconst (v := nI 0) hx hb dX0_sync_28 (by decide) ?_
    exact W.zret (v := nI 0) hx hb hr (by first | rfl | decide) (fun t ht hW => ⟨⟨_, kn, rfl, ⟨(by first | exact (zq3_1 hdx1).symm | exact (zq3_2 hdx2).symm | exact (zq3_3 hdx3).symm | exact (by unfold aSync; rw [zq3_s hdx1 hdx2 hdx3, if_neg c18]; first | done | rfl) | exact (by unfold aSync; rw [hdx1, hdx2]; cases zD 3 x3 <;> simp [zq3, c18, nI_0])), (by first | exact (zq3_1 hdx1).symm | exact (zq3_2 hdx2).symm | exact (zq3_3 hdx3).symm | exact (by unfold uSync; rw [zq3_s hdx1 hdx2 hdx3, if_neg c18]; first | done | rfl) | exact (by unfold uSync; rw [hdx1, hdx2]; cases zD 3 x3 <;> simp [zq3, c18]))⟩, by rw [ht]; exact hP, va_K.moved hW.alike hK, hD⟩, hS.F ht⟩) hS.2.2 dX0_sync_29
set_option maxHeartbeats 4000000 in
set_option maxRecDepth 100000 in
/-- put -/
theorem c_X0_put (l : Launch) (dC : Nat → ClassId) (dI : Nat → Nat → Nat) (ad : Nat → Nat) (cI cJ cII cJJ : ClassId) (S C : Nat) (n : Nat → Nat) (va : Nat → Nat → Int32) (mk ct ps kn cx : Nat → Nat → Nat) (hG : zG S C n mk ct ps kn cx) (x1 x2 x3 x4 : Int32) (sz : Nat) : Met l yX0_put wsX0_put ({ frames := 2, cells := 0, slots := 0, locals := 48 }) (va_Pc [.ref (ad 0), .int x1, .int x2, .int x3, .int x4] (xC dC dI ad cI cJ cII cJJ S C n va mk ct ps kn cx sz)) (va_Qi (fun (r : Int32) (u : zPT) => r = aPut S C n x1 x2 x3 ∧ u = uPut S C n va mk ct ps kn cx x1 x2 x3 x4) (fun u t => xE (va_A (xw ad cI cJ cII cJJ S C n va mk ct ps kn cx) sz) dC dI ad cI cJ cII cJJ S C (u.1) (u.2.1) (u.2.2.1) (u.2.2.2.1) (u.2.2.2.2.1) (u.2.2.2.2.2) cx t) (va_A (xw ad cI cJ cII cJJ S C n va mk ct ps kn cx) sz)) 0 0 (va_A (xw ad cI cJ cII cJJ S C n va mk ct ps kn cx) sz) := by
  refine Met.ofW (cc := cX0_put) (maxL := 8) (ret := (some .int)) (by decide) rfl ?_
  intro p e s m args below meth c s₁ B hml hv
  obtain ⟨rfl, hsz, hP, hK, hD0⟩ := hv
  have hx := B.exec
  have hb := B.bytes
  have hr := B.returns
  have hts := atoms_spec (ws := wsX0_put) B.pre
  have hown : s.vm.findClass RX0 = some m.cls := findClass_of_methodNamed B.named
  have hlocks := B.notSynchronized
  have hin0 : ∀ w ∈ wsX00, w ∈ wsX0_put := fun _ h => List.mem_cons_of_mem _ (List.mem_append_right _ h)
  subst hsz
  have hD := hD0.self (sz := s.heap.size)
  generalize hAe : va_A (xw ad cI cJ cII cJJ S C n va mk ct ps kn cx) s.heap.size = A at hD ⊢
  have hS : va_S A s.heap s.heap [] := va_S.rf
  have hl := lv_entry ([.ref (ad 0), .int x1, .int x2, .int x3, .int x4]) (n := 8) (Nat.le_of_ble_eq_true rfl)
  rw [lg_entry_eq]
  generalize (lg_sl ([.ref (ad 0), .int x1, .int x2, .int x3, .int x4]) ++ List.replicate (8 - (lg_sl ([.ref (ad 0), .int x1, .int x2, .int x3, .int x4])).length) Slot.unset).toArray = ls at hl ⊢
  have hl : lv_has ls 8 [(0, .ref (ad 0)), (1, .int x1), (2, .int x2), (3, .int x3), (4, .int x4)] := hl
  have hG0 := hG
  obtain ⟨⟨hS1, hS4, hC1, hC4⟩, hn, hmk, hct, hps, hkn, hcx, hcn, hkw⟩ := hG
  refine lv_aload_n hx hb dX0_put_0 rfl (lv_at hl 0 rfl) ?_
  refine lv_iload_n hx hb dX0_put_1 rfl (lv_at hl 1 rfl) ?_
  refine vp_callSi (W.runV (As := [.int x1]) (rest := []) ⟨hx, hb, hml, hown, hts⟩ (c_X0_isServer l dC dI ad cI cJ cII cJJ S C n va mk ct ps kn cx (by omega) x1) (cwV 1 hts gX0_put_X0_isServer rfl rfl rfl (by decide +kernel) ⟨Nat.le_of_ble_eq_true rfl, Nat.le_of_ble_eq_true rfl⟩) ⟨xB_blind, va_recv hK hP (ci := 0) (q0 := 0) rfl rfl, fun U hU hW => ⟨rfl, xB_at hP hK hU hW⟩⟩ rfl rfl hl.1 rfl (lv_room (Nat.le_of_ble_eq_true rfl)) dX0_put_2 ⟨Nat.le_of_ble_eq_true rfl, Nat.le_of_ble_eq_true rfl⟩) (fun r hq => ?_)
  rcases hq with ⟨rfl, sv, hsv, rfl, hdx1⟩ | ⟨rfl, hdx1⟩
  ·
    refine lv_if_eq (tgt := 34) hx hb dX0_put_5 (by decide) (fun q => absurd q (by decide)) (fun _ => ?_)
    refine lv_aload_n hx hb dX0_put_8 rfl (lv_at hl 0 rfl) ?_
    refine lv_iload_n hx hb dX0_put_9 rfl (lv_at hl 2 rfl) ?_
    refine vp_callSi (W.runV (As := [.int x2]) (rest := []) ⟨hx, hb, hml, hown, hts⟩ (c_X0_isClient l dC dI ad cI cJ cII cJJ S C n va mk ct ps kn cx (by omega) x2) (cwV 1 hts gX0_put_X0_isClient rfl rfl rfl (by decide +kernel) ⟨Nat.le_of_ble_eq_true rfl, Nat.le_of_ble_eq_true rfl⟩) ⟨xB_blind, va_recv hK hP (ci := 0) (q0 := 0) rfl rfl, fun U hU hW => ⟨rfl, xB_at hP hK hU hW⟩⟩ rfl rfl hl.1 rfl (lv_room (Nat.le_of_ble_eq_true rfl)) dX0_put_10 ⟨Nat.le_of_ble_eq_true rfl, Nat.le_of_ble_eq_true rfl⟩) (fun r hq => ?_)
    rcases hq with ⟨rfl, cl, hcl, rfl, hdx2⟩ | ⟨rfl, hdx2⟩
    ·
      refine lv_if_eq (tgt := 34) hx hb dX0_put_13 (by decide) (fun q => absurd q (by decide)) (fun _ => ?_)
      refine lv_iload_n hx hb dX0_put_16 rfl (lv_at hl 3 rfl) ?_
      refine vp_callSi (W.runS (As := [.int x3]) (rest := []) ⟨hx, hb, hml, hown, hts⟩ (c_X0_isKey l x3) (va_cwS 1 hts gX0_put_X0_isKey rfl rfl rfl (by decide +kernel) ⟨Nat.le_of_ble_eq_true rfl, Nat.le_of_ble_eq_true rfl⟩) ⟨zB_blind, fun U hU hW => ⟨rfl, trivial⟩⟩ rfl rfl hl.1 rfl (lv_room (Nat.le_of_ble_eq_true rfl)) dX0_put_17 ⟨Nat.le_of_ble_eq_true rfl, Nat.le_of_ble_eq_true rfl⟩) (fun r hq => ?_)
      rcases hq with ⟨rfl, ky, hky, rfl, hdx3⟩ | ⟨rfl, hdx3⟩
      ·
        refine lv_if_eq (tgt := 34) hx hb dX0_put_20 (by decide) (fun q => absurd q (by decide)) (fun _ => ?_)
        refine lv_aload_n hx hb dX0_put_23 rfl (lv_at hl 0 rfl) ?_
        refine va_get (D := (dC, dI)) (ci := 0) (v := .ref (ad 1)) (C := RX0) (T := TX0) (N := 9) hx hb hts hin0 hown hK hP 0 rfl rfl 2 (by decide) (hts (.fieldLink RX0 22 "DottedSiblings" "written" "[I") (by decide +kernel)) (fun _ h9 => h9) rfl dX0_put_24 ?_
        refine lv_iload_n hx hb dX0_put_27 rfl (lv_at hl 3 rfl) ?_
        refine zr_iald (v := nI (n ky)) hx hb hK hP 1 0 rfl rfl (by omega) (by omega) rfl dX0_put_28 ?_
        have hn9 := hn ky
        refine lv_bipush (v := nI 40) hx hb dX0_put_29 (by decide) ?_
        refine zr_ilt (tgt := 36) hx hb (by omega) (by omega) dX0_put_31 (by decide) (fun c31 => ?_) (fun c31 => ?_)
        ·
          refine lv_aload_n hx hb dX0_put_36 rfl (lv_at hl 0 rfl) ?_
          refine va_get (D := (dC, dI)) (ci := 0) (v := .ref (ad 1)) (C := RX0) (T := TX0) (N := 9) hx hb hts hin0 hown hK hP 0 rfl rfl 2 (by decide) (hts (.fieldLink RX0 22 "DottedSiblings" "written" "[I") (by decide +kernel)) (fun _ h9 => h9) rfl dX0_put_37 ?_
          refine lv_iload_n hx hb dX0_put_40 rfl (lv_at hl 3 rfl) ?_
          refine zr_iald (v := nI (n ky)) hx hb hK hP 1 0 rfl rfl (by omega) (by omega) rfl dX0_put_41 ?_
          refine lv_istore (lv' := [(5, .int (nI (n ky))), (0, .ref (ad 0)), (1, .int (nI sv)), (2, .int (nI cl)), (3, .int (nI ky)), (4, .int x4)]) hx hb dX0_put_42 hl (by decide) rfl (fun ls hl => ?_)
          refine lv_aload_n hx hb dX0_put_44 rfl (lv_at hl 1 rfl) ?_
          refine va_get (D := (dC, dI)) (ci := 0) (v := .ref (ad 7)) (C := RX0) (T := TX0) (N := 9) hx hb hts hin0 hown hK hP 0 rfl rfl 8 (by decide) (hts (.fieldLink RX0 45 "DottedSiblings" "contextSets" "[[J") (by decide +kernel)) (fun _ h9 => h9) rfl dX0_put_45 ?_
          refine lv_iload_n hx hb dX0_put_48 rfl (lv_at hl 4 rfl) ?_
          refine zr_aald (r := ad (23 + ky)) hx hb hK hP 7 3 rfl rfl (by omega) (by decide) (zo_at ad 23 (by omega)) dX0_put_49 ?_
          refine lv_iload_n hx hb dX0_put_50 rfl (lv_at hl 3 rfl) ?_
          refine zr_lald (v := lN (cx ky cl)) hx hb hK hP (23 + ky) 1 (xw_cx (by omega)) rfl (by omega) (by omega) rfl dX0_put_51 ?_
          refine lv_lstore (lv' := [(6, .long (lN (cx ky cl))), (5, .int (nI (n ky))), (0, .ref (ad 0)), (1, .int (nI sv)), (2, .int (nI cl)), (3, .int (nI ky)), (4, .int x4)]) hx hb dX0_put_52 hl (by decide) rfl (fun ls hl => ?_)
          refine lv_aload_n hx hb dX0_put_54 rfl (lv_at hl 2 rfl) ?_
          refine va_get (D := (dC, dI)) (ci := 0) (v := .ref (ad 2)) (C := RX0) (T := TX0) (N := 9) hx hb hts hin0 hown hK hP 0 rfl rfl 3 (by decide) (hts (.fieldLink RX0 28 "DottedSiblings" "values" "[[I") (by decide +kernel)) (fun _ h9 => h9) rfl dX0_put_55 ?_
          refine lv_iload_n hx hb dX0_put_58 rfl (lv_at hl 5 rfl) ?_
          refine zr_aald (r := ad (8 + ky)) hx hb hK hP 2 2 rfl rfl (by omega) (by decide) (zo_at ad 8 (by omega)) dX0_put_59 ?_
          refine lv_iload hx hb dX0_put_60 (lv_at hl 1 rfl) ?_
          refine lv_iload hx hb dX0_put_62 (lv_at hl 6 rfl) ?_
          refine zr_iast hx hb hK hP hD hS (8 + ky) 0 (xw_va (by omega)) rfl (by omega) (by omega) (xs_va (by omega) _ _) dX0_put_64 (fun H locs hP hD hS => ?_)
          refine lv_aload_n hx hb dX0_put_65 rfl (lv_at hl 2 rfl) ?_
          refine va_get (D := (dC, dI)) (ci := 0) (v := .ref (ad 3)) (C := RX0) (T := TX0) (N := 9) hx hb hts hin0 hown hK hP 0 rfl rfl 4 (by decide) (hts (.fieldLink RX0 31 "DottedSiblings" "makers" "[[I") (by decide +kernel)) (fun _ h9 => h9) rfl dX0_put_66 ?_
          refine lv_iload_n hx hb dX0_put_69 rfl (lv_at hl 5 rfl) ?_
          refine zr_aald (r := ad (11 + ky)) hx hb hK hP 3 2 rfl rfl (by omega) (by decide) (zo_at ad 11 (by omega)) dX0_put_70 ?_
          refine lv_iload hx hb dX0_put_71 (lv_at hl 1 rfl) ?_
          refine lv_iload_n hx hb dX0_put_73 rfl (lv_at hl 3 rfl) ?_
          refine zr_iast hx hb hK hP hD hS (11 + ky) 0 (xw_mk (by omega)) rfl (by omega) (by omega) (xs_mk (by omega) _ _) dX0_put_74 (fun H locs hP hD hS => ?_)
          refine lv_aload_n hx hb dX0_put_75 rfl (lv_at hl 2 rfl) ?_
          refine va_get (D := (dC, dI)) (ci := 0) (v := .ref (ad 4)) (C := RX0) (T := TX0) (N := 9) hx hb hts hin0 hown hK hP 0 rfl rfl 5 (by decide) (hts (.fieldLink RX0 34 "DottedSiblings" "counters" "[[I") (by decide +kernel)) (fun _ h9 => h9) rfl dX0_put_76 ?_
          refine lv_iload_n hx hb dX0_put_79 rfl (lv_at hl 5 rfl) ?_
          refine zr_aald (r := ad (14 + ky)) hx hb hK hP 4 2 rfl rfl (by omega) (by decide) (zo_at ad 14 (by omega)) dX0_put_80 ?_
          refine lv_iload hx hb dX0_put_81 (lv_at hl 1 rfl) ?_
          refine lv_aload_n hx hb dX0_put_83 rfl (lv_at hl 2 rfl) ?_
          refine lv_iload_n hx hb dX0_put_84 rfl (lv_at hl 5 rfl) ?_
          refine lv_aload_n hx hb dX0_put_85 rfl (lv_at hl 2 rfl) ?_
          refine va_get (D := (dC, dI)) (ci := 0) (v := .ref (ad 6)) (C := RX0) (T := TX0) (N := 9) hx hb hts hin0 hown hK hP 0 rfl rfl 7 (by decide) (hts (.fieldLink RX0 42 "DottedSiblings" "knownSets" "[[J") (by decide +kernel)) (fun _ h9 => h9) rfl dX0_put_86 ?_
          refine lv_iload_n hx hb dX0_put_89 rfl (lv_at hl 5 rfl) ?_
          refine zr_aald (r := ad (20 + ky)) hx hb hK hP 6 3 rfl rfl (by omega) (by decide) (zo_at ad 20 (by omega)) dX0_put_90 ?_
          refine lv_iload_n hx hb dX0_put_91 rfl (lv_at hl 3 rfl) ?_
          refine zr_lald (v := lN (kn ky sv)) hx hb hK hP (20 + ky) 1 (xw_kn (by omega)) rfl (by omega) (by omega) rfl dX0_put_92 ?_
          refine lv_iload_n hx hb dX0_put_93 rfl (lv_at hl 3 rfl) ?_
          refine vp_callSi (W.runV (As := [.int (nI ky), .long (lN (kn ky sv)), .int (nI sv)]) (rest := [.int (nI (n ky)), .ref (ad (14 + ky))]) ⟨hx, hb, hml, hown, hts⟩ (c_X0_vectorAt l dC dI ad cI cJ cII cJJ S C n (zV va ky (n ky) x4) (zU mk ky (n ky) sv) ct ps kn cx ky (kn ky sv) sv (by omega) (Nat.lt_trans (z40 (hkn _ _) (hn _)) (by decide)) (by omega) (hn _) (fun w h => by rw [zU_nj _ _ (Or.inr (Nat.ne_of_lt h))]; exact Nat.lt_of_lt_of_le (hmk _ w h) hS4) (hct _)) (cwV 3 hts gX0_put_X0_vectorAt rfl rfl rfl (by decide +kernel) ⟨Nat.le_of_ble_eq_true rfl, Nat.le_of_ble_eq_true rfl⟩) ⟨xB_blind, va_recv hK hP (ci := 0) (q0 := 0) rfl rfl, fun U hU hW => ⟨rfl, xB_at hP hK hU hW⟩⟩ rfl rfl hl.1 rfl (lv_room (Nat.le_of_ble_eq_true rfl)) dX0_put_94 ⟨Nat.le_of_ble_eq_true rfl, Nat.le_of_ble_eq_true rfl⟩) (fun r hq => ?_)
          subst hq
          refine lv_iconst (v := nI 1) hx hb dX0_put_97 (by decide) ?_
          refine zr_iadd hx hb dX0_put_98 ?_
          refine zr_iast hx hb hK hP hD hS (14 + ky) 0 (xw_ct (by omega)) rfl (by omega) (by omega) (xs_ct (by omega) _ _) dX0_put_99 (fun H locs hP hD hS => ?_)
          refine lv_aload_n hx hb dX0_put_100 rfl (lv_at hl 2 rfl) ?_
          refine va_get (D := (dC, dI)) (ci := 0) (v := .ref (ad 5)) (C := RX0) (T := TX0) (N := 9) hx hb hts hin0 hown hK hP 0 rfl rfl 6 (by decide) (hts (.fieldLink RX0 39 "DottedSiblings" "pasts" "[[J") (by decide +kernel)) (fun _ h9 => h9) rfl dX0_put_101 ?_
          refine lv_iload_n hx hb dX0_put_104 rfl (lv_at hl 5 rfl) ?_
          refine zr_aald (r := ad (17 + ky)) hx hb hK hP 5 3 rfl rfl (by omega) (by decide) (zo_at ad 17 (by omega)) dX0_put_105 ?_
          refine lv_iload hx hb dX0_put_106 (lv_at hl 1 rfl) ?_
          refine lv_lload hx hb dX0_put_108 (lv_at hl 0 rfl) ?_
          refine zr_last hx hb hK hP hD hS (17 + ky) 1 (xw_ps (by omega)) rfl (by omega) (by omega) (xs_ps (by omega) _ _) dX0_put_110 (fun H locs hP hD hS => ?_)
          refine lv_aload_n hx hb dX0_put_111 rfl (lv_at hl 2 rfl) ?_
          refine va_get (D := (dC, dI)) (ci := 0) (v := .ref (ad 6)) (C := RX0) (T := TX0) (N := 9) hx hb hts hin0 hown hK hP 0 rfl rfl 7 (by decide) (hts (.fieldLink RX0 42 "DottedSiblings" "knownSets" "[[J") (by decide +kernel)) (fun _ h9 => h9) rfl dX0_put_112 ?_
          refine lv_iload_n hx hb dX0_put_115 rfl (lv_at hl 5 rfl) ?_
          refine zr_aald (r := ad (20 + ky)) hx hb hK hP 6 3 rfl rfl (by omega) (by decide) (zo_at ad 20 (by omega)) dX0_put_116 ?_
          refine lv_iload_n hx hb dX0_put_117 rfl (lv_at hl 3 rfl) ?_
          refine lv_dup2_11 hx hb dX0_put_118 rfl rfl ?_
          refine zr_lald (v := lN (kn ky sv)) hx hb hK hP (20 + ky) 1 (xw_kn (by omega)) rfl (by omega) (by omega) rfl dX0_put_119 ?_
          refine lv_lload hx hb dX0_put_120 (lv_at hl 0 rfl) ?_
          refine lv_lconst (v := lN 1) hx hb dX0_put_122 (by decide) ?_
          refine lv_iload hx hb dX0_put_123 (lv_at hl 1 rfl) ?_
          refine zr_lshl hx hb (by omega) dX0_put_125 ?_
          refine zr_lor hx hb dX0_put_126 ?_
          refine zr_lor hx hb dX0_put_127 ?_
          refine zr_last hx hb hK hP hD hS (20 + ky) 1 (xw_kn (by omega)) rfl (by omega) (by omega) (xs_kn (by omega) _ _) dX0_put_128 (fun H locs hP hD hS => ?_)
          refine lv_aload_n hx hb dX0_put_129 rfl (lv_at hl 2 rfl) ?_
          refine va_get (D := (dC, dI)) (ci := 0) (v := .ref (ad 1)) (C := RX0) (T := TX0) (N := 9) hx hb hts hin0 hown hK hP 0 rfl rfl 2 (by decide) (hts (.fieldLink RX0 22 "DottedSiblings" "written" "[I") (by decide +kernel)) (fun _ h9 => h9) rfl dX0_put_130 ?_
          refine lv_iload_n hx hb dX0_put_133 rfl (lv_at hl 5 rfl) ?_
          refine lv_iload hx hb dX0_put_134 (lv_at hl 1 rfl) ?_
          refine lv_iconst (v := nI 1) hx hb dX0_put_136 (by decide) ?_
          refine zr_iadd hx hb dX0_put_137 ?_
          refine zr_iast hx hb hK hP hD hS 1 0 rfl rfl (by omega) (by omega) (xs_n (by omega) _) dX0_put_138 (fun H locs hP hD hS => ?_)
          refine lv_iload hx hb dX0_put_139 (lv_at hl 1 rfl) ?_
          exact W.iret (v := nI (n ky)) hx hb hr (fun t ht hW => ⟨⟨_, ((zu n ky (n ky + 1)), (zV va ky (n ky) x4), (zU mk ky (n ky) sv), (zU ct ky (n ky) (zVec (ct ky) (zHit ((zU mk ky (n ky) sv) ky) (kn ky sv) sv) (n ky) + 1)), (zU ps ky (n ky) (cx ky cl)), (zU kn ky sv ((kn ky sv) ||| ((cx ky cl) ||| (1 * 2 ^ (n ky)))))), rfl, ⟨(by first | exact (zq3_1 hdx1).symm | exact (zq3_2 hdx2).symm | exact (zq3_3 hdx3).symm | exact (by unfold aPut; rw [zq3_s hdx1 hdx2 hdx3, if_pos c31]; first | done | rfl) | exact (by unfold aPut; rw [zq3_s hdx1 hdx2 hdx3, if_neg (Nat.not_lt.mpr c31)]; first | done | rfl)), (by first | exact (zq3_1 hdx1).symm | exact (zq3_2 hdx2).symm | exact (zq3_3 hdx3).symm | exact (by unfold uPut; rw [zq3_s hdx1 hdx2 hdx3, if_neg (Nat.not_lt.mpr c31)]; first | done | rfl) | exact (by unfold uPut; rw [zq3_s hdx1 hdx2 hdx3, if_pos c31, zVec_put hG0]))⟩, by rw [ht]; exact hP, va_K.moved hW.alike hK, hD⟩, hS.F ht⟩) hS.2.2 dX0_put_141
        ·
          refine lv_iconst (v := (-1)) hx hb dX0_put_34 (by decide) ?_
          exact W.iret (v := (-1)) hx hb hr (fun t ht hW => ⟨⟨_, (n, va, mk, ct, ps, kn), rfl, ⟨(by first | exact (zq3_1 hdx1).symm | exact (zq3_2 hdx2).symm | exact (zq3_3 hdx3).symm | exact (by unfold aPut; rw [zq3_s hdx1 hdx2 hdx3, if_pos c31]; first | done | rfl) | exact (by unfold aPut; rw [zq3_s hdx1 hdx2 hdx3, if_neg (Nat.not_lt.mpr c31)]; first | done | rfl)), (by first | exact (zq3_1 hdx1).symm | exact (zq3_2 hdx2).symm | exact (zq3_3 hdx3).symm | exact (by unfold uPut; rw [zq3_s hdx1 hdx2 hdx3, if_neg (Nat.not_lt.mpr c31)]; first | done | rfl) | exact (by unfold uPut; rw [zq3_s hdx1 hdx2 hdx3, if_pos c31, zVec_put hG0]))⟩, by rw [ht]; exact hP, va_K.moved hW.alike hK, hD⟩, hS.F ht⟩) hS.2.2 dX0_put_35
      ·
        refine lv_if_eq (tgt := 34) hx hb dX0_put_20 (by decide) (fun _ => ?_) (fun q => absurd q (by decide))
        refine lv_iconst (v := (-1)) hx hb dX0_put_34 (by decide) ?_
        exact W.iret (v := (-1)) hx hb hr (fun t ht hW => ⟨⟨_, (n, va, mk, ct, ps, kn), rfl, ⟨(by first | exact (zq3_1 hdx1).symm | exact (zq3_2 hdx2).symm | exact (zq3_3 hdx3).symm | exact (by unfold aPut; rw [zq3_s hdx1 hdx2 hdx3, if_pos c31]; first | done | rfl) | exact (by unfold aPut; rw [zq3_s hdx1 hdx2 hdx3, if_neg (Nat.not_lt.mpr c31)]; first | done | rfl)), (by first | exact (zq3_1 hdx1).symm | exact (zq3_2 hdx2).symm | exact (zq3_3 hdx3).symm | exact (by unfold uPut; rw [zq3_s hdx1 hdx2 hdx3, if_neg (Nat.not_lt.mpr c31)]; first | done | rfl) | exact (by unfold uPut; rw [zq3_s hdx1 hdx2 hdx3, if_pos c31, zVec_put hG0]))⟩, by rw [ht]; exact hP, va_K.moved hW.alike hK, hD⟩, hS.F ht⟩) hS.2.2 dX0_put_35
    ·
      refine lv_if_eq (tgt := 34) hx hb dX0_put_13 (by decide) (fun _ => ?_) (fun q => absurd q (by decide))
      refine lv_iconst (v := (-1)) hx hb dX0_put_34 (by decide) ?_
      exact W.iret (v := (-1)) hx hb hr (fun t ht hW => ⟨⟨_, (n, va, mk, ct, ps, kn), rfl, ⟨(by first | exact (zq3_1 hdx1).symm | exact (zq3_2 hdx2).symm | exact (zq3_3 hdx3).symm | exact (by unfold aPut; rw [zq3_s hdx1 hdx2 hdx3, if_pos c31]; first | done | rfl) | exact (by unfold aPut; rw [zq3_s hdx1 hdx2 hdx3, if_neg (Nat.not_lt.mpr c31)]; first | done | rfl)), (by first | exact (zq3_1 hdx1).symm | exact (zq3_2 hdx2).symm | exact (zq3_3 hdx3).symm | exact (by unfold uPut; rw [zq3_s hdx1 hdx2 hdx3, if_neg (Nat.not_lt.mpr c31)]; first | done | rfl) | exact (by unfold uPut; rw [zq3_s hdx1 hdx2 hdx3, if_pos c31, zVec_put hG0]))⟩, by rw [ht]; exact hP, va_K.moved hW.alike hK, hD⟩, hS.F ht⟩) hS.2.2 dX0_put_35
  ·
    refine lv_if_eq (tgt := 34) hx hb dX0_put_5 (by decide) (fun _ => ?_) (fun q => absurd q (by decide))
    refine lv_iconst (v := (-1)) hx hb dX0_put_34 (by decide) ?_
    exact W.iret (v := (-1)) hx hb hr (fun t ht hW => ⟨⟨_, (n, va, mk, ct, ps, kn), rfl, ⟨(by first | exact (zq3_1 hdx1).symm | exact (zq3_2 hdx2).symm | exact (zq3_3 hdx3).symm | exact (by unfold aPut; rw [zq3_s hdx1 hdx2 hdx3, if_pos c31]; first | done | rfl) | exact (by unfold aPut; rw [zq3_s hdx1 hdx2 hdx3, if_neg (Nat.not_lt.mpr c31)]; first | done | rfl)), (by first | exact (zq3_1 hdx1).symm | exact (zq3_2 hdx2).symm | exact (zq3_3 hdx3).symm | exact (by unfold uPut; rw [zq3_s hdx1 hdx2 hdx3, if_neg (Nat.not_lt.mpr c31)]; first | done | rfl) | exact (by unfold uPut; rw [zq3_s hdx1 hdx2 hdx3, if_pos c31, zVec_put hG0]))⟩, by rw [ht]; exact hP, va_K.moved hW.alike hK, hD⟩, hS.F ht⟩) hS.2.2 dX0_put_35
set_option maxHeartbeats 4000000 in
set_option maxRecDepth 100000 in
/-- get -/
theorem c_X1_get (l : Launch) (dC : Nat → ClassId) (dI : Nat → Nat → Nat) (ad : Nat → Nat) (cI cJ : ClassId) (S C : Nat) (n : Nat → Nat) (va : Nat → Nat → Int32) (mk ct ps kn cx rd : Nat → Nat → Nat) (hG : zG S C n mk ct ps kn cx) (x1 x2 x3 : Int32) (sz : Nat) : Met l yX1_get wsX1_get ({ frames := 1, cells := 0, slots := 0, locals := 26 }) (va_Pc [.ref (ad 0), .int x1, .int x2, .int x3] (mC dC dI ad cI cJ S C n va mk ct ps kn cx rd sz)) (va_Qi (fun (r : Int32) (u : (Nat → Nat → Nat) × (Nat → Nat → Nat)) => r = aGet S C n ps kn x1 x2 x3 ∧ u = (uGet S C kn cx x1 x2 x3, vGet S C n ps kn rd x1 x2 x3)) (fun u t => mE (va_A (mw ad cI cJ S C n va mk ct ps kn cx rd) sz) dC dI ad cI cJ S C n va mk ct ps kn (u.1) (u.2) t) (va_A (mw ad cI cJ S C n va mk ct ps kn cx rd) sz)) 0 0 (va_A (mw ad cI cJ S C n va mk ct ps kn cx rd) sz) := by
  refine Met.ofW (cc := cX1_get) (maxL := 4) (ret := (some .int)) (by decide) rfl ?_
  intro p e s m args below meth c s₁ B hml hv
  obtain ⟨rfl, hsz, hP, hK, hD0⟩ := hv
  have hx := B.exec
  have hb := B.bytes
  have hr := B.returns
  have hts := atoms_spec (ws := wsX1_get) B.pre
  have hown : s.vm.findClass RX1 = some m.cls := findClass_of_methodNamed B.named
  have hlocks := B.notSynchronized
  have hin0 : ∀ w ∈ wsX10, w ∈ wsX1_get := fun _ h => List.mem_cons_of_mem _ (List.mem_append_right _ h)
  subst hsz
  have hD := hD0.self (sz := s.heap.size)
  generalize hAe : va_A (mw ad cI cJ S C n va mk ct ps kn cx rd) s.heap.size = A at hD ⊢
  have hS : va_S A s.heap s.heap [] := va_S.rf
  have hl := lv_entry ([.ref (ad 0), .int x1, .int x2, .int x3]) (n := 4) (Nat.le_of_ble_eq_true rfl)
  rw [lg_entry_eq]
  generalize (lg_sl ([.ref (ad 0), .int x1, .int x2, .int x3]) ++ List.replicate (4 - (lg_sl ([.ref (ad 0), .int x1, .int x2, .int x3])).length) Slot.unset).toArray = ls at hl ⊢
  have hl : lv_has ls 4 [(0, .ref (ad 0)), (1, .int x1), (2, .int x2), (3, .int x3)] := hl
  obtain ⟨⟨hS1, hS4, hC1, hC4⟩, hn, hmk, hct, hps, hkn, hcx, hcn, hkw⟩ := hG
  refine lv_aload_n hx hb dX1_get_0 rfl (lv_at hl 0 rfl) ?_
  refine lv_iload_n hx hb dX1_get_1 rfl (lv_at hl 1 rfl) ?_
  refine vp_callSi (W.runV (As := [.int x1]) (rest := []) ⟨hx, hb, hml, hown, hts⟩ (c_X1_isServer l dC dI ad cI cJ S C n va mk ct ps kn cx rd (by omega) x1) (cwV 1 hts gX1_get_X1_isServer rfl rfl rfl (by decide +kernel) ⟨Nat.le_of_ble_eq_true rfl, Nat.le_of_ble_eq_true rfl⟩) ⟨mB_blind, va_recv hK hP (ci := 1) (q0 := 0) rfl rfl, fun U hU hW => ⟨rfl, mB_at hP hK hU hW⟩⟩ rfl rfl hl.1 rfl (lv_room (Nat.le_of_ble_eq_true rfl)) dX1_get_2 ⟨Nat.le_of_ble_eq_true rfl, Nat.le_of_ble_eq_true rfl⟩) (fun r hq => ?_)
  rcases hq with ⟨rfl, sv, hsv, rfl, hdx1⟩ | ⟨rfl, hdx1⟩
  ·
    refine lv_if_eq (tgt := 23) hx hb dX1_get_5 (by decide) (fun q => absurd q (by decide)) (fun _ => ?_)
    refine lv_aload_n hx hb dX1_get_8 rfl (lv_at hl 0 rfl) ?_
    refine lv_iload_n hx hb dX1_get_9 rfl (lv_at hl 2 rfl) ?_
    refine vp_callSi (W.runV (As := [.int x2]) (rest := []) ⟨hx, hb, hml, hown, hts⟩ (c_X1_isClient l dC dI ad cI cJ S C n va mk ct ps kn cx rd (by omega) x2) (cwV 1 hts gX1_get_X1_isClient rfl rfl rfl (by decide +kernel) ⟨Nat.le_of_ble_eq_true rfl, Nat.le_of_ble_eq_true rfl⟩) ⟨mB_blind, va_recv hK hP (ci := 1) (q0 := 0) rfl rfl, fun U hU hW => ⟨rfl, mB_at hP hK hU hW⟩⟩ rfl rfl hl.1 rfl (lv_room (Nat.le_of_ble_eq_true rfl)) dX1_get_10 ⟨Nat.le_of_ble_eq_true rfl, Nat.le_of_ble_eq_true rfl⟩) (fun r hq => ?_)
    rcases hq with ⟨rfl, cl, hcl, rfl, hdx2⟩ | ⟨rfl, hdx2⟩
    ·
      refine lv_if_eq (tgt := 23) hx hb dX1_get_13 (by decide) (fun q => absurd q (by decide)) (fun _ => ?_)
      refine lv_iload_n hx hb dX1_get_16 rfl (lv_at hl 3 rfl) ?_
      refine vp_callSi (W.runS (As := [.int x3]) (rest := []) ⟨hx, hb, hml, hown, hts⟩ (c_X1_isKey l x3) (va_cwS 1 hts gX1_get_X1_isKey rfl rfl rfl (by decide +kernel) ⟨Nat.le_of_ble_eq_true rfl, Nat.le_of_ble_eq_true rfl⟩) ⟨zB_blind, fun U hU hW => ⟨rfl, trivial⟩⟩ rfl rfl hl.1 rfl (lv_room (Nat.le_of_ble_eq_true rfl)) dX1_get_17 ⟨Nat.le_of_ble_eq_true rfl, Nat.le_of_ble_eq_true rfl⟩) (fun r hq => ?_)
      rcases hq with ⟨rfl, ky, hky, rfl, hdx3⟩ | ⟨rfl, hdx3⟩
      ·
        refine lv_if_ne (tgt := 25) hx hb dX1_get_20 (by decide) (fun _ => ?_) (fun q => absurd q (by decide))
        refine lv_aload_n hx hb dX1_get_25 rfl (lv_at hl 0 rfl) ?_
        refine va_get (D := (dC, dI)) (ci := 1) (v := .ref (ad 7)) (C := RX1) (T := TX1) (N := 10) hx hb hts hin0 hown hK hP 0 rfl rfl 8 (by decide) (hts (.fieldLink RX1 29 "DottedSiblingsModel" "contexts" "[J") (by decide +kernel)) (fun _ h9 => h9) rfl dX1_get_26 ?_
        refine lv_iconst (v := nI 3) hx hb dX1_get_29 (by decide) ?_
        refine lv_iload_n hx hb dX1_get_30 rfl (lv_at hl 2 rfl) ?_
        refine zr_imul hx hb dX1_get_31 ?_
        refine lv_iload_n hx hb dX1_get_32 rfl (lv_at hl 3 rfl) ?_
        refine zr_iadd hx hb dX1_get_33 ?_
        refine lv_aload_n hx hb dX1_get_34 rfl (lv_at hl 0 rfl) ?_
        refine va_get (D := (dC, dI)) (ci := 1) (v := .ref (ad 6)) (C := RX1) (T := TX1) (N := 10) hx hb hts hin0 hown hK hP 0 rfl rfl 7 (by decide) (hts (.fieldLink RX1 26 "DottedSiblingsModel" "known" "[J") (by decide +kernel)) (fun _ h9 => h9) rfl dX1_get_35 ?_
        refine lv_iconst (v := nI 3) hx hb dX1_get_38 (by decide) ?_
        refine lv_iload_n hx hb dX1_get_39 rfl (lv_at hl 1 rfl) ?_
        refine zr_imul hx hb dX1_get_40 ?_
        refine lv_iload_n hx hb dX1_get_41 rfl (lv_at hl 3 rfl) ?_
        refine zr_iadd hx hb dX1_get_42 ?_
        refine zr_lald (v := lN (kn ky sv)) hx hb hK hP 6 1 rfl rfl (by omega) (by omega) (congrArg lN (zf3 _ (by omega))) dX1_get_43 ?_
        refine zr_last hx hb hK hP hD hS 7 1 rfl rfl (by omega) (by omega) (ms_cx (by omega) _) dX1_get_44 (fun H locs hP hD hS => ?_)
        refine lv_aload_n hx hb dX1_get_45 rfl (lv_at hl 0 rfl) ?_
        refine va_get (D := (dC, dI)) (ci := 1) (v := .ref (ad 8)) (C := RX1) (T := TX1) (N := 10) hx hb hts hin0 hown hK hP 0 rfl rfl 9 (by decide) (hts (.fieldLink RX1 32 "DottedSiblingsModel" "reads" "[J") (by decide +kernel)) (fun _ h9 => h9) rfl dX1_get_46 ?_
        refine lv_iconst (v := nI 3) hx hb dX1_get_49 (by decide) ?_
        refine lv_iload_n hx hb dX1_get_50 rfl (lv_at hl 2 rfl) ?_
        refine zr_imul hx hb dX1_get_51 ?_
        refine lv_iload_n hx hb dX1_get_52 rfl (lv_at hl 3 rfl) ?_
        refine zr_iadd hx hb dX1_get_53 ?_
        refine lv_aload_n hx hb dX1_get_54 rfl (lv_at hl 0 rfl) ?_
        refine lv_aload_n hx hb dX1_get_55 rfl (lv_at hl 0 rfl) ?_
        refine va_get (D := (dC, dI)) (ci := 1) (v := .ref (ad 6)) (C := RX1) (T := TX1) (N := 10) hx hb hts hin0 hown hK hP 0 rfl rfl 7 (by decide) (hts (.fieldLink RX1 26 "DottedSiblingsModel" "known" "[J") (by decide +kernel)) (fun _ h9 => h9) rfl dX1_get_56 ?_
        refine lv_iconst (v := nI 3) hx hb dX1_get_59 (by decide) ?_
        refine lv_iload_n hx hb dX1_get_60 rfl (lv_at hl 1 rfl) ?_
        refine zr_imul hx hb dX1_get_61 ?_
        refine lv_iload_n hx hb dX1_get_62 rfl (lv_at hl 3 rfl) ?_
        refine zr_iadd hx hb dX1_get_63 ?_
        refine zr_lald (v := lN (kn ky sv)) hx hb hK hP 6 1 rfl rfl (by omega) (by omega) (congrArg lN (zf3 _ (by omega))) dX1_get_64 ?_
        refine lv_iload_n hx hb dX1_get_65 rfl (lv_at hl 3 rfl) ?_
        refine vp_callSl (W.runV (As := [.long (lN (kn ky sv)), .int (nI ky)]) (rest := [.int (nI (3 * cl + ky)), .ref (ad 8)]) ⟨hx, hb, hml, hown, hts⟩ (c_X1_newest l dC dI ad cI cJ S C n va mk ct ps kn (zU cx ky cl (kn ky sv)) rd ky (kn ky sv) (by omega) (Nat.lt_trans (z40 (hkn _ _) (hn _)) (by decide)) (hn _)) (cwV 2 hts gX1_get_X1_newest rfl rfl rfl (by decide +kernel) ⟨Nat.le_of_ble_eq_true rfl, Nat.le_of_ble_eq_true rfl⟩) ⟨mB_blind, va_recv hK hP (ci := 1) (q0 := 0) rfl rfl, fun U hU hW => ⟨rfl, mB_at hP hK hU hW⟩⟩ rfl rfl hl.1 rfl (lv_room (Nat.le_of_ble_eq_true rfl)) dX1_get_66 ⟨Nat.le_of_ble_eq_true rfl, Nat.le_of_ble_eq_true rfl⟩) (fun r hq => ?_)
        subst hq
        refine zr_last hx hb hK hP hD hS 8 1 rfl rfl (by omega) (by omega) (ms_rd (by omega) _) dX1_get_69 (fun H locs hP hD hS => ?_)
        refine lv_aload_n hx hb dX1_get_70 rfl (lv_at hl 0 rfl) ?_
        refine va_get (D := (dC, dI)) (ci := 1) (v := .ref (ad 8)) (C := RX1) (T := TX1) (N := 10) hx hb hts hin0 hown hK hP 0 rfl rfl 9 (by decide) (hts (.fieldLink RX1 32 "DottedSiblingsModel" "reads" "[J") (by decide +kernel)) (fun _ h9 => h9) rfl dX1_get_71 ?_
        refine lv_iconst (v := nI 3) hx hb dX1_get_74 (by decide) ?_
        refine lv_iload_n hx hb dX1_get_75 rfl (lv_at hl 2 rfl) ?_
        refine zr_imul hx hb dX1_get_76 ?_
        refine lv_iload_n hx hb dX1_get_77 rfl (lv_at hl 3 rfl) ?_
        refine zr_iadd hx hb dX1_get_78 ?_
        refine zr_lald (v := lN (zNew (n ky) (ps ky) (kn ky sv))) hx hb hK hP 8 1 rfl rfl (by omega) (by omega) (congrArg lN ((zf3 _ (by omega)).trans (zU_s _ _ _ _))) dX1_get_79 ?_
        refine vp_callSi (W.runS (As := [.long (lN (zNew (n ky) (ps ky) (kn ky sv)))]) (rest := []) ⟨hx, hb, hml, hown, hts⟩ (c_X1_sizeOf l (zNew (n ky) (ps ky) (kn ky sv)) (Nat.lt_trans (Nat.lt_of_le_of_lt (zNew_le _ _ _) (z40 (hkn _ _) (hn _))) (by decide))) (va_cwS 1 hts gX1_get_X1_sizeOf rfl rfl rfl (by decide +kernel) ⟨Nat.le_of_ble_eq_true rfl, Nat.le_of_ble_eq_true rfl⟩) ⟨zB_blind, fun U hU hW => ⟨rfl, trivial⟩⟩ rfl rfl hl.1 rfl (lv_room (Nat.le_of_ble_eq_true rfl)) dX1_get_80 ⟨Nat.le_of_ble_eq_true rfl, Nat.le_of_ble_eq_true rfl⟩) (fun r hq => ?_)
        subst hq
        exact W.iret (v := nI (zSize (zNew (n ky) (ps ky) (kn ky sv)))) hx hb hr (fun t ht hW => ⟨⟨_, ((zU cx ky cl (kn ky sv)), (zU rd ky cl (zNew (n ky) (ps ky) (kn ky sv)))), rfl, ⟨(by first | exact (zq3_1 hdx1).symm | exact (zq3_2 hdx2).symm | exact (zq3_3 hdx3).symm | exact (by unfold aGet; rw [zq3_s hdx1 hdx2 hdx3]; first | done | rfl)), (by first | exact congr (congrArg Prod.mk (by first | exact (zq3_1 hdx1).symm | exact (zq3_2 hdx2).symm | exact (zq3_3 hdx3).symm | exact (by unfold uGet; rw [zq3_s hdx1 hdx2 hdx3]; first | done | rfl))) (by first | exact (zq3_1 hdx1).symm | exact (zq3_2 hdx2).symm | exact (zq3_3 hdx3).symm | exact (by unfold vGet; rw [zq3_s hdx1 hdx2 hdx3]; first | done | rfl)))⟩, by rw [ht]; exact hP, va_K.moved hW.alike hK, hD⟩, hS.F ht⟩) hS.2.2 dX1_get_83
      ·
        refine lv_if_ne (tgt := 25) hx hb dX1_get_20 (by decide) (fun q => absurd q (by decide)) (fun _ => ?_)
        refine lv_iconst (v := (-1)) hx hb dX1_get_23 (by decide) ?_
        exact W.iret (v := (-1)) hx hb hr (fun t ht hW => ⟨⟨_, (cx, rd), rfl, ⟨(by first | exact (zq3_1 hdx1).symm | exact (zq3_2 hdx2).symm | exact (zq3_3 hdx3).symm | exact (by unfold aGet; rw [zq3_s hdx1 hdx2 hdx3]; first | done | rfl)), (by first | exact congr (congrArg Prod.mk (by first | exact (zq3_1 hdx1).symm | exact (zq3_2 hdx2).symm | exact (zq3_3 hdx3).symm | exact (by unfold uGet; rw [zq3_s hdx1 hdx2 hdx3]; first | done | rfl))) (by first | exact (zq3_1 hdx1).symm | exact (zq3_2 hdx2).symm | exact (zq3_3 hdx3).symm | exact (by unfold vGet; rw [zq3_s hdx1 hdx2 hdx3]; first | done | rfl)))⟩, by rw [ht]; exact hP, va_K.moved hW.alike hK, hD⟩, hS.F ht⟩) hS.2.2 dX1_get_24
    ·
      refine lv_if_eq (tgt := 23) hx hb dX1_get_13 (by decide) (fun _ => ?_) (fun q => absurd q (by decide))
      refine lv_iconst (v := (-1)) hx hb dX1_get_23 (by decide) ?_
      exact W.iret (v := (-1)) hx hb hr (fun t ht hW => ⟨⟨_, (cx, rd), rfl, ⟨(by first | exact (zq3_1 hdx1).symm | exact (zq3_2 hdx2).symm | exact (zq3_3 hdx3).symm | exact (by unfold aGet; rw [zq3_s hdx1 hdx2 hdx3]; first | done | rfl)), (by first | exact congr (congrArg Prod.mk (by first | exact (zq3_1 hdx1).symm | exact (zq3_2 hdx2).symm | exact (zq3_3 hdx3).symm | exact (by unfold uGet; rw [zq3_s hdx1 hdx2 hdx3]; first | done | rfl))) (by first | exact (zq3_1 hdx1).symm | exact (zq3_2 hdx2).symm | exact (zq3_3 hdx3).symm | exact (by unfold vGet; rw [zq3_s hdx1 hdx2 hdx3]; first | done | rfl)))⟩, by rw [ht]; exact hP, va_K.moved hW.alike hK, hD⟩, hS.F ht⟩) hS.2.2 dX1_get_24
  ·
    refine lv_if_eq (tgt := 23) hx hb dX1_get_5 (by decide) (fun _ => ?_) (fun q => absurd q (by decide))
    refine lv_iconst (v := (-1)) hx hb dX1_get_23 (by decide) ?_
    exact W.iret (v := (-1)) hx hb hr (fun t ht hW => ⟨⟨_, (cx, rd), rfl, ⟨(by first | exact (zq3_1 hdx1).symm | exact (zq3_2 hdx2).symm | exact (zq3_3 hdx3).symm | exact (by unfold aGet; rw [zq3_s hdx1 hdx2 hdx3]; first | done | rfl)), (by first | exact congr (congrArg Prod.mk (by first | exact (zq3_1 hdx1).symm | exact (zq3_2 hdx2).symm | exact (zq3_3 hdx3).symm | exact (by unfold uGet; rw [zq3_s hdx1 hdx2 hdx3]; first | done | rfl))) (by first | exact (zq3_1 hdx1).symm | exact (zq3_2 hdx2).symm | exact (zq3_3 hdx3).symm | exact (by unfold vGet; rw [zq3_s hdx1 hdx2 hdx3]; first | done | rfl)))⟩, by rw [ht]; exact hP, va_K.moved hW.alike hK, hD⟩, hS.F ht⟩) hS.2.2 dX1_get_24
set_option maxHeartbeats 4000000 in
set_option maxRecDepth 100000 in
/-- forget -/
theorem c_X1_forget (l : Launch) (dC : Nat → ClassId) (dI : Nat → Nat → Nat) (ad : Nat → Nat) (cI cJ : ClassId) (S C : Nat) (n : Nat → Nat) (va : Nat → Nat → Int32) (mk ct ps kn cx rd : Nat → Nat → Nat) (hG : zG S C n mk ct ps kn cx) (x1 x2 : Int32) (sz : Nat) : Met l yX1_forget wsX1_forget ({ frames := 1, cells := 0, slots := 0, locals := 21 }) (va_Pc [.ref (ad 0), .int x1, .int x2] (mC dC dI ad cI cJ S C n va mk ct ps kn cx rd sz)) (va_Qi (fun (r : Int32) (u : (Nat → Nat → Nat) × (Nat → Nat → Nat)) => r = aForget C x1 x2 ∧ u = (uForget C cx x1 x2, uForget C rd x1 x2)) (fun u t => mE (va_A (mw ad cI cJ S C n va mk ct ps kn cx rd) sz) dC dI ad cI cJ S C n va mk ct ps kn (u.1) (u.2) t) (va_A (mw ad cI cJ S C n va mk ct ps kn cx rd) sz)) 0 0 (va_A (mw ad cI cJ S C n va mk ct ps kn cx rd) sz) := by
  refine Met.ofW (cc := cX1_forget) (maxL := 3) (ret := (some .boolean)) (by decide) rfl ?_
  intro p e s m args below meth c s₁ B hml hv
  obtain ⟨rfl, hsz, hP, hK, hD0⟩ := hv
  have hx := B.exec
  have hb := B.bytes
  have hr := B.returns
  have hts := atoms_spec (ws := wsX1_forget) B.pre
  have hown : s.vm.findClass RX1 = some m.cls := findClass_of_methodNamed B.named
  have hlocks := B.notSynchronized
  have hin0 : ∀ w ∈ wsX10, w ∈ wsX1_forget := fun _ h => List.mem_cons_of_mem _ (List.mem_append_right _ h)
  subst hsz
  have hD := hD0.self (sz := s.heap.size)
  generalize hAe : va_A (mw ad cI cJ S C n va mk ct ps kn cx rd) s.heap.size = A at hD ⊢
  have hS : va_S A s.heap s.heap [] := va_S.rf
  have hl := lv_entry ([.ref (ad 0), .int x1, .int x2]) (n := 3) (Nat.le_of_ble_eq_true rfl)
  rw [lg_entry_eq]
  generalize (lg_sl ([.ref (ad 0), .int x1, .int x2]) ++ List.replicate (3 - (lg_sl ([.ref (ad 0), .int x1, .int x2])).length) Slot.unset).toArray = ls at hl ⊢
  have hl : lv_has ls 3 [(0, .ref (ad 0)), (1, .int x1), (2, .int x2)] := hl
  obtain ⟨⟨hS1, hS4, hC1, hC4⟩, hn, hmk, hct, hps, hkn, hcx, hcn, hkw⟩ := hG
  refine lv_aload_n hx hb dX1_forget_0 rfl (lv_at hl 0 rfl) ?_
  refine lv_iload_n hx hb dX1_forget_1 rfl (lv_at hl 1 rfl) ?_
  refine vp_callSi (W.runV (As := [.int x1]) (rest := []) ⟨hx, hb, hml, hown, hts⟩ (c_X1_isClient l dC dI ad cI cJ S C n va mk ct ps kn cx rd (by omega) x1) (cwV 1 hts gX1_forget_X1_isClient rfl rfl rfl (by decide +kernel) ⟨Nat.le_of_ble_eq_true rfl, Nat.le_of_ble_eq_true rfl⟩) ⟨mB_blind, va_recv hK hP (ci := 1) (q0 := 0) rfl rfl, fun U hU hW => ⟨rfl, mB_at hP hK hU hW⟩⟩ rfl rfl hl.1 rfl (lv_room (Nat.le_of_ble_eq_true rfl)) dX1_forget_2 ⟨Nat.le_of_ble_eq_true rfl, Nat.le_of_ble_eq_true rfl⟩) (fun r hq => ?_)
  rcases hq with ⟨rfl, cl, hcl, rfl, hdx1⟩ | ⟨rfl, hdx1⟩
  ·
    refine lv_if_eq (tgt := 15) hx hb dX1_forget_5 (by decide) (fun q => absurd q (by decide)) (fun _ => ?_)
    refine lv_iload_n hx hb dX1_forget_8 rfl (lv_at hl 2 rfl) ?_
    refine vp_callSi (W.runS (As := [.int x2]) (rest := []) ⟨hx, hb, hml, hown, hts⟩ (c_X1_isKey l x2) (va_cwS 1 hts gX1_forget_X1_isKey rfl rfl rfl (by decide +kernel) ⟨Nat.le_of_ble_eq_true rfl, Nat.le_of_ble_eq_true rfl⟩) ⟨zB_blind, fun U hU hW => ⟨rfl, trivial⟩⟩ rfl rfl hl.1 rfl (lv_room (Nat.le_of_ble_eq_true rfl)) dX1_forget_9 ⟨Nat.le_of_ble_eq_true rfl, Nat.le_of_ble_eq_true rfl⟩) (fun r hq => ?_)
    rcases hq with ⟨rfl, ky, hky, rfl, hdx2⟩ | ⟨rfl, hdx2⟩
    ·
      refine lv_if_ne (tgt := 17) hx hb dX1_forget_12 (by decide) (fun _ => ?_) (fun q => absurd q (by decide))
      refine lv_aload_n hx hb dX1_forget_17 rfl (lv_at hl 0 rfl) ?_
      refine va_get (D := (dC, dI)) (ci := 1) (v := .ref (ad 7)) (C := RX1) (T := TX1) (N := 10) hx hb hts hin0 hown hK hP 0 rfl rfl 8 (by decide) (hts (.fieldLink RX1 29 "DottedSiblingsModel" "contexts" "[J") (by decide +kernel)) (fun _ h9 => h9) rfl dX1_forget_18 ?_
      refine lv_iconst (v := nI 3) hx hb dX1_forget_21 (by decide) ?_
      refine lv_iload_n hx hb dX1_forget_22 rfl (lv_at hl 1 rfl) ?_
      refine zr_imul hx hb dX1_forget_23 ?_
      refine lv_iload_n hx hb dX1_forget_24 rfl (lv_at hl 2 rfl) ?_
      refine zr_iadd hx hb dX1_forget_25 ?_
      refine lv_lconst (v := lN 0) hx hb dX1_forget_26 (by decide) ?_
      refine zr_last hx hb hK hP hD hS 7 1 rfl rfl (by omega) (by omega) (ms_cx (by omega) _) dX1_forget_27 (fun H locs hP hD hS => ?_)
      refine lv_aload_n hx hb dX1_forget_28 rfl (lv_at hl 0 rfl) ?_
      refine va_get (D := (dC, dI)) (ci := 1) (v := .ref (ad 8)) (C := RX1) (T := TX1) (N := 10) hx hb hts hin0 hown hK hP 0 rfl rfl 9 (by decide) (hts (.fieldLink RX1 32 "DottedSiblingsModel" "reads" "[J") (by decide +kernel)) (fun _ h9 => h9) rfl dX1_forget_29 ?_
      refine lv_iconst (v := nI 3) hx hb dX1_forget_32 (by decide) ?_
      refine lv_iload_n hx hb dX1_forget_33 rfl (lv_at hl 1 rfl) ?_
      refine zr_imul hx hb dX1_forget_34 ?_
      refine lv_iload_n hx hb dX1_forget_35 rfl (lv_at hl 2 rfl) ?_
      refine zr_iadd hx hb dX1_forget_36 ?_
      refine lv_lconst (v := lN 0) hx hb dX1_forget_37 (by decide) ?_
      refine zr_last hx hb hK hP hD hS 8 1 rfl rfl (by omega) (by omega) (ms_rd (by omega) _) dX1_forget_38 (fun H locs hP hD hS => ?_)
      refine lv_iconst (v := nI 1) hx hb dX1_forget_39 (by decide) ?_
      exact W.zret (v := nI 1) hx hb hr (by first | rfl | decide) (fun t ht hW => ⟨⟨_, ((zU cx ky cl 0), (zU rd ky cl 0)), rfl, ⟨(by first | exact (zq2_1 hdx1).symm | exact (zq2_2 hdx2).symm | exact (by unfold aForget; rw [zq2_s hdx1 hdx2]; first | done | rfl)), (by first | exact congr (congrArg Prod.mk (by first | exact (zq2_1 hdx1).symm | exact (zq2_2 hdx2).symm | exact (by unfold uForget; rw [zq2_s hdx1 hdx2]; first | done | rfl))) (by first | exact (zq2_1 hdx1).symm | exact (zq2_2 hdx2).symm | exact (by unfold uForget; rw [zq2_s hdx1 hdx2]; first | done | rfl)))⟩, by rw [ht]; exact hP, va_K.moved hW.alike hK, hD⟩, hS.F ht⟩) hS.2.2 dX1_forget_40
    ·
      refine lv_if_ne (tgt := 17) hx hb dX1_forget_12 (by decide) (fun q => absurd q (by decide)) (fun _ => ?_)
      refine lv_iconst (v := nI 0) hx hb dX1_forget_15 (by decide) ?_
      exact W.zret (v := nI 0) hx hb hr (by first | rfl | decide) (fun t ht hW => ⟨⟨_, (cx, rd), rfl, ⟨(by first | exact (zq2_1 hdx1).symm | exact (zq2_2 hdx2).symm | exact (by unfold aForget; rw [zq2_s hdx1 hdx2]; first | done | rfl)), (by first | exact congr (congrArg Prod.mk (by first | exact (zq2_1 hdx1).symm | exact (zq2_2 hdx2).symm | exact (by unfold uForget; rw [zq2_s hdx1 hdx2]; first | done | rfl))) (by first | exact (zq2_1 hdx1).symm | exact (zq2_2 hdx2).symm | exact (by unfold uForget; rw [zq2_s hdx1 hdx2]; first | done | rfl)))⟩, by rw [ht]; exact hP, va_K.moved hW.alike hK, hD⟩, hS.F ht⟩) hS.2.2 dX1_forget_16
  ·
    refine lv_if_eq (tgt := 15) hx hb dX1_forget_5 (by decide) (fun _ => ?_) (fun q => absurd q (by decide))
    refine lv_iconst (v := nI 0) hx hb dX1_forget_15 (by decide) ?_
    exact W.zret (v := nI 0) hx hb hr (by first | rfl | decide) (fun t ht hW => ⟨⟨_, (cx, rd), rfl, ⟨(by first | exact (zq2_1 hdx1).symm | exact (zq2_2 hdx2).symm | exact (by unfold aForget; rw [zq2_s hdx1 hdx2]; first | done | rfl)), (by first | exact congr (congrArg Prod.mk (by first | exact (zq2_1 hdx1).symm | exact (zq2_2 hdx2).symm | exact (by unfold uForget; rw [zq2_s hdx1 hdx2]; first | done | rfl))) (by first | exact (zq2_1 hdx1).symm | exact (zq2_2 hdx2).symm | exact (by unfold uForget; rw [zq2_s hdx1 hdx2]; first | done | rfl)))⟩, by rw [ht]; exact hP, va_K.moved hW.alike hK, hD⟩, hS.F ht⟩) hS.2.2 dX1_forget_16
set_option maxHeartbeats 4000000 in
set_option maxRecDepth 100000 in
/-- sync -/
theorem c_X1_sync (l : Launch) (dC : Nat → ClassId) (dI : Nat → Nat → Nat) (ad : Nat → Nat) (cI cJ : ClassId) (S C : Nat) (n : Nat → Nat) (va : Nat → Nat → Int32) (mk ct ps kn cx rd : Nat → Nat → Nat) (hG : zG S C n mk ct ps kn cx) (x1 x2 x3 : Int32) (sz : Nat) : Met l yX1_sync wsX1_sync ({ frames := 1, cells := 0, slots := 0, locals := 21 }) (va_Pc [.ref (ad 0), .int x1, .int x2, .int x3] (mC dC dI ad cI cJ S C n va mk ct ps kn cx rd sz)) (va_Qi (fun (r : Int32) (u : Nat → Nat → Nat) => r = aSync S x1 x2 x3 ∧ u = uSync S kn x1 x2 x3) (fun u t => mE (va_A (mw ad cI cJ S C n va mk ct ps kn cx rd) sz) dC dI ad cI cJ S C n va mk ct ps u cx rd t) (va_A (mw ad cI cJ S C n va mk ct ps kn cx rd) sz)) 0 0 (va_A (mw ad cI cJ S C n va mk ct ps kn cx rd) sz) := by
  refine Met.ofW (cc := cX1_sync) (maxL := 4) (ret := (some .boolean)) (by decide) rfl ?_
  intro p e s m args below meth c s₁ B hml hv
  obtain ⟨rfl, hsz, hP, hK, hD0⟩ := hv
  have hx := B.exec
  have hb := B.bytes
  have hr := B.returns
  have hts := atoms_spec (ws := wsX1_sync) B.pre
  have hown : s.vm.findClass RX1 = some m.cls := findClass_of_methodNamed B.named
  have hlocks := B.notSynchronized
  have hin0 : ∀ w ∈ wsX10, w ∈ wsX1_sync := fun _ h => List.mem_cons_of_mem _ (List.mem_append_right _ h)
  subst hsz
  have hD := hD0.self (sz := s.heap.size)
  generalize hAe : va_A (mw ad cI cJ S C n va mk ct ps kn cx rd) s.heap.size = A at hD ⊢
  have hS : va_S A s.heap s.heap [] := va_S.rf
  have hl := lv_entry ([.ref (ad 0), .int x1, .int x2, .int x3]) (n := 4) (Nat.le_of_ble_eq_true rfl)
  rw [lg_entry_eq]
  generalize (lg_sl ([.ref (ad 0), .int x1, .int x2, .int x3]) ++ List.replicate (4 - (lg_sl ([.ref (ad 0), .int x1, .int x2, .int x3])).length) Slot.unset).toArray = ls at hl ⊢
  have hl : lv_has ls 4 [(0, .ref (ad 0)), (1, .int x1), (2, .int x2), (3, .int x3)] := hl
  obtain ⟨⟨hS1, hS4, hC1, hC4⟩, hn, hmk, hct, hps, hkn, hcx, hcn, hkw⟩ := hG
  refine lv_aload_n hx hb dX1_sync_0 rfl (lv_at hl 0 rfl) ?_
  refine lv_iload_n hx hb dX1_sync_1 rfl (lv_at hl 1 rfl) ?_
  refine vp_callSi (W.runV (As := [.int x1]) (rest := []) ⟨hx, hb, hml, hown, hts⟩ (c_X1_isServer l dC dI ad cI cJ S C n va mk ct ps kn cx rd (by omega) x1) (cwV 1 hts gX1_sync_X1_isServer rfl rfl rfl (by decide +kernel) ⟨Nat.le_of_ble_eq_true rfl, Nat.le_of_ble_eq_true rfl⟩) ⟨mB_blind, va_recv hK hP (ci := 1) (q0 := 0) rfl rfl, fun U hU hW => ⟨rfl, mB_at hP hK hU hW⟩⟩ rfl rfl hl.1 rfl (lv_room (Nat.le_of_ble_eq_true rfl)) dX1_sync_2 ⟨Nat.le_of_ble_eq_true rfl, Nat.le_of_ble_eq_true rfl⟩) (fun r hq => ?_)
  rcases hq with ⟨rfl, sa, hsa, rfl, hdx1⟩ | ⟨rfl, hdx1⟩
  ·
    refine lv_if_eq (tgt := 28) hx hb dX1_sync_5 (by decide) (fun q => absurd q (by decide)) (fun _ => ?_)
    refine lv_aload_n hx hb dX1_sync_8 rfl (lv_at hl 0 rfl) ?_
    refine lv_iload_n hx hb dX1_sync_9 rfl (lv_at hl 2 rfl) ?_
    refine vp_callSi (W.runV (As := [.int x2]) (rest := []) ⟨hx, hb, hml, hown, hts⟩ (c_X1_isServer l dC dI ad cI cJ S C n va mk ct ps kn cx rd (by omega) x2) (cwV 1 hts gX1_sync_X1_isServer rfl rfl rfl (by decide +kernel) ⟨Nat.le_of_ble_eq_true rfl, Nat.le_of_ble_eq_true rfl⟩) ⟨mB_blind, va_recv hK hP (ci := 1) (q0 := 0) rfl rfl, fun U hU hW => ⟨rfl, mB_at hP hK hU hW⟩⟩ rfl rfl hl.1 rfl (lv_room (Nat.le_of_ble_eq_true rfl)) dX1_sync_10 ⟨Nat.le_of_ble_eq_true rfl, Nat.le_of_ble_eq_true rfl⟩) (fun r hq => ?_)
    rcases hq with ⟨rfl, sb, hsb, rfl, hdx2⟩ | ⟨rfl, hdx2⟩
    ·
      refine lv_if_eq (tgt := 28) hx hb dX1_sync_13 (by decide) (fun q => absurd q (by decide)) (fun _ => ?_)
      refine lv_iload_n hx hb dX1_sync_16 rfl (lv_at hl 1 rfl) ?_
      refine lv_iload_n hx hb dX1_sync_17 rfl (lv_at hl 2 rfl) ?_
      refine zr_ieq (tgt := 28) hx hb (by omega) (by omega) dX1_sync_18 (by decide) (fun c18 => ?_) (fun c18 => ?_)
      ·
        refine lv_iconst (v := nI 0) hx hb dX1_sync_28 (by decide) ?_
        exact W.zret (v := nI 0) hx hb hr (by first | rfl | decide) (fun t ht hW => ⟨⟨_, kn, rfl, ⟨(by first | exact (zq3_1 hdx1).symm | exact (zq3_2 hdx2).symm | exact (zq3_3 hdx3).symm | exact (by unfold aSync; rw [zq3_s hdx1 hdx2 hdx3, if_neg c18]; first | done | rfl) | exact (by unfold aSync; rw [hdx1, hdx2]; cases zD 3 x3 <;> simp [zq3, c18, nI_0])), (by first | exact (zq3_1 hdx1).symm | exact (zq3_2 hdx2).symm | exact (zq3_3 hdx3).symm | exact (by unfold uSync; rw [zq3_s hdx1 hdx2 hdx3, if_neg c18]; first | done | rfl) | exact (by unfold uSync; rw [hdx1, hdx2]; cases zD 3 x3 <;> simp [zq3, c18]))⟩, by rw [ht]; exact hP, va_K.moved hW.alike hK, hD⟩, hS.F ht⟩) hS.2.2 dX1_sync_29
      ·
        refine lv_iload_n hx hb dX1_sync_21 rfl (lv_at hl 3 rfl) ?_
        refine vp_callSi (W.runS (As := [.int x3]) (rest := []) ⟨hx, hb, hml, hown, hts⟩ (c_X1_isKey l x3) (va_cwS 1 hts gX1_sync_X1_isKey rfl rfl rfl (by decide +kernel) ⟨Nat.le_of_ble_eq_true rfl, Nat.le_of_ble_eq_true rfl⟩) ⟨zB_blind, fun U hU hW => ⟨rfl, trivial⟩⟩ rfl rfl hl.1 rfl (lv_room (Nat.le_of_ble_eq_true rfl)) dX1_sync_22 ⟨Nat.le_of_ble_eq_true rfl, Nat.le_of_ble_eq_true rfl⟩) (fun r hq => ?_)
        rcases hq with ⟨rfl, ky, hky, rfl, hdx3⟩ | ⟨rfl, hdx3⟩
        ·
          refine lv_if_ne (tgt := 30) hx hb dX1_sync_25 (by decide) (fun _ => ?_) (fun q => absurd q (by decide))
          refine lv_aload_n hx hb dX1_sync_30 rfl (lv_at hl 0 rfl) ?_
          refine va_get (D := (dC, dI)) (ci := 1) (v := .ref (ad 6)) (C := RX1) (T := TX1) (N := 10) hx hb hts hin0 hown hK hP 0 rfl rfl 7 (by decide) (hts (.fieldLink RX1 26 "DottedSiblingsModel" "known" "[J") (by decide +kernel)) (fun _ h9 => h9) rfl dX1_sync_31 ?_
          refine lv_iconst (v := nI 3) hx hb dX1_sync_34 (by decide) ?_
          refine lv_iload_n hx hb dX1_sync_35 rfl (lv_at hl 1 rfl) ?_
          refine zr_imul hx hb dX1_sync_36 ?_
          refine lv_iload_n hx hb dX1_sync_37 rfl (lv_at hl 3 rfl) ?_
          refine zr_iadd hx hb dX1_sync_38 ?_
          refine lv_dup2_11 hx hb dX1_sync_39 rfl rfl ?_
          refine zr_lald (v := lN (kn ky sa)) hx hb hK hP 6 1 rfl rfl (by omega) (by omega) (congrArg lN (zf3 _ (by omega))) dX1_sync_40 ?_
          refine lv_aload_n hx hb dX1_sync_41 rfl (lv_at hl 0 rfl) ?_
          refine va_get (D := (dC, dI)) (ci := 1) (v := .ref (ad 6)) (C := RX1) (T := TX1) (N := 10) hx hb hts hin0 hown hK hP 0 rfl rfl 7 (by decide) (hts (.fieldLink RX1 26 "DottedSiblingsModel" "known" "[J") (by decide +kernel)) (fun _ h9 => h9) rfl dX1_sync_42 ?_
          refine lv_iconst (v := nI 3) hx hb dX1_sync_45 (by decide) ?_
          refine lv_iload_n hx hb dX1_sync_46 rfl (lv_at hl 2 rfl) ?_
          refine zr_imul hx hb dX1_sync_47 ?_
          refine lv_iload_n hx hb dX1_sync_48 rfl (lv_at hl 3 rfl) ?_
          refine zr_iadd hx hb dX1_sync_49 ?_
          refine zr_lald (v := lN (kn ky sb)) hx hb hK hP 6 1 rfl rfl (by omega) (by omega) (congrArg lN (zf3 _ (by omega))) dX1_sync_50 ?_
          refine zr_lor hx hb dX1_sync_51 ?_
          refine zr_last hx hb hK hP hD hS 6 1 rfl rfl (by omega) (by omega) (ms_kn (by omega) _) dX1_sync_52 (fun H locs hP hD hS => ?_)
          refine lv_aload_n hx hb dX1_sync_53 rfl (lv_at hl 0 rfl) ?_
          refine va_get (D := (dC, dI)) (ci := 1) (v := .ref (ad 6)) (C := RX1) (T := TX1) (N := 10) hx hb hts hin0 hown hK hP 0 rfl rfl 7 (by decide) (hts (.fieldLink RX1 26 "DottedSiblingsModel" "known" "[J") (by decide +kernel)) (fun _ h9 => h9) rfl dX1_sync_54 ?_
          refine lv_iconst (v := nI 3) hx hb dX1_sync_57 (by decide) ?_
          refine lv_iload_n hx hb dX1_sync_58 rfl (lv_at hl 2 rfl) ?_
          refine zr_imul hx hb dX1_sync_59 ?_
          refine lv_iload_n hx hb dX1_sync_60 rfl (lv_at hl 3 rfl) ?_
          refine zr_iadd hx hb dX1_sync_61 ?_
          refine lv_aload_n hx hb dX1_sync_62 rfl (lv_at hl 0 rfl) ?_
          refine va_get (D := (dC, dI)) (ci := 1) (v := .ref (ad 6)) (C := RX1) (T := TX1) (N := 10) hx hb hts hin0 hown hK hP 0 rfl rfl 7 (by decide) (hts (.fieldLink RX1 26 "DottedSiblingsModel" "known" "[J") (by decide +kernel)) (fun _ h9 => h9) rfl dX1_sync_63 ?_
          refine lv_iconst (v := nI 3) hx hb dX1_sync_66 (by decide) ?_
          refine lv_iload_n hx hb dX1_sync_67 rfl (lv_at hl 1 rfl) ?_
          refine zr_imul hx hb dX1_sync_68 ?_
          refine lv_iload_n hx hb dX1_sync_69 rfl (lv_at hl 3 rfl) ?_
          refine zr_iadd hx hb dX1_sync_70 ?_
          refine zr_lald (v := lN ((kn ky sa) ||| (kn ky sb))) hx hb hK hP 6 1 rfl rfl (by omega) (by omega) (congrArg lN ((zf3 _ (by omega)).trans (zU_s _ _ _ _))) dX1_sync_71 ?_
          refine zr_last hx hb hK hP hD hS 6 1 rfl rfl (by omega) (by omega) (ms_kn (by omega) _) dX1_sync_72 (fun H locs hP hD hS => ?_)
          refine lv_iconst (v := nI 1) hx hb dX1_sync_73 (by decide) ?_
          exact W.zret (v := nI 1) hx hb hr (by first | rfl | decide) (fun t ht hW => ⟨⟨_, (zU (zU kn ky sa ((kn ky sa) ||| (kn ky sb))) ky sb ((kn ky sa) ||| (kn ky sb))), rfl, ⟨(by first | exact (zq3_1 hdx1).symm | exact (zq3_2 hdx2).symm | exact (zq3_3 hdx3).symm | exact (by unfold aSync; rw [zq3_s hdx1 hdx2 hdx3, if_neg c18]; first | done | rfl) | exact (by unfold aSync; rw [hdx1, hdx2]; cases zD 3 x3 <;> simp [zq3, c18, nI_0])), (by first | exact (zq3_1 hdx1).symm | exact (zq3_2 hdx2).symm | exact (zq3_3 hdx3).symm | exact (by unfold uSync; rw [zq3_s hdx1 hdx2 hdx3, if_neg c18]; first | done | rfl) | exact (by unfold uSync; rw [hdx1, hdx2]; cases zD 3 x3 <;> simp [zq3, c18]))⟩, by rw [ht]; exact hP, va_K.moved hW.alike hK, hD⟩, hS.F ht⟩) hS.2.2 dX1_sync_74
        ·
          refine lv_if_ne (tgt := 30) hx hb dX1_sync_25 (by decide) (fun q => absurd q (by decide)) (fun _ => ?_)
          refine lv_iconst (v := nI 0) hx hb dX1_sync_28 (by decide) ?_
          exact W.zret (v := nI 0) hx hb hr (by first | rfl | decide) (fun t ht hW => ⟨⟨_, kn, rfl, ⟨(by first | exact (zq3_1 hdx1).symm | exact (zq3_2 hdx2).symm | exact (zq3_3 hdx3).symm | exact (by unfold aSync; rw [zq3_s hdx1 hdx2 hdx3, if_neg c18]; first | done | rfl) | exact (by unfold aSync; rw [hdx1, hdx2]; cases zD 3 x3 <;> simp [zq3, c18, nI_0])), (by first | exact (zq3_1 hdx1).symm | exact (zq3_2 hdx2).symm | exact (zq3_3 hdx3).symm | exact (by unfold uSync; rw [zq3_s hdx1 hdx2 hdx3, if_neg c18]; first | done | rfl) | exact (by unfold uSync; rw [hdx1, hdx2]; cases zD 3 x3 <;> simp [zq3, c18]))⟩, by rw [ht]; exact hP, va_K.moved hW.alike hK, hD⟩, hS.F ht⟩) hS.2.2 dX1_sync_29
    ·
      refine lv_if_eq (tgt := 28) hx hb dX1_sync_13 (by decide) (fun _ => ?_) (fun q => absurd q (by decide))
      refine lv_iconst (v := nI 0) hx hb dX1_sync_28 (by decide) ?_
      exact W.zret (v := nI 0) hx hb hr (by first | rfl | decide) (fun t ht hW => ⟨⟨_, kn, rfl, ⟨(by first | exact (zq3_1 hdx1).symm | exact (zq3_2 hdx2).symm | exact (zq3_3 hdx3).symm | exact (by unfold aSync; rw [zq3_s hdx1 hdx2 hdx3, if_neg c18]; first | done | rfl) | exact (by unfold aSync; rw [hdx1, hdx2]; cases zD 3 x3 <;> simp [zq3, c18, nI_0])), (by first | exact (zq3_1 hdx1).symm | exact (zq3_2 hdx2).symm | exact (zq3_3 hdx3).symm | exact (by unfold uSync; rw [zq3_s hdx1 hdx2 hdx3, if_neg c18]; first | done | rfl) | exact (by unfold uSync; rw [hdx1, hdx2]; cases zD 3 x3 <;> simp [zq3, c18]))⟩, by rw [ht]; exact hP, va_K.moved hW.alike hK, hD⟩, hS.F ht⟩) hS.2.2 dX1_sync_29
  ·
    refine lv_if_eq (tgt := 28) hx hb dX1_sync_5 (by decide) (fun _ => ?_) (fun q => absurd q (by decide))
    refine lv_iconst (v := nI 0) hx hb dX1_sync_28 (by decide) ?_
    exact W.zret (v := nI 0) hx hb hr (by first | rfl | decide) (fun t ht hW => ⟨⟨_, kn, rfl, ⟨(by first | exact (zq3_1 hdx1).symm | exact (zq3_2 hdx2).symm | exact (zq3_3 hdx3).symm | exact (by unfold aSync; rw [zq3_s hdx1 hdx2 hdx3, if_neg c18]; first | done | rfl) | exact (by unfold aSync; rw [hdx1, hdx2]; cases zD 3 x3 <;> simp [zq3, c18, nI_0])), (by first | exact (zq3_1 hdx1).symm | exact (zq3_2 hdx2).symm | exact (zq3_3 hdx3).symm | exact (by unfold uSync; rw [zq3_s hdx1 hdx2 hdx3, if_neg c18]; first | done | rfl) | exact (by unfold uSync; rw [hdx1, hdx2]; cases zD 3 x3 <;> simp [zq3, c18]))⟩, by rw [ht]; exact hP, va_K.moved hW.alike hK, hD⟩, hS.F ht⟩) hS.2.2 dX1_sync_29
set_option maxHeartbeats 4000000 in
set_option maxRecDepth 100000 in
/-- put -/
theorem c_X1_put (l : Launch) (dC : Nat → ClassId) (dI : Nat → Nat → Nat) (ad : Nat → Nat) (cI cJ : ClassId) (S C : Nat) (n : Nat → Nat) (va : Nat → Nat → Int32) (mk ct ps kn cx rd : Nat → Nat → Nat) (hG : zG S C n mk ct ps kn cx) (x1 x2 x3 x4 : Int32) (sz : Nat) : Met l yX1_put wsX1_put ({ frames := 1, cells := 0, slots := 0, locals := 21 }) (va_Pc [.ref (ad 0), .int x1, .int x2, .int x3, .int x4] (mC dC dI ad cI cJ S C n va mk ct ps kn cx rd sz)) (va_Qi (fun (r : Int32) (u : zPT) => r = aPut S C n x1 x2 x3 ∧ u = uPut S C n va mk ct ps kn cx x1 x2 x3 x4) (fun u t => mE (va_A (mw ad cI cJ S C n va mk ct ps kn cx rd) sz) dC dI ad cI cJ S C (u.1) (u.2.1) (u.2.2.1) (u.2.2.2.1) (u.2.2.2.2.1) (u.2.2.2.2.2) cx rd t) (va_A (mw ad cI cJ S C n va mk ct ps kn cx rd) sz)) 0 0 (va_A (mw ad cI cJ S C n va mk ct ps kn cx rd) sz) := by
  refine Met.ofW (cc := cX1_put) (maxL := 8) (ret := (some .int)) (by decide) rfl ?_
  intro p e s m args below meth c s₁ B hml hv
  obtain ⟨rfl, hsz, hP, hK, hD0⟩ := hv
  have hx := B.exec
  have hb := B.bytes
  have hr := B.returns
  have hts := atoms_spec (ws := wsX1_put) B.pre
  have hown : s.vm.findClass RX1 = some m.cls := findClass_of_methodNamed B.named
  have hlocks := B.notSynchronized
  have hin0 : ∀ w ∈ wsX10, w ∈ wsX1_put := fun _ h => List.mem_cons_of_mem _ (List.mem_append_right _ h)
  subst hsz
  have hD := hD0.self (sz := s.heap.size)
  generalize hAe : va_A (mw ad cI cJ S C n va mk ct ps kn cx rd) s.heap.size = A at hD ⊢
  have hS : va_S A s.heap s.heap [] := va_S.rf
  have hl := lv_entry ([.ref (ad 0), .int x1, .int x2, .int x3, .int x4]) (n := 8) (Nat.le_of_ble_eq_true rfl)
  rw [lg_entry_eq]
  generalize (lg_sl ([.ref (ad 0), .int x1, .int x2, .int x3, .int x4]) ++ List.replicate (8 - (lg_sl ([.ref (ad 0), .int x1, .int x2, .int x3, .int x4])).length) Slot.unset).toArray = ls at hl ⊢
  have hl : lv_has ls 8 [(0, .ref (ad 0)), (1, .int x1), (2, .int x2), (3, .int x3), (4, .int x4)] := hl
  obtain ⟨⟨hS1, hS4, hC1, hC4⟩, hn, hmk, hct, hps, hkn, hcx, hcn, hkw⟩ := hG
  refine lv_aload_n hx hb dX1_put_0 rfl (lv_at hl 0 rfl) ?_
  refine lv_iload_n hx hb dX1_put_1 rfl (lv_at hl 1 rfl) ?_
  refine vp_callSi (W.runV (As := [.int x1]) (rest := []) ⟨hx, hb, hml, hown, hts⟩ (c_X1_isServer l dC dI ad cI cJ S C n va mk ct ps kn cx rd (by omega) x1) (cwV 1 hts gX1_put_X1_isServer rfl rfl rfl (by decide +kernel) ⟨Nat.le_of_ble_eq_true rfl, Nat.le_of_ble_eq_true rfl⟩) ⟨mB_blind, va_recv hK hP (ci := 1) (q0 := 0) rfl rfl, fun U hU hW => ⟨rfl, mB_at hP hK hU hW⟩⟩ rfl rfl hl.1 rfl (lv_room (Nat.le_of_ble_eq_true rfl)) dX1_put_2 ⟨Nat.le_of_ble_eq_true rfl, Nat.le_of_ble_eq_true rfl⟩) (fun r hq => ?_)
  rcases hq with ⟨rfl, sv, hsv, rfl, hdx1⟩ | ⟨rfl, hdx1⟩
  ·
    refine lv_if_eq (tgt := 34) hx hb dX1_put_5 (by decide) (fun q => absurd q (by decide)) (fun _ => ?_)
    refine lv_aload_n hx hb dX1_put_8 rfl (lv_at hl 0 rfl) ?_
    refine lv_iload_n hx hb dX1_put_9 rfl (lv_at hl 2 rfl) ?_
    refine vp_callSi (W.runV (As := [.int x2]) (rest := []) ⟨hx, hb, hml, hown, hts⟩ (c_X1_isClient l dC dI ad cI cJ S C n va mk ct ps kn cx rd (by omega) x2) (cwV 1 hts gX1_put_X1_isClient rfl rfl rfl (by decide +kernel) ⟨Nat.le_of_ble_eq_true rfl, Nat.le_of_ble_eq_true rfl⟩) ⟨mB_blind, va_recv hK hP (ci := 1) (q0 := 0) rfl rfl, fun U hU hW => ⟨rfl, mB_at hP hK hU hW⟩⟩ rfl rfl hl.1 rfl (lv_room (Nat.le_of_ble_eq_true rfl)) dX1_put_10 ⟨Nat.le_of_ble_eq_true rfl, Nat.le_of_ble_eq_true rfl⟩) (fun r hq => ?_)
    rcases hq with ⟨rfl, cl, hcl, rfl, hdx2⟩ | ⟨rfl, hdx2⟩
    ·
      refine lv_if_eq (tgt := 34) hx hb dX1_put_13 (by decide) (fun q => absurd q (by decide)) (fun _ => ?_)
      refine lv_iload_n hx hb dX1_put_16 rfl (lv_at hl 3 rfl) ?_
      refine vp_callSi (W.runS (As := [.int x3]) (rest := []) ⟨hx, hb, hml, hown, hts⟩ (c_X1_isKey l x3) (va_cwS 1 hts gX1_put_X1_isKey rfl rfl rfl (by decide +kernel) ⟨Nat.le_of_ble_eq_true rfl, Nat.le_of_ble_eq_true rfl⟩) ⟨zB_blind, fun U hU hW => ⟨rfl, trivial⟩⟩ rfl rfl hl.1 rfl (lv_room (Nat.le_of_ble_eq_true rfl)) dX1_put_17 ⟨Nat.le_of_ble_eq_true rfl, Nat.le_of_ble_eq_true rfl⟩) (fun r hq => ?_)
      rcases hq with ⟨rfl, ky, hky, rfl, hdx3⟩ | ⟨rfl, hdx3⟩
      ·
        refine lv_if_eq (tgt := 34) hx hb dX1_put_20 (by decide) (fun q => absurd q (by decide)) (fun _ => ?_)
        refine lv_aload_n hx hb dX1_put_23 rfl (lv_at hl 0 rfl) ?_
        refine va_get (D := (dC, dI)) (ci := 1) (v := .ref (ad 1)) (C := RX1) (T := TX1) (N := 10) hx hb hts hin0 hown hK hP 0 rfl rfl 2 (by decide) (hts (.fieldLink RX1 7 "DottedSiblingsModel" "counts" "[I") (by decide +kernel)) (fun _ h9 => h9) rfl dX1_put_24 ?_
        refine lv_iload_n hx hb dX1_put_27 rfl (lv_at hl 3 rfl) ?_
        refine zr_iald (v := nI (n ky)) hx hb hK hP 1 0 rfl rfl (by omega) (by omega) rfl dX1_put_28 ?_
        have hn9 := hn ky
        refine lv_bipush (v := nI 40) hx hb dX1_put_29 (by decide) ?_
        refine zr_ine (tgt := 36) hx hb (by omega) (by omega) dX1_put_31 (by decide) (fun c31 => ?_) (fun c31 => ?_)
        ·
          refine lv_aload_n hx hb dX1_put_36 rfl (lv_at hl 0 rfl) ?_
          refine va_get (D := (dC, dI)) (ci := 1) (v := .ref (ad 1)) (C := RX1) (T := TX1) (N := 10) hx hb hts hin0 hown hK hP 0 rfl rfl 2 (by decide) (hts (.fieldLink RX1 7 "DottedSiblingsModel" "counts" "[I") (by decide +kernel)) (fun _ h9 => h9) rfl dX1_put_37 ?_
          refine lv_iload_n hx hb dX1_put_40 rfl (lv_at hl 3 rfl) ?_
          refine zr_iald (v := nI (n ky)) hx hb hK hP 1 0 rfl rfl (by omega) (by omega) rfl dX1_put_41 ?_
          refine lv_istore (lv' := [(5, .int (nI (n ky))), (0, .ref (ad 0)), (1, .int (nI sv)), (2, .int (nI cl)), (3, .int (nI ky)), (4, .int x4)]) hx hb dX1_put_42 hl (by decide) rfl (fun ls hl => ?_)
          refine lv_iconst (v := nI 1) hx hb dX1_put_44 (by decide) ?_
          refine lv_istore (lv' := [(6, .int (nI 1)), (5, .int (nI (n ky))), (0, .ref (ad 0)), (1, .int (nI sv)), (2, .int (nI cl)), (3, .int (nI ky)), (4, .int x4)]) hx hb dX1_put_45 hl (by decide) rfl (fun ls hl => ?_)
          refine lv_iconst (v := nI 0) hx hb dX1_put_47 (by decide) ?_
          refine lv_istore (lv' := [(7, .int (nI 0)), (6, .int (nI 1)), (5, .int (nI (n ky))), (0, .ref (ad 0)), (1, .int (nI sv)), (2, .int (nI cl)), (3, .int (nI ky)), (4, .int x4)]) hx hb dX1_put_48 hl (by decide) rfl (fun ls hl => ?_)
          refine zr_loop (pc := 50) (fun d ls => ∃ i, i ≤ n ky ∧ d = n ky - i ∧ lv_has ls 8 [(0, .ref (ad 0)), (1, .int (nI sv)), (2, .int (nI cl)), (3, .int (nI ky)), (4, .int x4), (5, .int (nI (n ky))), (6, .int (nI (1 + cn (fun v => decide (mk ky v = sv)) i))), (7, .int (nI i))]) ?_ _ _ ⟨0, Nat.zero_le _, rfl, lv_sub hl [3, 4, 5, 6, 7, 2, 1, 0] rfl⟩
          rintro d ls ⟨i, hi, rfl, hl⟩ ih50
          refine lv_iload hx hb dX1_put_50 (lv_at hl 7 rfl) ?_
          refine lv_iload hx hb dX1_put_52 (lv_at hl 5 rfl) ?_
          refine zr_ige (tgt := 89) hx hb (by omega) (by omega) dX1_put_54 (by decide) (fun c54 => ?_) (fun c54 => ?_)
          ·
            have ei : i = n ky := by omega
            subst ei
            refine lv_aload_n hx hb dX1_put_89 rfl (lv_at hl 0 rfl) ?_
            refine va_get (D := (dC, dI)) (ci := 1) (v := .ref (ad 2)) (C := RX1) (T := TX1) (N := 10) hx hb hts hin0 hown hK hP 0 rfl rfl 3 (by decide) (hts (.fieldLink RX1 13 "DottedSiblingsModel" "values" "[I") (by decide +kernel)) (fun _ h9 => h9) rfl dX1_put_90 ?_
            refine lv_bipush (v := nI 40) hx hb dX1_put_93 (by decide) ?_
            refine lv_iload_n hx hb dX1_put_95 rfl (lv_at hl 3 rfl) ?_
            refine zr_imul hx hb dX1_put_96 ?_
            refine lv_iload hx hb dX1_put_97 (lv_at hl 5 rfl) ?_
            refine zr_iadd hx hb dX1_put_99 ?_
            refine lv_iload hx hb dX1_put_100 (lv_at hl 4 rfl) ?_
            refine zr_iast hx hb hK hP hD hS 2 0 rfl rfl (by omega) (by omega) (ms_va (by omega) _) dX1_put_102 (fun H locs hP hD hS => ?_)
            refine lv_aload_n hx hb dX1_put_103 rfl (lv_at hl 0 rfl) ?_
            refine va_get (D := (dC, dI)) (ci := 1) (v := .ref (ad 3)) (C := RX1) (T := TX1) (N := 10) hx hb hts hin0 hown hK hP 0 rfl rfl 4 (by decide) (hts (.fieldLink RX1 16 "DottedSiblingsModel" "made" "[I") (by decide +kernel)) (fun _ h9 => h9) rfl dX1_put_104 ?_
            refine lv_bipush (v := nI 40) hx hb dX1_put_107 (by decide) ?_
            refine lv_iload_n hx hb dX1_put_109 rfl (lv_at hl 3 rfl) ?_
            refine zr_imul hx hb dX1_put_110 ?_
            refine lv_iload hx hb dX1_put_111 (lv_at hl 5 rfl) ?_
            refine zr_iadd hx hb dX1_put_113 ?_
            refine lv_iload_n hx hb dX1_put_114 rfl (lv_at hl 1 rfl) ?_
            refine zr_iast hx hb hK hP hD hS 3 0 rfl rfl (by omega) (by omega) (ms_mk (by omega) _) dX1_put_115 (fun H locs hP hD hS => ?_)
            refine lv_aload_n hx hb dX1_put_116 rfl (lv_at hl 0 rfl) ?_
            refine va_get (D := (dC, dI)) (ci := 1) (v := .ref (ad 4)) (C := RX1) (T := TX1) (N := 10) hx hb hts hin0 hown hK hP 0 rfl rfl 5 (by decide) (hts (.fieldLink RX1 19 "DottedSiblingsModel" "counters" "[I") (by decide +kernel)) (fun _ h9 => h9) rfl dX1_put_117 ?_
            refine lv_bipush (v := nI 40) hx hb dX1_put_120 (by decide) ?_
            refine lv_iload_n hx hb dX1_put_122 rfl (lv_at hl 3 rfl) ?_
            refine zr_imul hx hb dX1_put_123 ?_
            refine lv_iload hx hb dX1_put_124 (lv_at hl 5 rfl) ?_
            refine zr_iadd hx hb dX1_put_126 ?_
            refine lv_iload hx hb dX1_put_127 (lv_at hl 6 rfl) ?_
            refine zr_iast hx hb hK hP hD hS 4 0 rfl rfl (by omega) (by omega) (ms_ct (by omega) _) dX1_put_129 (fun H locs hP hD hS => ?_)
            refine lv_aload_n hx hb dX1_put_130 rfl (lv_at hl 0 rfl) ?_
            refine va_get (D := (dC, dI)) (ci := 1) (v := .ref (ad 5)) (C := RX1) (T := TX1) (N := 10) hx hb hts hin0 hown hK hP 0 rfl rfl 6 (by decide) (hts (.fieldLink RX1 22 "DottedSiblingsModel" "pasts" "[J") (by decide +kernel)) (fun _ h9 => h9) rfl dX1_put_131 ?_
            refine lv_bipush (v := nI 40) hx hb dX1_put_134 (by decide) ?_
            refine lv_iload_n hx hb dX1_put_136 rfl (lv_at hl 3 rfl) ?_
            refine zr_imul hx hb dX1_put_137 ?_
            refine lv_iload hx hb dX1_put_138 (lv_at hl 5 rfl) ?_
            refine zr_iadd hx hb dX1_put_140 ?_
            refine lv_aload_n hx hb dX1_put_141 rfl (lv_at hl 0 rfl) ?_
            refine va_get (D := (dC, dI)) (ci := 1) (v := .ref (ad 7)) (C := RX1) (T := TX1) (N := 10) hx hb hts hin0 hown hK hP 0 rfl rfl 8 (by decide) (hts (.fieldLink RX1 29 "DottedSiblingsModel" "contexts" "[J") (by decide +kernel)) (fun _ h9 => h9) rfl dX1_put_142 ?_
            refine lv_iconst (v := nI 3) hx hb dX1_put_145 (by decide) ?_
            refine lv_iload_n hx hb dX1_put_146 rfl (lv_at hl 2 rfl) ?_
            refine zr_imul hx hb dX1_put_147 ?_
            refine lv_iload_n hx hb dX1_put_148 rfl (lv_at hl 3 rfl) ?_
            refine zr_iadd hx hb dX1_put_149 ?_
            refine zr_lald (v := lN (cx ky cl)) hx hb hK hP 7 1 rfl rfl (by omega) (by omega) (congrArg lN (zf3 _ (by omega))) dX1_put_150 ?_
            refine zr_last hx hb hK hP hD hS 5 1 rfl rfl (by omega) (by omega) (ms_ps (by omega) _) dX1_put_151 (fun H locs hP hD hS => ?_)
            refine lv_aload_n hx hb dX1_put_152 rfl (lv_at hl 0 rfl) ?_
            refine va_get (D := (dC, dI)) (ci := 1) (v := .ref (ad 6)) (C := RX1) (T := TX1) (N := 10) hx hb hts hin0 hown hK hP 0 rfl rfl 7 (by decide) (hts (.fieldLink RX1 26 "DottedSiblingsModel" "known" "[J") (by decide +kernel)) (fun _ h9 => h9) rfl dX1_put_153 ?_
            refine lv_iconst (v := nI 3) hx hb dX1_put_156 (by decide) ?_
            refine lv_iload_n hx hb dX1_put_157 rfl (lv_at hl 1 rfl) ?_
            refine zr_imul hx hb dX1_put_158 ?_
            refine lv_iload_n hx hb dX1_put_159 rfl (lv_at hl 3 rfl) ?_
            refine zr_iadd hx hb dX1_put_160 ?_
            refine lv_dup2_11 hx hb dX1_put_161 rfl rfl ?_
            refine zr_lald (v := lN (kn ky sv)) hx hb hK hP 6 1 rfl rfl (by omega) (by omega) (congrArg lN (zf3 _ (by omega))) dX1_put_162 ?_
            refine lv_aload_n hx hb dX1_put_163 rfl (lv_at hl 0 rfl) ?_
            refine va_get (D := (dC, dI)) (ci := 1) (v := .ref (ad 5)) (C := RX1) (T := TX1) (N := 10) hx hb hts hin0 hown hK hP 0 rfl rfl 6 (by decide) (hts (.fieldLink RX1 22 "DottedSiblingsModel" "pasts" "[J") (by decide +kernel)) (fun _ h9 => h9) rfl dX1_put_164 ?_
            refine lv_bipush (v := nI 40) hx hb dX1_put_167 (by decide) ?_
            refine lv_iload_n hx hb dX1_put_169 rfl (lv_at hl 3 rfl) ?_
            refine zr_imul hx hb dX1_put_170 ?_
            refine lv_iload hx hb dX1_put_171 (lv_at hl 5 rfl) ?_
            refine zr_iadd hx hb dX1_put_173 ?_
            refine zr_lald (v := lN (cx ky cl)) hx hb hK hP 5 1 rfl rfl (by omega) (by omega) (congrArg lN ((zf40 _ (by omega)).trans (zU_s _ _ _ _))) dX1_put_174 ?_
            refine lv_lconst (v := lN 1) hx hb dX1_put_175 (by decide) ?_
            refine lv_iload hx hb dX1_put_176 (lv_at hl 5 rfl) ?_
            refine zr_lshl hx hb (by omega) dX1_put_178 ?_
            refine zr_lor hx hb dX1_put_179 ?_
            refine zr_lor hx hb dX1_put_180 ?_
            refine zr_last hx hb hK hP hD hS 6 1 rfl rfl (by omega) (by omega) (ms_kn (by omega) _) dX1_put_181 (fun H locs hP hD hS => ?_)
            refine lv_aload_n hx hb dX1_put_182 rfl (lv_at hl 0 rfl) ?_
            refine va_get (D := (dC, dI)) (ci := 1) (v := .ref (ad 1)) (C := RX1) (T := TX1) (N := 10) hx hb hts hin0 hown hK hP 0 rfl rfl 2 (by decide) (hts (.fieldLink RX1 7 "DottedSiblingsModel" "counts" "[I") (by decide +kernel)) (fun _ h9 => h9) rfl dX1_put_183 ?_
            refine lv_iload_n hx hb dX1_put_186 rfl (lv_at hl 3 rfl) ?_
            refine lv_dup2_11 hx hb dX1_put_187 rfl rfl ?_
            refine zr_iald (v := nI (n ky)) hx hb hK hP 1 0 rfl rfl (by omega) (by omega) rfl dX1_put_188 ?_
            refine lv_iconst (v := nI 1) hx hb dX1_put_189 (by decide) ?_
            refine zr_iadd hx hb dX1_put_190 ?_
            refine zr_iast hx hb hK hP hD hS 1 0 rfl rfl (by omega) (by omega) (ms_n _ _) dX1_put_191 (fun H locs hP hD hS => ?_)
            refine lv_iload hx hb dX1_put_192 (lv_at hl 5 rfl) ?_
            exact W.iret (v := nI (n ky)) hx hb hr (fun t ht hW => ⟨⟨_, ((zu n ky (n ky + 1)), (zV va ky (n ky) x4), (zU mk ky (n ky) sv), (zU ct ky (n ky) (1 + cn (fun v => decide (mk ky v = sv)) (n ky))), (zU ps ky (n ky) (cx ky cl)), (zU kn ky sv ((kn ky sv) ||| ((cx ky cl) ||| (1 * 2 ^ (n ky)))))), rfl, ⟨(by first | exact (zq3_1 hdx1).symm | exact (zq3_2 hdx2).symm | exact (zq3_3 hdx3).symm | exact (by unfold aPut; rw [zq3_s hdx1 hdx2 hdx3, if_pos (show n ky < 40 by omega)]; first | done | rfl) | exact (by unfold aPut; rw [zq3_s hdx1 hdx2 hdx3, if_neg (show ¬ n ky < 40 by omega)]; first | done | rfl)), (by first | exact (zq3_1 hdx1).symm | exact (zq3_2 hdx2).symm | exact (zq3_3 hdx3).symm | exact (by unfold uPut; rw [zq3_s hdx1 hdx2 hdx3, if_pos (show n ky < 40 by omega)]; first | done | rfl) | exact (by unfold uPut; rw [zq3_s hdx1 hdx2 hdx3, if_neg (show ¬ n ky < 40 by omega)]; first | done | rfl))⟩, by rw [ht]; exact hP, va_K.moved hW.alike hK, hD⟩, hS.F ht⟩) hS.2.2 dX1_put_194
          ·
            have hm9 := hmk ky i (by omega)
            refine lv_iload hx hb dX1_put_57 (lv_at hl 6 rfl) ?_
            refine lv_aload_n hx hb dX1_put_59 rfl (lv_at hl 0 rfl) ?_
            refine va_get (D := (dC, dI)) (ci := 1) (v := .ref (ad 3)) (C := RX1) (T := TX1) (N := 10) hx hb hts hin0 hown hK hP 0 rfl rfl 4 (by decide) (hts (.fieldLink RX1 16 "DottedSiblingsModel" "made" "[I") (by decide +kernel)) (fun _ h9 => h9) rfl dX1_put_60 ?_
            refine lv_bipush (v := nI 40) hx hb dX1_put_63 (by decide) ?_
            refine lv_iload_n hx hb dX1_put_65 rfl (lv_at hl 3 rfl) ?_
            refine zr_imul hx hb dX1_put_66 ?_
            refine lv_iload hx hb dX1_put_67 (lv_at hl 7 rfl) ?_
            refine zr_iadd hx hb dX1_put_69 ?_
            refine zr_iald (v := nI (mk ky i)) hx hb hK hP 3 0 rfl rfl (by omega) (by omega) (congrArg nI (zf40 _ (by omega))) dX1_put_70 ?_
            refine lv_iload_n hx hb dX1_put_71 rfl (lv_at hl 1 rfl) ?_
            refine zr_ine (tgt := 79) hx hb (by omega) (by omega) dX1_put_72 (by decide) (fun c72 => ?_) (fun c72 => ?_)
            ·
              refine lv_iconst (v := nI 0) hx hb dX1_put_79 (by decide) ?_
              refine zr_iadd hx hb dX1_put_80 ?_
              refine lv_istore (lv' := [(6, .int (nI (1 + cn (fun v => decide (mk ky v = sv)) i + 0))), (0, .ref (ad 0)), (1, .int (nI sv)), (2, .int (nI cl)), (3, .int (nI ky)), (4, .int x4), (5, .int (nI (n ky))), (7, .int (nI i))]) hx hb dX1_put_81 hl (by decide) rfl (fun ls hl => ?_)
              refine lv_iinc (v := nI (i + 1)) (lv' := [(7, .int (nI (i + 1))), (6, .int (nI (1 + cn (fun v => decide (mk ky v = sv)) i + 0))), (0, .ref (ad 0)), (1, .int (nI sv)), (2, .int (nI cl)), (3, .int (nI ky)), (4, .int x4), (5, .int (nI (n ky)))]) hx hb dX1_put_83 hl (k := 7) rfl (by rw [← nI_1]; rfl) (by decide) rfl (fun ls hl => ?_)
              refine lv_goto (tgt := 50) hx hb dX1_put_86 (by decide) ?_
              exact ih50 _ _ (by omega) ⟨i + 1, by omega, rfl, by first | (rw [cn_t (f := (fun v => decide (mk ky v = sv))) (i := i) (decide_eq_true c72)]; exact lv_sub hl [2, 3, 4, 5, 6, 7, 1, 0] rfl) | (rw [cn_f (f := (fun v => decide (mk ky v = sv))) (i := i) (decide_eq_false c72)]; exact lv_sub hl [2, 3, 4, 5, 6, 7, 1, 0] rfl)⟩
            ·
              refine lv_iconst (v := nI 1) hx hb dX1_put_75 (by decide) ?_
              refine lv_goto (tgt := 80) hx hb dX1_put_76 (by decide) ?_
              refine zr_iadd hx hb dX1_put_80 ?_
              refine lv_istore (lv' := [(6, .int (nI (1 + cn (fun v => decide (mk ky v = sv)) i + 1))), (0, .ref (ad 0)), (1, .int (nI sv)), (2, .int (nI cl)), (3, .int (nI ky)), (4, .int x4), (5, .int (nI (n ky))), (7, .int (nI i))]) hx hb dX1_put_81 hl (by decide) rfl (fun ls hl => ?_)
              refine lv_iinc (v := nI (i + 1)) (lv' := [(7, .int (nI (i + 1))), (6, .int (nI (1 + cn (fun v => decide (mk ky v = sv)) i + 1))), (0, .ref (ad 0)), (1, .int (nI sv)), (2, .int (nI cl)), (3, .int (nI ky)), (4, .int x4), (5, .int (nI (n ky)))]) hx hb dX1_put_83 hl (k := 7) rfl (by rw [← nI_1]; rfl) (by decide) rfl (fun ls hl => ?_)
              refine lv_goto (tgt := 50) hx hb dX1_put_86 (by decide) ?_
              exact ih50 _ _ (by omega) ⟨i + 1, by omega, rfl, by first | (rw [cn_t (f := (fun v => decide (mk ky v = sv))) (i := i) (decide_eq_true c72)]; exact lv_sub hl [2, 3, 4, 5, 6, 7, 1, 0] rfl) | (rw [cn_f (f := (fun v => decide (mk ky v = sv))) (i := i) (decide_eq_false c72)]; exact lv_sub hl [2, 3, 4, 5, 6, 7, 1, 0] rfl)⟩
        ·
          refine lv_iconst (v := (-1)) hx hb dX1_put_34 (by decide) ?_
          exact W.iret (v := (-1)) hx hb hr (fun t ht hW => ⟨⟨_, (n, va, mk, ct, ps, kn), rfl, ⟨(by first | exact (zq3_1 hdx1).symm | exact (zq3_2 hdx2).symm | exact (zq3_3 hdx3).symm | exact (by unfold aPut; rw [zq3_s hdx1 hdx2 hdx3, if_pos (show n ky < 40 by omega)]; first | done | rfl) | exact (by unfold aPut; rw [zq3_s hdx1 hdx2 hdx3, if_neg (show ¬ n ky < 40 by omega)]; first | done | rfl)), (by first | exact (zq3_1 hdx1).symm | exact (zq3_2 hdx2).symm | exact (zq3_3 hdx3).symm | exact (by unfold uPut; rw [zq3_s hdx1 hdx2 hdx3, if_pos (show n ky < 40 by omega)]; first | done | rfl) | exact (by unfold uPut; rw [zq3_s hdx1 hdx2 hdx3, if_neg (show ¬ n ky < 40 by omega)]; first | done | rfl))⟩, by rw [ht]; exact hP, va_K.moved hW.alike hK, hD⟩, hS.F ht⟩) hS.2.2 dX1_put_35
      ·
        refine lv_if_eq (tgt := 34) hx hb dX1_put_20 (by decide) (fun _ => ?_) (fun q => absurd q (by decide))
        refine lv_iconst (v := (-1)) hx hb dX1_put_34 (by decide) ?_
        exact W.iret (v := (-1)) hx hb hr (fun t ht hW => ⟨⟨_, (n, va, mk, ct, ps, kn), rfl, ⟨(by first | exact (zq3_1 hdx1).symm | exact (zq3_2 hdx2).symm | exact (zq3_3 hdx3).symm | exact (by unfold aPut; rw [zq3_s hdx1 hdx2 hdx3, if_pos (show n ky < 40 by omega)]; first | done | rfl) | exact (by unfold aPut; rw [zq3_s hdx1 hdx2 hdx3, if_neg (show ¬ n ky < 40 by omega)]; first | done | rfl)), (by first | exact (zq3_1 hdx1).symm | exact (zq3_2 hdx2).symm | exact (zq3_3 hdx3).symm | exact (by unfold uPut; rw [zq3_s hdx1 hdx2 hdx3, if_pos (show n ky < 40 by omega)]; first | done | rfl) | exact (by unfold uPut; rw [zq3_s hdx1 hdx2 hdx3, if_neg (show ¬ n ky < 40 by omega)]; first | done | rfl))⟩, by rw [ht]; exact hP, va_K.moved hW.alike hK, hD⟩, hS.F ht⟩) hS.2.2 dX1_put_35
    ·
      refine lv_if_eq (tgt := 34) hx hb dX1_put_13 (by decide) (fun _ => ?_) (fun q => absurd q (by decide))
      refine lv_iconst (v := (-1)) hx hb dX1_put_34 (by decide) ?_
      exact W.iret (v := (-1)) hx hb hr (fun t ht hW => ⟨⟨_, (n, va, mk, ct, ps, kn), rfl, ⟨(by first | exact (zq3_1 hdx1).symm | exact (zq3_2 hdx2).symm | exact (zq3_3 hdx3).symm | exact (by unfold aPut; rw [zq3_s hdx1 hdx2 hdx3, if_pos (show n ky < 40 by omega)]; first | done | rfl) | exact (by unfold aPut; rw [zq3_s hdx1 hdx2 hdx3, if_neg (show ¬ n ky < 40 by omega)]; first | done | rfl)), (by first | exact (zq3_1 hdx1).symm | exact (zq3_2 hdx2).symm | exact (zq3_3 hdx3).symm | exact (by unfold uPut; rw [zq3_s hdx1 hdx2 hdx3, if_pos (show n ky < 40 by omega)]; first | done | rfl) | exact (by unfold uPut; rw [zq3_s hdx1 hdx2 hdx3, if_neg (show ¬ n ky < 40 by omega)]; first | done | rfl))⟩, by rw [ht]; exact hP, va_K.moved hW.alike hK, hD⟩, hS.F ht⟩) hS.2.2 dX1_put_35
  ·
    refine lv_if_eq (tgt := 34) hx hb dX1_put_5 (by decide) (fun _ => ?_) (fun q => absurd q (by decide))
    refine lv_iconst (v := (-1)) hx hb dX1_put_34 (by decide) ?_
    exact W.iret (v := (-1)) hx hb hr (fun t ht hW => ⟨⟨_, (n, va, mk, ct, ps, kn), rfl, ⟨(by first | exact (zq3_1 hdx1).symm | exact (zq3_2 hdx2).symm | exact (zq3_3 hdx3).symm | exact (by unfold aPut; rw [zq3_s hdx1 hdx2 hdx3, if_pos (show n ky < 40 by omega)]; first | done | rfl) | exact (by unfold aPut; rw [zq3_s hdx1 hdx2 hdx3, if_neg (show ¬ n ky < 40 by omega)]; first | done | rfl)), (by first | exact (zq3_1 hdx1).symm | exact (zq3_2 hdx2).symm | exact (zq3_3 hdx3).symm | exact (by unfold uPut; rw [zq3_s hdx1 hdx2 hdx3, if_pos (show n ky < 40 by omega)]; first | done | rfl) | exact (by unfold uPut; rw [zq3_s hdx1 hdx2 hdx3, if_neg (show ¬ n ky < 40 by omega)]; first | done | rfl))⟩, by rw [ht]; exact hP, va_K.moved hW.alike hK, hD⟩, hS.F ht⟩) hS.2.2 dX1_put_35
