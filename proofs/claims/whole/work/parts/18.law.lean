set_option maxHeartbeats 16000000 in
set_option maxRecDepth 100000 in
/-- THE LAW'S LOOP: at its head the class and the reference hold one state -/
theorem law_loop {p : Program} {l : Launch} {e : Env} {s : State} {m : MethodId} {below : List Frame} {meth : Method} {c : Code} {dC : Nat → ClassId} {dI : Nat → Nat → Nat} {b L : Nat} {xs : Nat → Int32} (hL : L ≤ 2562) (C0 : lw_At p s m meth c b L xs) {ax am : Nat → Nat} {cI cJ cII cJJ eI eJ : ClassId} {S C : Nat} (hKx : va_K (dC, dI) vwCl (zT cI cJ cII cJJ) s) (hKm : va_K (dC, dI) vwCl [(eI, .int), (eJ, .long)] s) :
    ∀ (f i : Nat), i ≤ L + 5 → L + 6 ≤ i + f → ∀ (n : Nat → Nat) (va : Nat → Nat → Int32) (mk ct ps kn cx rd : Nat → Nat → Nat), zG S C n mk ct ps kn cx → zR n ps cx rd → ∀ (H : Heap) (locs : List Loc), va_P (dC, dI) vwCl (xw ax cI cJ cII cJJ S C n va mk ct ps kn cx ++ mw am eI eJ S C n va mk ct ps kn cx rd) H → va_D (fun q : Nat => s.heap.size ≤ q) (xw ax cI cJ cII cJJ S C n va mk ct ps kn cx ++ mw am eI eJ S C n va mk ct ps kn cx rd) → va_S (fun q : Nat => s.heap.size ≤ q) s.heap H locs → ∀ (ls : Array Slot), lv_has ls 4 [(0, .ref b), (1, .ref (ax 0)), (2, .ref (am 0)), (3, .int (nI i))] → W p l e room_1 s m #[Value.ref b] below meth c H locs 600000 7302250 (lw_Z below #[Value.ref b] s) (F0 m 38 ls []) := by
  obtain ⟨hx, hb, hr, hml, hown, hts0, hX, hbl, hlocks, hgv⟩ := C0
  have hts : ∀ w ∈ wsL_law, w.before #[Value.ref b] s = true := fun w h => hts0 w (wsL_law_in w h)
  have hA : ∀ q : Nat, s.heap.size ≤ q → (fun q : Nat => s.heap.size ≤ q) q := fun _ h => h
  have hbA : ¬ (fun q : Nat => s.heap.size ≤ q) b := Nat.not_le.mpr hbl
  intro f
  induction f with
  | zero =>
    intro i h1 h2
    exact absurd h2 (by omega)
  | succ f ih =>
    intro i hi hf n va mk ct ps kn cx rd hG hR H locs hP hD hS ls hl
    refine lv_iload_n hx hb dL_law_38 rfl (lv_at hl 3 rfl) ?_
    refine lv_aload_n hx hb dL_law_39 rfl (lv_at hl 0 rfl) ?_
    refine va_slen hx hb hX hbl hbA hS dL_law_40 ?_
    refine lv_iconst (v := nI 5) hx hb dL_law_41 (by decide) ?_
    refine lv_isub hx hb dL_law_42 ?_
    refine lv_icmp_gt (tgt := 630) hx hb dL_law_43 (by decide) (fun c43 => ?_) (fun c43 => ?_)
    · refine lv_iconst (v := 1) hx hb dL_law_630 (by decide) ?_
      refine va_forget (fun q hq => hS.2.2 q hq) ?_
      exact lw_ret hx hb hr hlocks dL_law_631
    have hlt : i + 5 ≤ L := Nat.not_lt.mp (fun q => c43 ((zlaw_c (L := L) (by omega) (by omega)).mpr q))
    refine lv_aload_n hx hb dL_law_46 rfl (lv_at hl 0 rfl) ?_
    refine lv_iload_n hx hb dL_law_47 rfl (lv_at hl 3 rfl) ?_
    refine zr_sld hx hb hX hbl hbA hS (i := i) (by omega) (by omega) dL_law_48 ?_
    refine lv_bipush (v := nI 15) hx hb dL_law_49 (by decide) ?_
    refine lv_iand hx hb dL_law_51 ?_
    obtain ⟨j, hj, ej⟩ := pk_andE (xs i) (m := nI 15) 4 (by decide)
    rw [ej]
    rcases (show j = 0 ∨ j = 1 ∨ j = 2 ∨ j = 3 ∨ j = 4 ∨ j = 5 ∨ j = 6 ∨ j = 7 ∨ j = 8 ∨ j = 9 ∨ j = 10 ∨ j = 11 ∨ 12 ≤ j by omega) with rfl | rfl | rfl | rfl | rfl | rfl | rfl | rfl | rfl | rfl | rfl | rfl | h12
    ·
      refine lv_tableIn (tgt := 116) hx hb dL_law_52 (by decide) (by decide) rfl (by decide) ?_
      refine lv_aload_n hx hb dL_law_116 rfl (lv_at hl 1 rfl) ?_
      refine lv_aload_n hx hb dL_law_117 rfl (lv_at hl 0 rfl) ?_
      refine lv_iload_n hx hb dL_law_118 rfl (lv_at hl 3 rfl) ?_
      refine lv_iconst (v := nI 1) hx hb dL_law_119 (by decide) ?_
      refine zr_iadd hx hb dL_law_120 ?_
      refine zr_sld hx hb hX hbl hbA hS (i := i + 1) (by omega) (by omega) dL_law_121 ?_
      refine lv_aload_n hx hb dL_law_122 rfl (lv_at hl 0 rfl) ?_
      refine lv_iload_n hx hb dL_law_123 rfl (lv_at hl 3 rfl) ?_
      refine lv_iconst (v := nI 2) hx hb dL_law_124 (by decide) ?_
      refine zr_iadd hx hb dL_law_125 ?_
      refine zr_sld hx hb hX hbl hbA hS (i := i + 2) (by omega) (by omega) dL_law_126 ?_
      refine lv_aload_n hx hb dL_law_127 rfl (lv_at hl 0 rfl) ?_
      refine lv_iload_n hx hb dL_law_128 rfl (lv_at hl 3 rfl) ?_
      refine lv_iconst (v := nI 3) hx hb dL_law_129 (by decide) ?_
      refine zr_iadd hx hb dL_law_130 ?_
      refine zr_sld hx hb hX hbl hbA hS (i := i + 3) (by omega) (by omega) dL_law_131 ?_
      have hFc := zfree (w := xw ax cI cJ cII cJJ S C n va mk ct ps kn cx) (zD_l hD) hS hA
      refine va_calli (va_runV (As := [.int (xs (i + 1)), .int (xs (i + 2)), .int (xs (i + 3))]) (rest := []) ⟨hx, hb, hml, hown, hts⟩ (c_X0_get l dC dI ax cI cJ cII cJJ S C n va mk ct ps kn cx hG (xs (i + 1)) (xs (i + 2)) (xs (i + 3)) H.size) (cwV 3 hts gL_law_X0_get rfl rfl rfl (by decide +kernel) ⟨Nat.le_of_ble_eq_true rfl, Nat.le_of_ble_eq_true rfl⟩) ⟨xC_blind, va_recv hKx (zP_l hP) (ci := 0) (q0 := 0) rfl rfl, fun U hU hW => ⟨rfl, by rw [hU], by rw [hU]; exact (zP_l hP), va_K.moved hW.alike hKx, (zD_l hD).weaken (fun _ _ _ _ => trivial)⟩⟩ rfl rfl hl.1 rfl (lv_room (Nat.le_of_ble_eq_true rfl)) dL_law_132 ⟨Nat.le_of_ble_eq_true rfl, Nat.le_of_ble_eq_true rfl⟩) hS (fun q _ h => hFc q h) hFc (fun r u t H1 locs ht hvm hw hB hz1 hk1 hS => ?_)
      obtain ⟨rfl, rfl⟩ := hw
      obtain ⟨hP1, hK1, hD1⟩ := hB
      rw [ht] at hP1
      obtain ⟨hP, hD⟩ := zjoinL hP hD hk1 hFc hP1 hD1
      generalize H1 = H at hP hS ⊢
      have hP : va_P (dC, dI) vwCl (xw ax cI cJ cII cJJ S C n va mk ct ps kn (uGet S C kn cx (xs (i + 1)) (xs (i + 2)) (xs (i + 3))) ++ mw am eI eJ S C n va mk ct ps kn cx rd) H := hP
      have hD : va_D (fun q : Nat => s.heap.size ≤ q) (xw ax cI cJ cII cJJ S C n va mk ct ps kn (uGet S C kn cx (xs (i + 1)) (xs (i + 2)) (xs (i + 3))) ++ mw am eI eJ S C n va mk ct ps kn cx rd) := hD
      refine lv_aload_n hx hb dL_law_135 rfl (lv_at hl 2 rfl) ?_
      refine lv_aload_n hx hb dL_law_136 rfl (lv_at hl 0 rfl) ?_
      refine lv_iload_n hx hb dL_law_137 rfl (lv_at hl 3 rfl) ?_
      refine lv_iconst (v := nI 1) hx hb dL_law_138 (by decide) ?_
      refine zr_iadd hx hb dL_law_139 ?_
      refine zr_sld hx hb hX hbl hbA hS (i := i + 1) (by omega) (by omega) dL_law_140 ?_
      refine lv_aload_n hx hb dL_law_141 rfl (lv_at hl 0 rfl) ?_
      refine lv_iload_n hx hb dL_law_142 rfl (lv_at hl 3 rfl) ?_
      refine lv_iconst (v := nI 2) hx hb dL_law_143 (by decide) ?_
      refine zr_iadd hx hb dL_law_144 ?_
      refine zr_sld hx hb hX hbl hbA hS (i := i + 2) (by omega) (by omega) dL_law_145 ?_
      refine lv_aload_n hx hb dL_law_146 rfl (lv_at hl 0 rfl) ?_
      refine lv_iload_n hx hb dL_law_147 rfl (lv_at hl 3 rfl) ?_
      refine lv_iconst (v := nI 3) hx hb dL_law_148 (by decide) ?_
      refine zr_iadd hx hb dL_law_149 ?_
      refine zr_sld hx hb hX hbl hbA hS (i := i + 3) (by omega) (by omega) dL_law_150 ?_
      have hFc := zfree (w := mw am eI eJ S C n va mk ct ps kn cx rd) (zD_r hD) hS hA
      refine va_calli (va_runV (As := [.int (xs (i + 1)), .int (xs (i + 2)), .int (xs (i + 3))]) (rest := [.int (aGet S C n ps kn (xs (i + 1)) (xs (i + 2)) (xs (i + 3)))]) ⟨hx, hb, hml, hown, hts⟩ (c_X1_get l dC dI am eI eJ S C n va mk ct ps kn cx rd hG (xs (i + 1)) (xs (i + 2)) (xs (i + 3)) H.size) (cwV 3 hts gL_law_X1_get rfl rfl rfl (by decide +kernel) ⟨Nat.le_of_ble_eq_true rfl, Nat.le_of_ble_eq_true rfl⟩) ⟨mC_blind, va_recv hKm (zP_r hP) (ci := 1) (q0 := 0) rfl rfl, fun U hU hW => ⟨rfl, by rw [hU], by rw [hU]; exact (zP_r hP), va_K.moved hW.alike hKm, (zD_r hD).weaken (fun _ _ _ _ => trivial)⟩⟩ rfl rfl hl.1 rfl (lv_room (Nat.le_of_ble_eq_true rfl)) dL_law_151 ⟨Nat.le_of_ble_eq_true rfl, Nat.le_of_ble_eq_true rfl⟩) hS (fun q _ h => hFc q h) hFc (fun r u t H1 locs ht hvm hw hB hz1 hk1 hS => ?_)
      obtain ⟨rfl, rfl⟩ := hw
      obtain ⟨hP1, hK1, hD1⟩ := hB
      rw [ht] at hP1
      obtain ⟨hP, hD⟩ := zjoinR hP hD hk1 hFc hP1 hD1
      generalize H1 = H at hP hS ⊢
      have hP : va_P (dC, dI) vwCl (xw ax cI cJ cII cJJ S C n va mk ct ps kn (uGet S C kn cx (xs (i + 1)) (xs (i + 2)) (xs (i + 3))) ++ mw am eI eJ S C n va mk ct ps kn (uGet S C kn cx (xs (i + 1)) (xs (i + 2)) (xs (i + 3))) (vGet S C n ps kn rd (xs (i + 1)) (xs (i + 2)) (xs (i + 3)))) H := hP
      have hD : va_D (fun q : Nat => s.heap.size ≤ q) (xw ax cI cJ cII cJJ S C n va mk ct ps kn (uGet S C kn cx (xs (i + 1)) (xs (i + 2)) (xs (i + 3))) ++ mw am eI eJ S C n va mk ct ps kn (uGet S C kn cx (xs (i + 1)) (xs (i + 2)) (xs (i + 3))) (vGet S C n ps kn rd (xs (i + 1)) (xs (i + 2)) (xs (i + 3)))) := hD
      refine lv_icmp_eq (tgt := 624) hx hb dL_law_154 (by decide) (fun _ => ?_) (fun q => absurd rfl q)
      refine lv_iinc (v := nI (i + 5)) (lv' := [(3, .int (nI (i + 5))), (0, .ref b), (1, .ref (ax 0)), (2, .ref (am 0))]) hx hb dL_law_624 hl (k := 3) rfl (nI_add i 5) (by decide) rfl (fun ls hl => ?_)
      refine lv_goto (tgt := 38) hx hb dL_law_627 (by decide) ?_
      exact ih (i + 5) (by omega) (by omega) n va mk ct ps kn (uGet S C kn cx (xs (i + 1)) (xs (i + 2)) (xs (i + 3))) (vGet S C n ps kn rd (xs (i + 1)) (xs (i + 2)) (xs (i + 3))) (zG_get hG _ _ _) (zR_get hR _ _ _) _ _ hP hD hS ls (lv_sub hl [1, 2, 3, 0] rfl)
    ·
      refine lv_tableIn (tgt := 159) hx hb dL_law_52 (by decide) (by decide) rfl (by decide) ?_
      refine lv_aload_n hx hb dL_law_159 rfl (lv_at hl 1 rfl) ?_
      refine lv_aload_n hx hb dL_law_160 rfl (lv_at hl 0 rfl) ?_
      refine lv_iload_n hx hb dL_law_161 rfl (lv_at hl 3 rfl) ?_
      refine lv_iconst (v := nI 1) hx hb dL_law_162 (by decide) ?_
      refine zr_iadd hx hb dL_law_163 ?_
      refine zr_sld hx hb hX hbl hbA hS (i := i + 1) (by omega) (by omega) dL_law_164 ?_
      refine lv_aload_n hx hb dL_law_165 rfl (lv_at hl 0 rfl) ?_
      refine lv_iload_n hx hb dL_law_166 rfl (lv_at hl 3 rfl) ?_
      refine lv_iconst (v := nI 2) hx hb dL_law_167 (by decide) ?_
      refine zr_iadd hx hb dL_law_168 ?_
      refine zr_sld hx hb hX hbl hbA hS (i := i + 2) (by omega) (by omega) dL_law_169 ?_
      refine lv_aload_n hx hb dL_law_170 rfl (lv_at hl 0 rfl) ?_
      refine lv_iload_n hx hb dL_law_171 rfl (lv_at hl 3 rfl) ?_
      refine lv_iconst (v := nI 3) hx hb dL_law_172 (by decide) ?_
      refine zr_iadd hx hb dL_law_173 ?_
      refine zr_sld hx hb hX hbl hbA hS (i := i + 3) (by omega) (by omega) dL_law_174 ?_
      refine vp_callSl (W.runV (As := [.int (xs (i + 1)), .int (xs (i + 2)), .int (xs (i + 3))]) (rest := []) ⟨hx, hb, hml, hown, hts⟩ (c_X0_read l dC dI ax cI cJ cII cJJ S C n va mk ct ps kn cx hG (xs (i + 1)) (xs (i + 2)) (xs (i + 3))) (cwV 3 hts gL_law_X0_read rfl rfl rfl (by decide +kernel) ⟨Nat.le_of_ble_eq_true rfl, Nat.le_of_ble_eq_true rfl⟩) ⟨xB_blind, va_recv hKx (zP_l hP) (ci := 0) (q0 := 0) rfl rfl, fun U hU hW => ⟨rfl, xB_at (zP_l hP) hKx hU hW⟩⟩ rfl rfl hl.1 rfl (lv_room (Nat.le_of_ble_eq_true rfl)) dL_law_175 ⟨Nat.le_of_ble_eq_true rfl, Nat.le_of_ble_eq_true rfl⟩) (fun r hq => ?_)
      subst hq
      refine lv_aload_n hx hb dL_law_178 rfl (lv_at hl 2 rfl) ?_
      refine lv_aload_n hx hb dL_law_179 rfl (lv_at hl 0 rfl) ?_
      refine lv_iload_n hx hb dL_law_180 rfl (lv_at hl 3 rfl) ?_
      refine lv_iconst (v := nI 1) hx hb dL_law_181 (by decide) ?_
      refine zr_iadd hx hb dL_law_182 ?_
      refine zr_sld hx hb hX hbl hbA hS (i := i + 1) (by omega) (by omega) dL_law_183 ?_
      refine lv_aload_n hx hb dL_law_184 rfl (lv_at hl 0 rfl) ?_
      refine lv_iload_n hx hb dL_law_185 rfl (lv_at hl 3 rfl) ?_
      refine lv_iconst (v := nI 2) hx hb dL_law_186 (by decide) ?_
      refine zr_iadd hx hb dL_law_187 ?_
      refine zr_sld hx hb hX hbl hbA hS (i := i + 2) (by omega) (by omega) dL_law_188 ?_
      refine lv_aload_n hx hb dL_law_189 rfl (lv_at hl 0 rfl) ?_
      refine lv_iload_n hx hb dL_law_190 rfl (lv_at hl 3 rfl) ?_
      refine lv_iconst (v := nI 3) hx hb dL_law_191 (by decide) ?_
      refine zr_iadd hx hb dL_law_192 ?_
      refine zr_sld hx hb hX hbl hbA hS (i := i + 3) (by omega) (by omega) dL_law_193 ?_
      refine vp_callSl (W.runV (As := [.int (xs (i + 1)), .int (xs (i + 2)), .int (xs (i + 3))]) (rest := [.long (aRead S C n va mk ps cx (xs (i + 1)) (xs (i + 2)) (xs (i + 3)))]) ⟨hx, hb, hml, hown, hts⟩ (c_X1_read l dC dI am eI eJ S C n va mk ct ps kn cx rd hG (zR_lt hR hG.2.2.2.2.2.2.1) (xs (i + 1)) (xs (i + 2)) (xs (i + 3))) (cwV 3 hts gL_law_X1_read rfl rfl rfl (by decide +kernel) ⟨Nat.le_of_ble_eq_true rfl, Nat.le_of_ble_eq_true rfl⟩) ⟨mB_blind, va_recv hKm (zP_r hP) (ci := 1) (q0 := 0) rfl rfl, fun U hU hW => ⟨rfl, mB_at (zP_r hP) hKm hU hW⟩⟩ rfl rfl hl.1 rfl (lv_room (Nat.le_of_ble_eq_true rfl)) dL_law_194 ⟨Nat.le_of_ble_eq_true rfl, Nat.le_of_ble_eq_true rfl⟩) (fun r hq => ?_)
      have hq := hq.trans (zR_read hR _ _ _)
      subst hq
      refine zr_lsame (tgt := 624) hx hb dL_law_197 dL_law_198 (by decide) ?_
      refine lv_iinc (v := nI (i + 5)) (lv' := [(3, .int (nI (i + 5))), (0, .ref b), (1, .ref (ax 0)), (2, .ref (am 0))]) hx hb dL_law_624 hl (k := 3) rfl (nI_add i 5) (by decide) rfl (fun ls hl => ?_)
      refine lv_goto (tgt := 38) hx hb dL_law_627 (by decide) ?_
      exact ih (i + 5) (by omega) (by omega) n va mk ct ps kn cx rd hG hR _ _ hP hD hS ls (lv_sub hl [1, 2, 3, 0] rfl)
    ·
      refine lv_tableIn (tgt := 203) hx hb dL_law_52 (by decide) (by decide) rfl (by decide) ?_
      refine lv_aload_n hx hb dL_law_203 rfl (lv_at hl 1 rfl) ?_
      refine lv_aload_n hx hb dL_law_204 rfl (lv_at hl 0 rfl) ?_
      refine lv_iload_n hx hb dL_law_205 rfl (lv_at hl 3 rfl) ?_
      refine lv_iconst (v := nI 1) hx hb dL_law_206 (by decide) ?_
      refine zr_iadd hx hb dL_law_207 ?_
      refine zr_sld hx hb hX hbl hbA hS (i := i + 1) (by omega) (by omega) dL_law_208 ?_
      refine lv_aload_n hx hb dL_law_209 rfl (lv_at hl 0 rfl) ?_
      refine lv_iload_n hx hb dL_law_210 rfl (lv_at hl 3 rfl) ?_
      refine lv_iconst (v := nI 2) hx hb dL_law_211 (by decide) ?_
      refine zr_iadd hx hb dL_law_212 ?_
      refine zr_sld hx hb hX hbl hbA hS (i := i + 2) (by omega) (by omega) dL_law_213 ?_
      refine lv_aload_n hx hb dL_law_214 rfl (lv_at hl 0 rfl) ?_
      refine lv_iload_n hx hb dL_law_215 rfl (lv_at hl 3 rfl) ?_
      refine lv_iconst (v := nI 3) hx hb dL_law_216 (by decide) ?_
      refine zr_iadd hx hb dL_law_217 ?_
      refine zr_sld hx hb hX hbl hbA hS (i := i + 3) (by omega) (by omega) dL_law_218 ?_
      refine lv_aload_n hx hb dL_law_219 rfl (lv_at hl 0 rfl) ?_
      refine lv_iload_n hx hb dL_law_220 rfl (lv_at hl 3 rfl) ?_
      refine lv_iconst (v := nI 4) hx hb dL_law_221 (by decide) ?_
      refine zr_iadd hx hb dL_law_222 ?_
      refine zr_sld hx hb hX hbl hbA hS (i := i + 4) (by omega) (by omega) dL_law_223 ?_
      have hFc := zfree (w := xw ax cI cJ cII cJJ S C n va mk ct ps kn cx) (zD_l hD) hS hA
      refine va_calli (va_runV (As := [.int (xs (i + 1)), .int (xs (i + 2)), .int (xs (i + 3)), .int (xs (i + 4))]) (rest := []) ⟨hx, hb, hml, hown, hts⟩ (c_X0_put l dC dI ax cI cJ cII cJJ S C n va mk ct ps kn cx hG (xs (i + 1)) (xs (i + 2)) (xs (i + 3)) (xs (i + 4)) H.size) (cwV 4 hts gL_law_X0_put rfl rfl rfl (by decide +kernel) ⟨Nat.le_of_ble_eq_true rfl, Nat.le_of_ble_eq_true rfl⟩) ⟨xC_blind, va_recv hKx (zP_l hP) (ci := 0) (q0 := 0) rfl rfl, fun U hU hW => ⟨rfl, by rw [hU], by rw [hU]; exact (zP_l hP), va_K.moved hW.alike hKx, (zD_l hD).weaken (fun _ _ _ _ => trivial)⟩⟩ rfl rfl hl.1 rfl (lv_room (Nat.le_of_ble_eq_true rfl)) dL_law_224 ⟨Nat.le_of_ble_eq_true rfl, Nat.le_of_ble_eq_true rfl⟩) hS (fun q _ h => hFc q h) hFc (fun r u t H1 locs ht hvm hw hB hz1 hk1 hS => ?_)
      obtain ⟨rfl, rfl⟩ := hw
      obtain ⟨hP1, hK1, hD1⟩ := hB
      rw [ht] at hP1
      obtain ⟨hP, hD⟩ := zjoinL hP hD hk1 hFc hP1 hD1
      generalize H1 = H at hP hS ⊢
      have hP : va_P (dC, dI) vwCl (xw ax cI cJ cII cJJ S C ((uPut S C n va mk ct ps kn cx (xs (i + 1)) (xs (i + 2)) (xs (i + 3)) (xs (i + 4))).1) ((uPut S C n va mk ct ps kn cx (xs (i + 1)) (xs (i + 2)) (xs (i + 3)) (xs (i + 4))).2.1) ((uPut S C n va mk ct ps kn cx (xs (i + 1)) (xs (i + 2)) (xs (i + 3)) (xs (i + 4))).2.2.1) ((uPut S C n va mk ct ps kn cx (xs (i + 1)) (xs (i + 2)) (xs (i + 3)) (xs (i + 4))).2.2.2.1) ((uPut S C n va mk ct ps kn cx (xs (i + 1)) (xs (i + 2)) (xs (i + 3)) (xs (i + 4))).2.2.2.2.1) ((uPut S C n va mk ct ps kn cx (xs (i + 1)) (xs (i + 2)) (xs (i + 3)) (xs (i + 4))).2.2.2.2.2) cx ++ mw am eI eJ S C n va mk ct ps kn cx rd) H := hP
      have hD : va_D (fun q : Nat => s.heap.size ≤ q) (xw ax cI cJ cII cJJ S C ((uPut S C n va mk ct ps kn cx (xs (i + 1)) (xs (i + 2)) (xs (i + 3)) (xs (i + 4))).1) ((uPut S C n va mk ct ps kn cx (xs (i + 1)) (xs (i + 2)) (xs (i + 3)) (xs (i + 4))).2.1) ((uPut S C n va mk ct ps kn cx (xs (i + 1)) (xs (i + 2)) (xs (i + 3)) (xs (i + 4))).2.2.1) ((uPut S C n va mk ct ps kn cx (xs (i + 1)) (xs (i + 2)) (xs (i + 3)) (xs (i + 4))).2.2.2.1) ((uPut S C n va mk ct ps kn cx (xs (i + 1)) (xs (i + 2)) (xs (i + 3)) (xs (i + 4))).2.2.2.2.1) ((uPut S C n va mk ct ps kn cx (xs (i + 1)) (xs (i + 2)) (xs (i + 3)) (xs (i + 4))).2.2.2.2.2) cx ++ mw am eI eJ S C n va mk ct ps kn cx rd) := hD
      refine lv_aload_n hx hb dL_law_227 rfl (lv_at hl 2 rfl) ?_
      refine lv_aload_n hx hb dL_law_228 rfl (lv_at hl 0 rfl) ?_
      refine lv_iload_n hx hb dL_law_229 rfl (lv_at hl 3 rfl) ?_
      refine lv_iconst (v := nI 1) hx hb dL_law_230 (by decide) ?_
      refine zr_iadd hx hb dL_law_231 ?_
      refine zr_sld hx hb hX hbl hbA hS (i := i + 1) (by omega) (by omega) dL_law_232 ?_
      refine lv_aload_n hx hb dL_law_233 rfl (lv_at hl 0 rfl) ?_
      refine lv_iload_n hx hb dL_law_234 rfl (lv_at hl 3 rfl) ?_
      refine lv_iconst (v := nI 2) hx hb dL_law_235 (by decide) ?_
      refine zr_iadd hx hb dL_law_236 ?_
      refine zr_sld hx hb hX hbl hbA hS (i := i + 2) (by omega) (by omega) dL_law_237 ?_
      refine lv_aload_n hx hb dL_law_238 rfl (lv_at hl 0 rfl) ?_
      refine lv_iload_n hx hb dL_law_239 rfl (lv_at hl 3 rfl) ?_
      refine lv_iconst (v := nI 3) hx hb dL_law_240 (by decide) ?_
      refine zr_iadd hx hb dL_law_241 ?_
      refine zr_sld hx hb hX hbl hbA hS (i := i + 3) (by omega) (by omega) dL_law_242 ?_
      refine lv_aload_n hx hb dL_law_243 rfl (lv_at hl 0 rfl) ?_
      refine lv_iload_n hx hb dL_law_244 rfl (lv_at hl 3 rfl) ?_
      refine lv_iconst (v := nI 4) hx hb dL_law_245 (by decide) ?_
      refine zr_iadd hx hb dL_law_246 ?_
      refine zr_sld hx hb hX hbl hbA hS (i := i + 4) (by omega) (by omega) dL_law_247 ?_
      have hFc := zfree (w := mw am eI eJ S C n va mk ct ps kn cx rd) (zD_r hD) hS hA
      refine va_calli (va_runV (As := [.int (xs (i + 1)), .int (xs (i + 2)), .int (xs (i + 3)), .int (xs (i + 4))]) (rest := [.int (aPut S C n (xs (i + 1)) (xs (i + 2)) (xs (i + 3)))]) ⟨hx, hb, hml, hown, hts⟩ (c_X1_put l dC dI am eI eJ S C n va mk ct ps kn cx rd hG (xs (i + 1)) (xs (i + 2)) (xs (i + 3)) (xs (i + 4)) H.size) (cwV 4 hts gL_law_X1_put rfl rfl rfl (by decide +kernel) ⟨Nat.le_of_ble_eq_true rfl, Nat.le_of_ble_eq_true rfl⟩) ⟨mC_blind, va_recv hKm (zP_r hP) (ci := 1) (q0 := 0) rfl rfl, fun U hU hW => ⟨rfl, by rw [hU], by rw [hU]; exact (zP_r hP), va_K.moved hW.alike hKm, (zD_r hD).weaken (fun _ _ _ _ => trivial)⟩⟩ rfl rfl hl.1 rfl (lv_room (Nat.le_of_ble_eq_true rfl)) dL_law_248 ⟨Nat.le_of_ble_eq_true rfl, Nat.le_of_ble_eq_true rfl⟩) hS (fun q _ h => hFc q h) hFc (fun r u t H1 locs ht hvm hw hB hz1 hk1 hS => ?_)
      obtain ⟨rfl, rfl⟩ := hw
      obtain ⟨hP1, hK1, hD1⟩ := hB
      rw [ht] at hP1
      obtain ⟨hP, hD⟩ := zjoinR hP hD hk1 hFc hP1 hD1
      generalize H1 = H at hP hS ⊢
      have hP : va_P (dC, dI) vwCl (xw ax cI cJ cII cJJ S C ((uPut S C n va mk ct ps kn cx (xs (i + 1)) (xs (i + 2)) (xs (i + 3)) (xs (i + 4))).1) ((uPut S C n va mk ct ps kn cx (xs (i + 1)) (xs (i + 2)) (xs (i + 3)) (xs (i + 4))).2.1) ((uPut S C n va mk ct ps kn cx (xs (i + 1)) (xs (i + 2)) (xs (i + 3)) (xs (i + 4))).2.2.1) ((uPut S C n va mk ct ps kn cx (xs (i + 1)) (xs (i + 2)) (xs (i + 3)) (xs (i + 4))).2.2.2.1) ((uPut S C n va mk ct ps kn cx (xs (i + 1)) (xs (i + 2)) (xs (i + 3)) (xs (i + 4))).2.2.2.2.1) ((uPut S C n va mk ct ps kn cx (xs (i + 1)) (xs (i + 2)) (xs (i + 3)) (xs (i + 4))).2.2.2.2.2) cx ++ mw am eI eJ S C ((uPut S C n va mk ct ps kn cx (xs (i + 1)) (xs (i + 2)) (xs (i + 3)) (xs (i + 4))).1) ((uPut S C n va mk ct ps kn cx (xs (i + 1)) (xs (i + 2)) (xs (i + 3)) (xs (i + 4))).2.1) ((uPut S C n va mk ct ps kn cx (xs (i + 1)) (xs (i + 2)) (xs (i + 3)) (xs (i + 4))).2.2.1) ((uPut S C n va mk ct ps kn cx (xs (i + 1)) (xs (i + 2)) (xs (i + 3)) (xs (i + 4))).2.2.2.1) ((uPut S C n va mk ct ps kn cx (xs (i + 1)) (xs (i + 2)) (xs (i + 3)) (xs (i + 4))).2.2.2.2.1) ((uPut S C n va mk ct ps kn cx (xs (i + 1)) (xs (i + 2)) (xs (i + 3)) (xs (i + 4))).2.2.2.2.2) cx rd) H := hP
      have hD : va_D (fun q : Nat => s.heap.size ≤ q) (xw ax cI cJ cII cJJ S C ((uPut S C n va mk ct ps kn cx (xs (i + 1)) (xs (i + 2)) (xs (i + 3)) (xs (i + 4))).1) ((uPut S C n va mk ct ps kn cx (xs (i + 1)) (xs (i + 2)) (xs (i + 3)) (xs (i + 4))).2.1) ((uPut S C n va mk ct ps kn cx (xs (i + 1)) (xs (i + 2)) (xs (i + 3)) (xs (i + 4))).2.2.1) ((uPut S C n va mk ct ps kn cx (xs (i + 1)) (xs (i + 2)) (xs (i + 3)) (xs (i + 4))).2.2.2.1) ((uPut S C n va mk ct ps kn cx (xs (i + 1)) (xs (i + 2)) (xs (i + 3)) (xs (i + 4))).2.2.2.2.1) ((uPut S C n va mk ct ps kn cx (xs (i + 1)) (xs (i + 2)) (xs (i + 3)) (xs (i + 4))).2.2.2.2.2) cx ++ mw am eI eJ S C ((uPut S C n va mk ct ps kn cx (xs (i + 1)) (xs (i + 2)) (xs (i + 3)) (xs (i + 4))).1) ((uPut S C n va mk ct ps kn cx (xs (i + 1)) (xs (i + 2)) (xs (i + 3)) (xs (i + 4))).2.1) ((uPut S C n va mk ct ps kn cx (xs (i + 1)) (xs (i + 2)) (xs (i + 3)) (xs (i + 4))).2.2.1) ((uPut S C n va mk ct ps kn cx (xs (i + 1)) (xs (i + 2)) (xs (i + 3)) (xs (i + 4))).2.2.2.1) ((uPut S C n va mk ct ps kn cx (xs (i + 1)) (xs (i + 2)) (xs (i + 3)) (xs (i + 4))).2.2.2.2.1) ((uPut S C n va mk ct ps kn cx (xs (i + 1)) (xs (i + 2)) (xs (i + 3)) (xs (i + 4))).2.2.2.2.2) cx rd) := hD
      refine lv_icmp_eq (tgt := 624) hx hb dL_law_251 (by decide) (fun _ => ?_) (fun q => absurd rfl q)
      refine lv_iinc (v := nI (i + 5)) (lv' := [(3, .int (nI (i + 5))), (0, .ref b), (1, .ref (ax 0)), (2, .ref (am 0))]) hx hb dL_law_624 hl (k := 3) rfl (nI_add i 5) (by decide) rfl (fun ls hl => ?_)
      refine lv_goto (tgt := 38) hx hb dL_law_627 (by decide) ?_
      exact ih (i + 5) (by omega) (by omega) ((uPut S C n va mk ct ps kn cx (xs (i + 1)) (xs (i + 2)) (xs (i + 3)) (xs (i + 4))).1) ((uPut S C n va mk ct ps kn cx (xs (i + 1)) (xs (i + 2)) (xs (i + 3)) (xs (i + 4))).2.1) ((uPut S C n va mk ct ps kn cx (xs (i + 1)) (xs (i + 2)) (xs (i + 3)) (xs (i + 4))).2.2.1) ((uPut S C n va mk ct ps kn cx (xs (i + 1)) (xs (i + 2)) (xs (i + 3)) (xs (i + 4))).2.2.2.1) ((uPut S C n va mk ct ps kn cx (xs (i + 1)) (xs (i + 2)) (xs (i + 3)) (xs (i + 4))).2.2.2.2.1) ((uPut S C n va mk ct ps kn cx (xs (i + 1)) (xs (i + 2)) (xs (i + 3)) (xs (i + 4))).2.2.2.2.2) cx rd (zG_put hG _ _ _ _) (zR_put hR hG.2.2.2.2.2.2.1 _ _ _ _) _ _ hP hD hS ls (lv_sub hl [1, 2, 3, 0] rfl)
    ·
      refine lv_tableIn (tgt := 256) hx hb dL_law_52 (by decide) (by decide) rfl (by decide) ?_
      refine lv_aload_n hx hb dL_law_256 rfl (lv_at hl 1 rfl) ?_
      refine lv_aload_n hx hb dL_law_257 rfl (lv_at hl 0 rfl) ?_
      refine lv_iload_n hx hb dL_law_258 rfl (lv_at hl 3 rfl) ?_
      refine lv_iconst (v := nI 1) hx hb dL_law_259 (by decide) ?_
      refine zr_iadd hx hb dL_law_260 ?_
      refine zr_sld hx hb hX hbl hbA hS (i := i + 1) (by omega) (by omega) dL_law_261 ?_
      refine lv_aload_n hx hb dL_law_262 rfl (lv_at hl 0 rfl) ?_
      refine lv_iload_n hx hb dL_law_263 rfl (lv_at hl 3 rfl) ?_
      refine lv_iconst (v := nI 2) hx hb dL_law_264 (by decide) ?_
      refine zr_iadd hx hb dL_law_265 ?_
      refine zr_sld hx hb hX hbl hbA hS (i := i + 2) (by omega) (by omega) dL_law_266 ?_
      refine lv_aload_n hx hb dL_law_267 rfl (lv_at hl 0 rfl) ?_
      refine lv_iload_n hx hb dL_law_268 rfl (lv_at hl 3 rfl) ?_
      refine lv_iconst (v := nI 3) hx hb dL_law_269 (by decide) ?_
      refine zr_iadd hx hb dL_law_270 ?_
      refine zr_sld hx hb hX hbl hbA hS (i := i + 3) (by omega) (by omega) dL_law_271 ?_
      have hFc := zfree (w := xw ax cI cJ cII cJJ S C n va mk ct ps kn cx) (zD_l hD) hS hA
      refine va_calli (va_runV (As := [.int (xs (i + 1)), .int (xs (i + 2)), .int (xs (i + 3))]) (rest := []) ⟨hx, hb, hml, hown, hts⟩ (c_X0_sync l dC dI ax cI cJ cII cJJ S C n va mk ct ps kn cx hG (xs (i + 1)) (xs (i + 2)) (xs (i + 3)) H.size) (cwV 3 hts gL_law_X0_sync rfl rfl rfl (by decide +kernel) ⟨Nat.le_of_ble_eq_true rfl, Nat.le_of_ble_eq_true rfl⟩) ⟨xC_blind, va_recv hKx (zP_l hP) (ci := 0) (q0 := 0) rfl rfl, fun U hU hW => ⟨rfl, by rw [hU], by rw [hU]; exact (zP_l hP), va_K.moved hW.alike hKx, (zD_l hD).weaken (fun _ _ _ _ => trivial)⟩⟩ rfl rfl hl.1 rfl (lv_room (Nat.le_of_ble_eq_true rfl)) dL_law_272 ⟨Nat.le_of_ble_eq_true rfl, Nat.le_of_ble_eq_true rfl⟩) hS (fun q _ h => hFc q h) hFc (fun r u t H1 locs ht hvm hw hB hz1 hk1 hS => ?_)
      obtain ⟨rfl, rfl⟩ := hw
      obtain ⟨hP1, hK1, hD1⟩ := hB
      rw [ht] at hP1
      obtain ⟨hP, hD⟩ := zjoinL hP hD hk1 hFc hP1 hD1
      generalize H1 = H at hP hS ⊢
      have hP : va_P (dC, dI) vwCl (xw ax cI cJ cII cJJ S C n va mk ct ps (uSync S kn (xs (i + 1)) (xs (i + 2)) (xs (i + 3))) cx ++ mw am eI eJ S C n va mk ct ps kn cx rd) H := hP
      have hD : va_D (fun q : Nat => s.heap.size ≤ q) (xw ax cI cJ cII cJJ S C n va mk ct ps (uSync S kn (xs (i + 1)) (xs (i + 2)) (xs (i + 3))) cx ++ mw am eI eJ S C n va mk ct ps kn cx rd) := hD
      refine lv_aload_n hx hb dL_law_275 rfl (lv_at hl 2 rfl) ?_
      refine lv_aload_n hx hb dL_law_276 rfl (lv_at hl 0 rfl) ?_
      refine lv_iload_n hx hb dL_law_277 rfl (lv_at hl 3 rfl) ?_
      refine lv_iconst (v := nI 1) hx hb dL_law_278 (by decide) ?_
      refine zr_iadd hx hb dL_law_279 ?_
      refine zr_sld hx hb hX hbl hbA hS (i := i + 1) (by omega) (by omega) dL_law_280 ?_
      refine lv_aload_n hx hb dL_law_281 rfl (lv_at hl 0 rfl) ?_
      refine lv_iload_n hx hb dL_law_282 rfl (lv_at hl 3 rfl) ?_
      refine lv_iconst (v := nI 2) hx hb dL_law_283 (by decide) ?_
      refine zr_iadd hx hb dL_law_284 ?_
      refine zr_sld hx hb hX hbl hbA hS (i := i + 2) (by omega) (by omega) dL_law_285 ?_
      refine lv_aload_n hx hb dL_law_286 rfl (lv_at hl 0 rfl) ?_
      refine lv_iload_n hx hb dL_law_287 rfl (lv_at hl 3 rfl) ?_
      refine lv_iconst (v := nI 3) hx hb dL_law_288 (by decide) ?_
      refine zr_iadd hx hb dL_law_289 ?_
      refine zr_sld hx hb hX hbl hbA hS (i := i + 3) (by omega) (by omega) dL_law_290 ?_
      have hFc := zfree (w := mw am eI eJ S C n va mk ct ps kn cx rd) (zD_r hD) hS hA
      refine va_calli (va_runV (As := [.int (xs (i + 1)), .int (xs (i + 2)), .int (xs (i + 3))]) (rest := [.int (aSync S (xs (i + 1)) (xs (i + 2)) (xs (i + 3)))]) ⟨hx, hb, hml, hown, hts⟩ (c_X1_sync l dC dI am eI eJ S C n va mk ct ps kn cx rd hG (xs (i + 1)) (xs (i + 2)) (xs (i + 3)) H.size) (cwV 3 hts gL_law_X1_sync rfl rfl rfl (by decide +kernel) ⟨Nat.le_of_ble_eq_true rfl, Nat.le_of_ble_eq_true rfl⟩) ⟨mC_blind, va_recv hKm (zP_r hP) (ci := 1) (q0 := 0) rfl rfl, fun U hU hW => ⟨rfl, by rw [hU], by rw [hU]; exact (zP_r hP), va_K.moved hW.alike hKm, (zD_r hD).weaken (fun _ _ _ _ => trivial)⟩⟩ rfl rfl hl.1 rfl (lv_room (Nat.le_of_ble_eq_true rfl)) dL_law_291 ⟨Nat.le_of_ble_eq_true rfl, Nat.le_of_ble_eq_true rfl⟩) hS (fun q _ h => hFc q h) hFc (fun r u t H1 locs ht hvm hw hB hz1 hk1 hS => ?_)
      obtain ⟨rfl, rfl⟩ := hw
      obtain ⟨hP1, hK1, hD1⟩ := hB
      rw [ht] at hP1
      obtain ⟨hP, hD⟩ := zjoinR hP hD hk1 hFc hP1 hD1
      generalize H1 = H at hP hS ⊢
      have hP : va_P (dC, dI) vwCl (xw ax cI cJ cII cJJ S C n va mk ct ps (uSync S kn (xs (i + 1)) (xs (i + 2)) (xs (i + 3))) cx ++ mw am eI eJ S C n va mk ct ps (uSync S kn (xs (i + 1)) (xs (i + 2)) (xs (i + 3))) cx rd) H := hP
      have hD : va_D (fun q : Nat => s.heap.size ≤ q) (xw ax cI cJ cII cJJ S C n va mk ct ps (uSync S kn (xs (i + 1)) (xs (i + 2)) (xs (i + 3))) cx ++ mw am eI eJ S C n va mk ct ps (uSync S kn (xs (i + 1)) (xs (i + 2)) (xs (i + 3))) cx rd) := hD
      refine lv_icmp_eq (tgt := 624) hx hb dL_law_294 (by decide) (fun _ => ?_) (fun q => absurd rfl q)
      refine lv_iinc (v := nI (i + 5)) (lv' := [(3, .int (nI (i + 5))), (0, .ref b), (1, .ref (ax 0)), (2, .ref (am 0))]) hx hb dL_law_624 hl (k := 3) rfl (nI_add i 5) (by decide) rfl (fun ls hl => ?_)
      refine lv_goto (tgt := 38) hx hb dL_law_627 (by decide) ?_
      exact ih (i + 5) (by omega) (by omega) n va mk ct ps (uSync S kn (xs (i + 1)) (xs (i + 2)) (xs (i + 3))) cx rd (zG_sync hG _ _ _) hR _ _ hP hD hS ls (lv_sub hl [1, 2, 3, 0] rfl)
    ·
      refine lv_tableIn (tgt := 299) hx hb dL_law_52 (by decide) (by decide) rfl (by decide) ?_
      refine lv_aload_n hx hb dL_law_299 rfl (lv_at hl 1 rfl) ?_
      refine lv_aload_n hx hb dL_law_300 rfl (lv_at hl 0 rfl) ?_
      refine lv_iload_n hx hb dL_law_301 rfl (lv_at hl 3 rfl) ?_
      refine lv_iconst (v := nI 1) hx hb dL_law_302 (by decide) ?_
      refine zr_iadd hx hb dL_law_303 ?_
      refine zr_sld hx hb hX hbl hbA hS (i := i + 1) (by omega) (by omega) dL_law_304 ?_
      refine lv_aload_n hx hb dL_law_305 rfl (lv_at hl 0 rfl) ?_
      refine lv_iload_n hx hb dL_law_306 rfl (lv_at hl 3 rfl) ?_
      refine lv_iconst (v := nI 2) hx hb dL_law_307 (by decide) ?_
      refine zr_iadd hx hb dL_law_308 ?_
      refine zr_sld hx hb hX hbl hbA hS (i := i + 2) (by omega) (by omega) dL_law_309 ?_
      have hFc := zfree (w := xw ax cI cJ cII cJJ S C n va mk ct ps kn cx) (zD_l hD) hS hA
      refine va_calli (va_runV (As := [.int (xs (i + 1)), .int (xs (i + 2))]) (rest := []) ⟨hx, hb, hml, hown, hts⟩ (c_X0_forget l dC dI ax cI cJ cII cJJ S C n va mk ct ps kn cx hG (xs (i + 1)) (xs (i + 2)) H.size) (cwV 2 hts gL_law_X0_forget rfl rfl rfl (by decide +kernel) ⟨Nat.le_of_ble_eq_true rfl, Nat.le_of_ble_eq_true rfl⟩) ⟨xC_blind, va_recv hKx (zP_l hP) (ci := 0) (q0 := 0) rfl rfl, fun U hU hW => ⟨rfl, by rw [hU], by rw [hU]; exact (zP_l hP), va_K.moved hW.alike hKx, (zD_l hD).weaken (fun _ _ _ _ => trivial)⟩⟩ rfl rfl hl.1 rfl (lv_room (Nat.le_of_ble_eq_true rfl)) dL_law_310 ⟨Nat.le_of_ble_eq_true rfl, Nat.le_of_ble_eq_true rfl⟩) hS (fun q _ h => hFc q h) hFc (fun r u t H1 locs ht hvm hw hB hz1 hk1 hS => ?_)
      obtain ⟨rfl, rfl⟩ := hw
      obtain ⟨hP1, hK1, hD1⟩ := hB
      rw [ht] at hP1
      obtain ⟨hP, hD⟩ := zjoinL hP hD hk1 hFc hP1 hD1
      generalize H1 = H at hP hS ⊢
      have hP : va_P (dC, dI) vwCl (xw ax cI cJ cII cJJ S C n va mk ct ps kn (uForget C cx (xs (i + 1)) (xs (i + 2))) ++ mw am eI eJ S C n va mk ct ps kn cx rd) H := hP
      have hD : va_D (fun q : Nat => s.heap.size ≤ q) (xw ax cI cJ cII cJJ S C n va mk ct ps kn (uForget C cx (xs (i + 1)) (xs (i + 2))) ++ mw am eI eJ S C n va mk ct ps kn cx rd) := hD
      refine lv_aload_n hx hb dL_law_313 rfl (lv_at hl 2 rfl) ?_
      refine lv_aload_n hx hb dL_law_314 rfl (lv_at hl 0 rfl) ?_
      refine lv_iload_n hx hb dL_law_315 rfl (lv_at hl 3 rfl) ?_
      refine lv_iconst (v := nI 1) hx hb dL_law_316 (by decide) ?_
      refine zr_iadd hx hb dL_law_317 ?_
      refine zr_sld hx hb hX hbl hbA hS (i := i + 1) (by omega) (by omega) dL_law_318 ?_
      refine lv_aload_n hx hb dL_law_319 rfl (lv_at hl 0 rfl) ?_
      refine lv_iload_n hx hb dL_law_320 rfl (lv_at hl 3 rfl) ?_
      refine lv_iconst (v := nI 2) hx hb dL_law_321 (by decide) ?_
      refine zr_iadd hx hb dL_law_322 ?_
      refine zr_sld hx hb hX hbl hbA hS (i := i + 2) (by omega) (by omega) dL_law_323 ?_
      have hFc := zfree (w := mw am eI eJ S C n va mk ct ps kn cx rd) (zD_r hD) hS hA
      refine va_calli (va_runV (As := [.int (xs (i + 1)), .int (xs (i + 2))]) (rest := [.int (aForget C (xs (i + 1)) (xs (i + 2)))]) ⟨hx, hb, hml, hown, hts⟩ (c_X1_forget l dC dI am eI eJ S C n va mk ct ps kn cx rd hG (xs (i + 1)) (xs (i + 2)) H.size) (cwV 2 hts gL_law_X1_forget rfl rfl rfl (by decide +kernel) ⟨Nat.le_of_ble_eq_true rfl, Nat.le_of_ble_eq_true rfl⟩) ⟨mC_blind, va_recv hKm (zP_r hP) (ci := 1) (q0 := 0) rfl rfl, fun U hU hW => ⟨rfl, by rw [hU], by rw [hU]; exact (zP_r hP), va_K.moved hW.alike hKm, (zD_r hD).weaken (fun _ _ _ _ => trivial)⟩⟩ rfl rfl hl.1 rfl (lv_room (Nat.le_of_ble_eq_true rfl)) dL_law_324 ⟨Nat.le_of_ble_eq_true rfl, Nat.le_of_ble_eq_true rfl⟩) hS (fun q _ h => hFc q h) hFc (fun r u t H1 locs ht hvm hw hB hz1 hk1 hS => ?_)
      obtain ⟨rfl, rfl⟩ := hw
      obtain ⟨hP1, hK1, hD1⟩ := hB
      rw [ht] at hP1
      obtain ⟨hP, hD⟩ := zjoinR hP hD hk1 hFc hP1 hD1
      generalize H1 = H at hP hS ⊢
      have hP : va_P (dC, dI) vwCl (xw ax cI cJ cII cJJ S C n va mk ct ps kn (uForget C cx (xs (i + 1)) (xs (i + 2))) ++ mw am eI eJ S C n va mk ct ps kn (uForget C cx (xs (i + 1)) (xs (i + 2))) (uForget C rd (xs (i + 1)) (xs (i + 2)))) H := hP
      have hD : va_D (fun q : Nat => s.heap.size ≤ q) (xw ax cI cJ cII cJJ S C n va mk ct ps kn (uForget C cx (xs (i + 1)) (xs (i + 2))) ++ mw am eI eJ S C n va mk ct ps kn (uForget C cx (xs (i + 1)) (xs (i + 2))) (uForget C rd (xs (i + 1)) (xs (i + 2)))) := hD
      refine lv_icmp_eq (tgt := 624) hx hb dL_law_327 (by decide) (fun _ => ?_) (fun q => absurd rfl q)
      refine lv_iinc (v := nI (i + 5)) (lv' := [(3, .int (nI (i + 5))), (0, .ref b), (1, .ref (ax 0)), (2, .ref (am 0))]) hx hb dL_law_624 hl (k := 3) rfl (nI_add i 5) (by decide) rfl (fun ls hl => ?_)
      refine lv_goto (tgt := 38) hx hb dL_law_627 (by decide) ?_
      exact ih (i + 5) (by omega) (by omega) n va mk ct ps kn (uForget C cx (xs (i + 1)) (xs (i + 2))) (uForget C rd (xs (i + 1)) (xs (i + 2))) (zG_forget hG _ _) (zR_forget hR _ _) _ _ hP hD hS ls (lv_sub hl [1, 2, 3, 0] rfl)
    ·
      refine lv_tableIn (tgt := 332) hx hb dL_law_52 (by decide) (by decide) rfl (by decide) ?_
      refine lv_aload_n hx hb dL_law_332 rfl (lv_at hl 1 rfl) ?_
      refine lv_aload_n hx hb dL_law_333 rfl (lv_at hl 0 rfl) ?_
      refine lv_iload_n hx hb dL_law_334 rfl (lv_at hl 3 rfl) ?_
      refine lv_iconst (v := nI 1) hx hb dL_law_335 (by decide) ?_
      refine zr_iadd hx hb dL_law_336 ?_
      refine zr_sld hx hb hX hbl hbA hS (i := i + 1) (by omega) (by omega) dL_law_337 ?_
      refine lv_aload_n hx hb dL_law_338 rfl (lv_at hl 0 rfl) ?_
      refine lv_iload_n hx hb dL_law_339 rfl (lv_at hl 3 rfl) ?_
      refine lv_iconst (v := nI 2) hx hb dL_law_340 (by decide) ?_
      refine zr_iadd hx hb dL_law_341 ?_
      refine zr_sld hx hb hX hbl hbA hS (i := i + 2) (by omega) (by omega) dL_law_342 ?_
      refine vp_callSi (W.runV (As := [.int (xs (i + 1)), .int (xs (i + 2))]) (rest := []) ⟨hx, hb, hml, hown, hts⟩ (c_X0_siblings l dC dI ax cI cJ cII cJJ S C n va mk ct ps kn cx hG (xs (i + 1)) (xs (i + 2))) (cwV 2 hts gL_law_X0_siblings rfl rfl rfl (by decide +kernel) ⟨Nat.le_of_ble_eq_true rfl, Nat.le_of_ble_eq_true rfl⟩) ⟨xB_blind, va_recv hKx (zP_l hP) (ci := 0) (q0 := 0) rfl rfl, fun U hU hW => ⟨rfl, xB_at (zP_l hP) hKx hU hW⟩⟩ rfl rfl hl.1 rfl (lv_room (Nat.le_of_ble_eq_true rfl)) dL_law_343 ⟨Nat.le_of_ble_eq_true rfl, Nat.le_of_ble_eq_true rfl⟩) (fun r hq => ?_)
      subst hq
      refine lv_aload_n hx hb dL_law_346 rfl (lv_at hl 2 rfl) ?_
      refine lv_aload_n hx hb dL_law_347 rfl (lv_at hl 0 rfl) ?_
      refine lv_iload_n hx hb dL_law_348 rfl (lv_at hl 3 rfl) ?_
      refine lv_iconst (v := nI 1) hx hb dL_law_349 (by decide) ?_
      refine zr_iadd hx hb dL_law_350 ?_
      refine zr_sld hx hb hX hbl hbA hS (i := i + 1) (by omega) (by omega) dL_law_351 ?_
      refine lv_aload_n hx hb dL_law_352 rfl (lv_at hl 0 rfl) ?_
      refine lv_iload_n hx hb dL_law_353 rfl (lv_at hl 3 rfl) ?_
      refine lv_iconst (v := nI 2) hx hb dL_law_354 (by decide) ?_
      refine zr_iadd hx hb dL_law_355 ?_
      refine zr_sld hx hb hX hbl hbA hS (i := i + 2) (by omega) (by omega) dL_law_356 ?_
      refine vp_callSi (W.runV (As := [.int (xs (i + 1)), .int (xs (i + 2))]) (rest := [.int (aSibs S n ps kn (xs (i + 1)) (xs (i + 2)))]) ⟨hx, hb, hml, hown, hts⟩ (c_X1_siblings l dC dI am eI eJ S C n va mk ct ps kn cx rd hG (xs (i + 1)) (xs (i + 2))) (cwV 2 hts gL_law_X1_siblings rfl rfl rfl (by decide +kernel) ⟨Nat.le_of_ble_eq_true rfl, Nat.le_of_ble_eq_true rfl⟩) ⟨mB_blind, va_recv hKm (zP_r hP) (ci := 1) (q0 := 0) rfl rfl, fun U hU hW => ⟨rfl, mB_at (zP_r hP) hKm hU hW⟩⟩ rfl rfl hl.1 rfl (lv_room (Nat.le_of_ble_eq_true rfl)) dL_law_357 ⟨Nat.le_of_ble_eq_true rfl, Nat.le_of_ble_eq_true rfl⟩) (fun r hq => ?_)
      subst hq
      refine lv_icmp_eq (tgt := 624) hx hb dL_law_360 (by decide) (fun _ => ?_) (fun q => absurd rfl q)
      refine lv_iinc (v := nI (i + 5)) (lv' := [(3, .int (nI (i + 5))), (0, .ref b), (1, .ref (ax 0)), (2, .ref (am 0))]) hx hb dL_law_624 hl (k := 3) rfl (nI_add i 5) (by decide) rfl (fun ls hl => ?_)
      refine lv_goto (tgt := 38) hx hb dL_law_627 (by decide) ?_
      exact ih (i + 5) (by omega) (by omega) n va mk ct ps kn cx rd hG hR _ _ hP hD hS ls (lv_sub hl [1, 2, 3, 0] rfl)
    ·
      refine lv_tableIn (tgt := 365) hx hb dL_law_52 (by decide) (by decide) rfl (by decide) ?_
      refine lv_aload_n hx hb dL_law_365 rfl (lv_at hl 1 rfl) ?_
      refine lv_aload_n hx hb dL_law_366 rfl (lv_at hl 0 rfl) ?_
      refine lv_iload_n hx hb dL_law_367 rfl (lv_at hl 3 rfl) ?_
      refine lv_iconst (v := nI 1) hx hb dL_law_368 (by decide) ?_
      refine zr_iadd hx hb dL_law_369 ?_
      refine zr_sld hx hb hX hbl hbA hS (i := i + 1) (by omega) (by omega) dL_law_370 ?_
      refine lv_aload_n hx hb dL_law_371 rfl (lv_at hl 0 rfl) ?_
      refine lv_iload_n hx hb dL_law_372 rfl (lv_at hl 3 rfl) ?_
      refine lv_iconst (v := nI 2) hx hb dL_law_373 (by decide) ?_
      refine zr_iadd hx hb dL_law_374 ?_
      refine zr_sld hx hb hX hbl hbA hS (i := i + 2) (by omega) (by omega) dL_law_375 ?_
      refine lv_aload_n hx hb dL_law_376 rfl (lv_at hl 0 rfl) ?_
      refine lv_iload_n hx hb dL_law_377 rfl (lv_at hl 3 rfl) ?_
      refine lv_iconst (v := nI 3) hx hb dL_law_378 (by decide) ?_
      refine zr_iadd hx hb dL_law_379 ?_
      refine zr_sld hx hb hX hbl hbA hS (i := i + 3) (by omega) (by omega) dL_law_380 ?_
      refine lv_aload_n hx hb dL_law_381 rfl (lv_at hl 0 rfl) ?_
      refine lv_iload_n hx hb dL_law_382 rfl (lv_at hl 3 rfl) ?_
      refine lv_iconst (v := nI 4) hx hb dL_law_383 (by decide) ?_
      refine zr_iadd hx hb dL_law_384 ?_
      refine zr_sld hx hb hX hbl hbA hS (i := i + 4) (by omega) (by omega) dL_law_385 ?_
      refine vp_callSl (W.runV (As := [.int (xs (i + 1)), .int (xs (i + 2)), .int (xs (i + 3)), .int (xs (i + 4))]) (rest := []) ⟨hx, hb, hml, hown, hts⟩ (c_X0_sibling l dC dI ax cI cJ cII cJJ S C n va mk ct ps kn cx hG (xs (i + 1)) (xs (i + 2)) (xs (i + 3)) (xs (i + 4))) (cwV 4 hts gL_law_X0_sibling rfl rfl rfl (by decide +kernel) ⟨Nat.le_of_ble_eq_true rfl, Nat.le_of_ble_eq_true rfl⟩) ⟨xB_blind, va_recv hKx (zP_l hP) (ci := 0) (q0 := 0) rfl rfl, fun U hU hW => ⟨rfl, xB_at (zP_l hP) hKx hU hW⟩⟩ rfl rfl hl.1 rfl (lv_room (Nat.le_of_ble_eq_true rfl)) dL_law_386 ⟨Nat.le_of_ble_eq_true rfl, Nat.le_of_ble_eq_true rfl⟩) (fun r hq => ?_)
      subst hq
      refine lv_aload_n hx hb dL_law_389 rfl (lv_at hl 2 rfl) ?_
      refine lv_aload_n hx hb dL_law_390 rfl (lv_at hl 0 rfl) ?_
      refine lv_iload_n hx hb dL_law_391 rfl (lv_at hl 3 rfl) ?_
      refine lv_iconst (v := nI 1) hx hb dL_law_392 (by decide) ?_
      refine zr_iadd hx hb dL_law_393 ?_
      refine zr_sld hx hb hX hbl hbA hS (i := i + 1) (by omega) (by omega) dL_law_394 ?_
      refine lv_aload_n hx hb dL_law_395 rfl (lv_at hl 0 rfl) ?_
      refine lv_iload_n hx hb dL_law_396 rfl (lv_at hl 3 rfl) ?_
      refine lv_iconst (v := nI 2) hx hb dL_law_397 (by decide) ?_
      refine zr_iadd hx hb dL_law_398 ?_
      refine zr_sld hx hb hX hbl hbA hS (i := i + 2) (by omega) (by omega) dL_law_399 ?_
      refine lv_aload_n hx hb dL_law_400 rfl (lv_at hl 0 rfl) ?_
      refine lv_iload_n hx hb dL_law_401 rfl (lv_at hl 3 rfl) ?_
      refine lv_iconst (v := nI 3) hx hb dL_law_402 (by decide) ?_
      refine zr_iadd hx hb dL_law_403 ?_
      refine zr_sld hx hb hX hbl hbA hS (i := i + 3) (by omega) (by omega) dL_law_404 ?_
      refine lv_aload_n hx hb dL_law_405 rfl (lv_at hl 0 rfl) ?_
      refine lv_iload_n hx hb dL_law_406 rfl (lv_at hl 3 rfl) ?_
      refine lv_iconst (v := nI 4) hx hb dL_law_407 (by decide) ?_
      refine zr_iadd hx hb dL_law_408 ?_
      refine zr_sld hx hb hX hbl hbA hS (i := i + 4) (by omega) (by omega) dL_law_409 ?_
      refine vp_callSl (W.runV (As := [.int (xs (i + 1)), .int (xs (i + 2)), .int (xs (i + 3)), .int (xs (i + 4))]) (rest := [.long (aSib S n va mk ct ps kn (xs (i + 1)) (xs (i + 2)) (xs (i + 3)) (xs (i + 4)))]) ⟨hx, hb, hml, hown, hts⟩ (c_X1_sibling l dC dI am eI eJ S C n va mk ct ps kn cx rd hG (xs (i + 1)) (xs (i + 2)) (xs (i + 3)) (xs (i + 4))) (cwV 4 hts gL_law_X1_sibling rfl rfl rfl (by decide +kernel) ⟨Nat.le_of_ble_eq_true rfl, Nat.le_of_ble_eq_true rfl⟩) ⟨mB_blind, va_recv hKm (zP_r hP) (ci := 1) (q0 := 0) rfl rfl, fun U hU hW => ⟨rfl, mB_at (zP_r hP) hKm hU hW⟩⟩ rfl rfl hl.1 rfl (lv_room (Nat.le_of_ble_eq_true rfl)) dL_law_410 ⟨Nat.le_of_ble_eq_true rfl, Nat.le_of_ble_eq_true rfl⟩) (fun r hq => ?_)
      subst hq
      refine zr_lsame (tgt := 624) hx hb dL_law_413 dL_law_414 (by decide) ?_
      refine lv_iinc (v := nI (i + 5)) (lv' := [(3, .int (nI (i + 5))), (0, .ref b), (1, .ref (ax 0)), (2, .ref (am 0))]) hx hb dL_law_624 hl (k := 3) rfl (nI_add i 5) (by decide) rfl (fun ls hl => ?_)
      refine lv_goto (tgt := 38) hx hb dL_law_627 (by decide) ?_
      exact ih (i + 5) (by omega) (by omega) n va mk ct ps kn cx rd hG hR _ _ hP hD hS ls (lv_sub hl [1, 2, 3, 0] rfl)
    ·
      refine lv_tableIn (tgt := 419) hx hb dL_law_52 (by decide) (by decide) rfl (by decide) ?_
      refine lv_aload_n hx hb dL_law_419 rfl (lv_at hl 1 rfl) ?_
      refine lv_aload_n hx hb dL_law_420 rfl (lv_at hl 0 rfl) ?_
      refine lv_iload_n hx hb dL_law_421 rfl (lv_at hl 3 rfl) ?_
      refine lv_iconst (v := nI 1) hx hb dL_law_422 (by decide) ?_
      refine zr_iadd hx hb dL_law_423 ?_
      refine zr_sld hx hb hX hbl hbA hS (i := i + 1) (by omega) (by omega) dL_law_424 ?_
      refine lv_aload_n hx hb dL_law_425 rfl (lv_at hl 0 rfl) ?_
      refine lv_iload_n hx hb dL_law_426 rfl (lv_at hl 3 rfl) ?_
      refine lv_iconst (v := nI 2) hx hb dL_law_427 (by decide) ?_
      refine zr_iadd hx hb dL_law_428 ?_
      refine zr_sld hx hb hX hbl hbA hS (i := i + 2) (by omega) (by omega) dL_law_429 ?_
      refine lv_aload_n hx hb dL_law_430 rfl (lv_at hl 0 rfl) ?_
      refine lv_iload_n hx hb dL_law_431 rfl (lv_at hl 3 rfl) ?_
      refine lv_iconst (v := nI 3) hx hb dL_law_432 (by decide) ?_
      refine zr_iadd hx hb dL_law_433 ?_
      refine zr_sld hx hb hX hbl hbA hS (i := i + 3) (by omega) (by omega) dL_law_434 ?_
      refine vp_callSi (W.runV (As := [.int (xs (i + 1)), .int (xs (i + 2)), .int (xs (i + 3))]) (rest := []) ⟨hx, hb, hml, hown, hts⟩ (c_X0_known l dC dI ax cI cJ cII cJJ S C n va mk ct ps kn cx hG (xs (i + 1)) (xs (i + 2)) (xs (i + 3))) (cwV 3 hts gL_law_X0_known rfl rfl rfl (by decide +kernel) ⟨Nat.le_of_ble_eq_true rfl, Nat.le_of_ble_eq_true rfl⟩) ⟨xB_blind, va_recv hKx (zP_l hP) (ci := 0) (q0 := 0) rfl rfl, fun U hU hW => ⟨rfl, xB_at (zP_l hP) hKx hU hW⟩⟩ rfl rfl hl.1 rfl (lv_room (Nat.le_of_ble_eq_true rfl)) dL_law_435 ⟨Nat.le_of_ble_eq_true rfl, Nat.le_of_ble_eq_true rfl⟩) (fun r hq => ?_)
      subst hq
      refine lv_aload_n hx hb dL_law_438 rfl (lv_at hl 2 rfl) ?_
      refine lv_aload_n hx hb dL_law_439 rfl (lv_at hl 0 rfl) ?_
      refine lv_iload_n hx hb dL_law_440 rfl (lv_at hl 3 rfl) ?_
      refine lv_iconst (v := nI 1) hx hb dL_law_441 (by decide) ?_
      refine zr_iadd hx hb dL_law_442 ?_
      refine zr_sld hx hb hX hbl hbA hS (i := i + 1) (by omega) (by omega) dL_law_443 ?_
      refine lv_aload_n hx hb dL_law_444 rfl (lv_at hl 0 rfl) ?_
      refine lv_iload_n hx hb dL_law_445 rfl (lv_at hl 3 rfl) ?_
      refine lv_iconst (v := nI 2) hx hb dL_law_446 (by decide) ?_
      refine zr_iadd hx hb dL_law_447 ?_
      refine zr_sld hx hb hX hbl hbA hS (i := i + 2) (by omega) (by omega) dL_law_448 ?_
      refine lv_aload_n hx hb dL_law_449 rfl (lv_at hl 0 rfl) ?_
      refine lv_iload_n hx hb dL_law_450 rfl (lv_at hl 3 rfl) ?_
      refine lv_iconst (v := nI 3) hx hb dL_law_451 (by decide) ?_
      refine zr_iadd hx hb dL_law_452 ?_
      refine zr_sld hx hb hX hbl hbA hS (i := i + 3) (by omega) (by omega) dL_law_453 ?_
      refine vp_callSi (W.runV (As := [.int (xs (i + 1)), .int (xs (i + 2)), .int (xs (i + 3))]) (rest := [.int (aKnown S n mk ct kn (xs (i + 1)) (xs (i + 2)) (xs (i + 3)))]) ⟨hx, hb, hml, hown, hts⟩ (c_X1_known l dC dI am eI eJ S C n va mk ct ps kn cx rd hG (xs (i + 1)) (xs (i + 2)) (xs (i + 3))) (cwV 3 hts gL_law_X1_known rfl rfl rfl (by decide +kernel) ⟨Nat.le_of_ble_eq_true rfl, Nat.le_of_ble_eq_true rfl⟩) ⟨mB_blind, va_recv hKm (zP_r hP) (ci := 1) (q0 := 0) rfl rfl, fun U hU hW => ⟨rfl, mB_at (zP_r hP) hKm hU hW⟩⟩ rfl rfl hl.1 rfl (lv_room (Nat.le_of_ble_eq_true rfl)) dL_law_454 ⟨Nat.le_of_ble_eq_true rfl, Nat.le_of_ble_eq_true rfl⟩) (fun r hq => ?_)
      subst hq
      refine lv_icmp_eq (tgt := 624) hx hb dL_law_457 (by decide) (fun _ => ?_) (fun q => absurd rfl q)
      refine lv_iinc (v := nI (i + 5)) (lv' := [(3, .int (nI (i + 5))), (0, .ref b), (1, .ref (ax 0)), (2, .ref (am 0))]) hx hb dL_law_624 hl (k := 3) rfl (nI_add i 5) (by decide) rfl (fun ls hl => ?_)
      refine lv_goto (tgt := 38) hx hb dL_law_627 (by decide) ?_
      exact ih (i + 5) (by omega) (by omega) n va mk ct ps kn cx rd hG hR _ _ hP hD hS ls (lv_sub hl [1, 2, 3, 0] rfl)
    ·
      refine lv_tableIn (tgt := 462) hx hb dL_law_52 (by decide) (by decide) rfl (by decide) ?_
      refine lv_aload_n hx hb dL_law_462 rfl (lv_at hl 1 rfl) ?_
      refine lv_aload_n hx hb dL_law_463 rfl (lv_at hl 0 rfl) ?_
      refine lv_iload_n hx hb dL_law_464 rfl (lv_at hl 3 rfl) ?_
      refine lv_iconst (v := nI 1) hx hb dL_law_465 (by decide) ?_
      refine zr_iadd hx hb dL_law_466 ?_
      refine zr_sld hx hb hX hbl hbA hS (i := i + 1) (by omega) (by omega) dL_law_467 ?_
      refine lv_aload_n hx hb dL_law_468 rfl (lv_at hl 0 rfl) ?_
      refine lv_iload_n hx hb dL_law_469 rfl (lv_at hl 3 rfl) ?_
      refine lv_iconst (v := nI 2) hx hb dL_law_470 (by decide) ?_
      refine zr_iadd hx hb dL_law_471 ?_
      refine zr_sld hx hb hX hbl hbA hS (i := i + 2) (by omega) (by omega) dL_law_472 ?_
      refine lv_aload_n hx hb dL_law_473 rfl (lv_at hl 0 rfl) ?_
      refine lv_iload_n hx hb dL_law_474 rfl (lv_at hl 3 rfl) ?_
      refine lv_iconst (v := nI 3) hx hb dL_law_475 (by decide) ?_
      refine zr_iadd hx hb dL_law_476 ?_
      refine zr_sld hx hb hX hbl hbA hS (i := i + 3) (by omega) (by omega) dL_law_477 ?_
      refine vp_callSi (W.runV (As := [.int (xs (i + 1)), .int (xs (i + 2)), .int (xs (i + 3))]) (rest := []) ⟨hx, hb, hml, hown, hts⟩ (c_X0_context l dC dI ax cI cJ cII cJJ S C n va mk ct ps kn cx hG (xs (i + 1)) (xs (i + 2)) (xs (i + 3))) (cwV 3 hts gL_law_X0_context rfl rfl rfl (by decide +kernel) ⟨Nat.le_of_ble_eq_true rfl, Nat.le_of_ble_eq_true rfl⟩) ⟨xB_blind, va_recv hKx (zP_l hP) (ci := 0) (q0 := 0) rfl rfl, fun U hU hW => ⟨rfl, xB_at (zP_l hP) hKx hU hW⟩⟩ rfl rfl hl.1 rfl (lv_room (Nat.le_of_ble_eq_true rfl)) dL_law_478 ⟨Nat.le_of_ble_eq_true rfl, Nat.le_of_ble_eq_true rfl⟩) (fun r hq => ?_)
      subst hq
      refine lv_aload_n hx hb dL_law_481 rfl (lv_at hl 2 rfl) ?_
      refine lv_aload_n hx hb dL_law_482 rfl (lv_at hl 0 rfl) ?_
      refine lv_iload_n hx hb dL_law_483 rfl (lv_at hl 3 rfl) ?_
      refine lv_iconst (v := nI 1) hx hb dL_law_484 (by decide) ?_
      refine zr_iadd hx hb dL_law_485 ?_
      refine zr_sld hx hb hX hbl hbA hS (i := i + 1) (by omega) (by omega) dL_law_486 ?_
      refine lv_aload_n hx hb dL_law_487 rfl (lv_at hl 0 rfl) ?_
      refine lv_iload_n hx hb dL_law_488 rfl (lv_at hl 3 rfl) ?_
      refine lv_iconst (v := nI 2) hx hb dL_law_489 (by decide) ?_
      refine zr_iadd hx hb dL_law_490 ?_
      refine zr_sld hx hb hX hbl hbA hS (i := i + 2) (by omega) (by omega) dL_law_491 ?_
      refine lv_aload_n hx hb dL_law_492 rfl (lv_at hl 0 rfl) ?_
      refine lv_iload_n hx hb dL_law_493 rfl (lv_at hl 3 rfl) ?_
      refine lv_iconst (v := nI 3) hx hb dL_law_494 (by decide) ?_
      refine zr_iadd hx hb dL_law_495 ?_
      refine zr_sld hx hb hX hbl hbA hS (i := i + 3) (by omega) (by omega) dL_law_496 ?_
      refine vp_callSi (W.runV (As := [.int (xs (i + 1)), .int (xs (i + 2)), .int (xs (i + 3))]) (rest := [.int (aCtx S C n mk ct cx (xs (i + 1)) (xs (i + 2)) (xs (i + 3)))]) ⟨hx, hb, hml, hown, hts⟩ (c_X1_context l dC dI am eI eJ S C n va mk ct ps kn cx rd hG (xs (i + 1)) (xs (i + 2)) (xs (i + 3))) (cwV 3 hts gL_law_X1_context rfl rfl rfl (by decide +kernel) ⟨Nat.le_of_ble_eq_true rfl, Nat.le_of_ble_eq_true rfl⟩) ⟨mB_blind, va_recv hKm (zP_r hP) (ci := 1) (q0 := 0) rfl rfl, fun U hU hW => ⟨rfl, mB_at (zP_r hP) hKm hU hW⟩⟩ rfl rfl hl.1 rfl (lv_room (Nat.le_of_ble_eq_true rfl)) dL_law_497 ⟨Nat.le_of_ble_eq_true rfl, Nat.le_of_ble_eq_true rfl⟩) (fun r hq => ?_)
      subst hq
      refine lv_icmp_eq (tgt := 624) hx hb dL_law_500 (by decide) (fun _ => ?_) (fun q => absurd rfl q)
      refine lv_iinc (v := nI (i + 5)) (lv' := [(3, .int (nI (i + 5))), (0, .ref b), (1, .ref (ax 0)), (2, .ref (am 0))]) hx hb dL_law_624 hl (k := 3) rfl (nI_add i 5) (by decide) rfl (fun ls hl => ?_)
      refine lv_goto (tgt := 38) hx hb dL_law_627 (by decide) ?_
      exact ih (i + 5) (by omega) (by omega) n va mk ct ps kn cx rd hG hR _ _ hP hD hS ls (lv_sub hl [1, 2, 3, 0] rfl)
    ·
      refine lv_tableIn (tgt := 505) hx hb dL_law_52 (by decide) (by decide) rfl (by decide) ?_
      refine lv_aload_n hx hb dL_law_505 rfl (lv_at hl 1 rfl) ?_
      refine lv_aload_n hx hb dL_law_506 rfl (lv_at hl 0 rfl) ?_
      refine lv_iload_n hx hb dL_law_507 rfl (lv_at hl 3 rfl) ?_
      refine lv_iconst (v := nI 1) hx hb dL_law_508 (by decide) ?_
      refine zr_iadd hx hb dL_law_509 ?_
      refine zr_sld hx hb hX hbl hbA hS (i := i + 1) (by omega) (by omega) dL_law_510 ?_
      refine lv_aload_n hx hb dL_law_511 rfl (lv_at hl 0 rfl) ?_
      refine lv_iload_n hx hb dL_law_512 rfl (lv_at hl 3 rfl) ?_
      refine lv_iconst (v := nI 2) hx hb dL_law_513 (by decide) ?_
      refine zr_iadd hx hb dL_law_514 ?_
      refine zr_sld hx hb hX hbl hbA hS (i := i + 2) (by omega) (by omega) dL_law_515 ?_
      refine lv_aload_n hx hb dL_law_516 rfl (lv_at hl 0 rfl) ?_
      refine lv_iload_n hx hb dL_law_517 rfl (lv_at hl 3 rfl) ?_
      refine lv_iconst (v := nI 3) hx hb dL_law_518 (by decide) ?_
      refine zr_iadd hx hb dL_law_519 ?_
      refine zr_sld hx hb hX hbl hbA hS (i := i + 3) (by omega) (by omega) dL_law_520 ?_
      refine vp_callSi (W.runV (As := [.int (xs (i + 1)), .int (xs (i + 2)), .int (xs (i + 3))]) (rest := []) ⟨hx, hb, hml, hown, hts⟩ (c_X0_sees l dC dI ax cI cJ cII cJJ S C n va mk ct ps kn cx hG (xs (i + 1)) (xs (i + 2)) (xs (i + 3))) (cwV 3 hts gL_law_X0_sees rfl rfl rfl (by decide +kernel) ⟨Nat.le_of_ble_eq_true rfl, Nat.le_of_ble_eq_true rfl⟩) ⟨xB_blind, va_recv hKx (zP_l hP) (ci := 0) (q0 := 0) rfl rfl, fun U hU hW => ⟨rfl, xB_at (zP_l hP) hKx hU hW⟩⟩ rfl rfl hl.1 rfl (lv_room (Nat.le_of_ble_eq_true rfl)) dL_law_521 ⟨Nat.le_of_ble_eq_true rfl, Nat.le_of_ble_eq_true rfl⟩) (fun r hq => ?_)
      subst hq
      refine lv_aload_n hx hb dL_law_524 rfl (lv_at hl 2 rfl) ?_
      refine lv_aload_n hx hb dL_law_525 rfl (lv_at hl 0 rfl) ?_
      refine lv_iload_n hx hb dL_law_526 rfl (lv_at hl 3 rfl) ?_
      refine lv_iconst (v := nI 1) hx hb dL_law_527 (by decide) ?_
      refine zr_iadd hx hb dL_law_528 ?_
      refine zr_sld hx hb hX hbl hbA hS (i := i + 1) (by omega) (by omega) dL_law_529 ?_
      refine lv_aload_n hx hb dL_law_530 rfl (lv_at hl 0 rfl) ?_
      refine lv_iload_n hx hb dL_law_531 rfl (lv_at hl 3 rfl) ?_
      refine lv_iconst (v := nI 2) hx hb dL_law_532 (by decide) ?_
      refine zr_iadd hx hb dL_law_533 ?_
      refine zr_sld hx hb hX hbl hbA hS (i := i + 2) (by omega) (by omega) dL_law_534 ?_
      refine lv_aload_n hx hb dL_law_535 rfl (lv_at hl 0 rfl) ?_
      refine lv_iload_n hx hb dL_law_536 rfl (lv_at hl 3 rfl) ?_
      refine lv_iconst (v := nI 3) hx hb dL_law_537 (by decide) ?_
      refine zr_iadd hx hb dL_law_538 ?_
      refine zr_sld hx hb hX hbl hbA hS (i := i + 3) (by omega) (by omega) dL_law_539 ?_
      refine vp_callSi (W.runV (As := [.int (xs (i + 1)), .int (xs (i + 2)), .int (xs (i + 3))]) (rest := [.int (aSees C n cx (xs (i + 1)) (xs (i + 2)) (xs (i + 3)))]) ⟨hx, hb, hml, hown, hts⟩ (c_X1_sees l dC dI am eI eJ S C n va mk ct ps kn cx rd hG (xs (i + 1)) (xs (i + 2)) (xs (i + 3))) (cwV 3 hts gL_law_X1_sees rfl rfl rfl (by decide +kernel) ⟨Nat.le_of_ble_eq_true rfl, Nat.le_of_ble_eq_true rfl⟩) ⟨mB_blind, va_recv hKm (zP_r hP) (ci := 1) (q0 := 0) rfl rfl, fun U hU hW => ⟨rfl, mB_at (zP_r hP) hKm hU hW⟩⟩ rfl rfl hl.1 rfl (lv_room (Nat.le_of_ble_eq_true rfl)) dL_law_540 ⟨Nat.le_of_ble_eq_true rfl, Nat.le_of_ble_eq_true rfl⟩) (fun r hq => ?_)
      subst hq
      refine lv_icmp_eq (tgt := 624) hx hb dL_law_543 (by decide) (fun _ => ?_) (fun q => absurd rfl q)
      refine lv_iinc (v := nI (i + 5)) (lv' := [(3, .int (nI (i + 5))), (0, .ref b), (1, .ref (ax 0)), (2, .ref (am 0))]) hx hb dL_law_624 hl (k := 3) rfl (nI_add i 5) (by decide) rfl (fun ls hl => ?_)
      refine lv_goto (tgt := 38) hx hb dL_law_627 (by decide) ?_
      exact ih (i + 5) (by omega) (by omega) n va mk ct ps kn cx rd hG hR _ _ hP hD hS ls (lv_sub hl [1, 2, 3, 0] rfl)
    ·
      refine lv_tableIn (tgt := 548) hx hb dL_law_52 (by decide) (by decide) rfl (by decide) ?_
      refine lv_aload_n hx hb dL_law_548 rfl (lv_at hl 1 rfl) ?_
      refine lv_aload_n hx hb dL_law_549 rfl (lv_at hl 0 rfl) ?_
      refine lv_iload_n hx hb dL_law_550 rfl (lv_at hl 3 rfl) ?_
      refine lv_iconst (v := nI 1) hx hb dL_law_551 (by decide) ?_
      refine zr_iadd hx hb dL_law_552 ?_
      refine zr_sld hx hb hX hbl hbA hS (i := i + 1) (by omega) (by omega) dL_law_553 ?_
      refine lv_aload_n hx hb dL_law_554 rfl (lv_at hl 0 rfl) ?_
      refine lv_iload_n hx hb dL_law_555 rfl (lv_at hl 3 rfl) ?_
      refine lv_iconst (v := nI 2) hx hb dL_law_556 (by decide) ?_
      refine zr_iadd hx hb dL_law_557 ?_
      refine zr_sld hx hb hX hbl hbA hS (i := i + 2) (by omega) (by omega) dL_law_558 ?_
      refine lv_aload_n hx hb dL_law_559 rfl (lv_at hl 0 rfl) ?_
      refine lv_iload_n hx hb dL_law_560 rfl (lv_at hl 3 rfl) ?_
      refine lv_iconst (v := nI 3) hx hb dL_law_561 (by decide) ?_
      refine zr_iadd hx hb dL_law_562 ?_
      refine zr_sld hx hb hX hbl hbA hS (i := i + 3) (by omega) (by omega) dL_law_563 ?_
      refine vp_callSi (W.runV (As := [.int (xs (i + 1)), .int (xs (i + 2)), .int (xs (i + 3))]) (rest := []) ⟨hx, hb, hml, hown, hts⟩ (c_X0_same l dC dI ax cI cJ cII cJJ S C n va mk ct ps kn cx hG (xs (i + 1)) (xs (i + 2)) (xs (i + 3))) (cwV 3 hts gL_law_X0_same rfl rfl rfl (by decide +kernel) ⟨Nat.le_of_ble_eq_true rfl, Nat.le_of_ble_eq_true rfl⟩) ⟨xB_blind, va_recv hKx (zP_l hP) (ci := 0) (q0 := 0) rfl rfl, fun U hU hW => ⟨rfl, xB_at (zP_l hP) hKx hU hW⟩⟩ rfl rfl hl.1 rfl (lv_room (Nat.le_of_ble_eq_true rfl)) dL_law_564 ⟨Nat.le_of_ble_eq_true rfl, Nat.le_of_ble_eq_true rfl⟩) (fun r hq => ?_)
      subst hq
      refine lv_aload_n hx hb dL_law_567 rfl (lv_at hl 2 rfl) ?_
      refine lv_aload_n hx hb dL_law_568 rfl (lv_at hl 0 rfl) ?_
      refine lv_iload_n hx hb dL_law_569 rfl (lv_at hl 3 rfl) ?_
      refine lv_iconst (v := nI 1) hx hb dL_law_570 (by decide) ?_
      refine zr_iadd hx hb dL_law_571 ?_
      refine zr_sld hx hb hX hbl hbA hS (i := i + 1) (by omega) (by omega) dL_law_572 ?_
      refine lv_aload_n hx hb dL_law_573 rfl (lv_at hl 0 rfl) ?_
      refine lv_iload_n hx hb dL_law_574 rfl (lv_at hl 3 rfl) ?_
      refine lv_iconst (v := nI 2) hx hb dL_law_575 (by decide) ?_
      refine zr_iadd hx hb dL_law_576 ?_
      refine zr_sld hx hb hX hbl hbA hS (i := i + 2) (by omega) (by omega) dL_law_577 ?_
      refine lv_aload_n hx hb dL_law_578 rfl (lv_at hl 0 rfl) ?_
      refine lv_iload_n hx hb dL_law_579 rfl (lv_at hl 3 rfl) ?_
      refine lv_iconst (v := nI 3) hx hb dL_law_580 (by decide) ?_
      refine zr_iadd hx hb dL_law_581 ?_
      refine zr_sld hx hb hX hbl hbA hS (i := i + 3) (by omega) (by omega) dL_law_582 ?_
      refine vp_callSi (W.runV (As := [.int (xs (i + 1)), .int (xs (i + 2)), .int (xs (i + 3))]) (rest := [.int (aSame S kn (xs (i + 1)) (xs (i + 2)) (xs (i + 3)))]) ⟨hx, hb, hml, hown, hts⟩ (c_X1_same l dC dI am eI eJ S C n va mk ct ps kn cx rd hG (xs (i + 1)) (xs (i + 2)) (xs (i + 3))) (cwV 3 hts gL_law_X1_same rfl rfl rfl (by decide +kernel) ⟨Nat.le_of_ble_eq_true rfl, Nat.le_of_ble_eq_true rfl⟩) ⟨mB_blind, va_recv hKm (zP_r hP) (ci := 1) (q0 := 0) rfl rfl, fun U hU hW => ⟨rfl, mB_at (zP_r hP) hKm hU hW⟩⟩ rfl rfl hl.1 rfl (lv_room (Nat.le_of_ble_eq_true rfl)) dL_law_583 ⟨Nat.le_of_ble_eq_true rfl, Nat.le_of_ble_eq_true rfl⟩) (fun r hq => ?_)
      subst hq
      refine lv_icmp_eq (tgt := 624) hx hb dL_law_586 (by decide) (fun _ => ?_) (fun q => absurd rfl q)
      refine lv_iinc (v := nI (i + 5)) (lv' := [(3, .int (nI (i + 5))), (0, .ref b), (1, .ref (ax 0)), (2, .ref (am 0))]) hx hb dL_law_624 hl (k := 3) rfl (nI_add i 5) (by decide) rfl (fun ls hl => ?_)
      refine lv_goto (tgt := 38) hx hb dL_law_627 (by decide) ?_
      exact ih (i + 5) (by omega) (by omega) n va mk ct ps kn cx rd hG hR _ _ hP hD hS ls (lv_sub hl [1, 2, 3, 0] rfl)
    ·
      refine lv_tableIn (tgt := 591) hx hb dL_law_52 (by decide) (by decide) rfl (by decide) ?_
      refine lv_aload_n hx hb dL_law_591 rfl (lv_at hl 1 rfl) ?_
      refine lv_aload_n hx hb dL_law_592 rfl (lv_at hl 0 rfl) ?_
      refine lv_iload_n hx hb dL_law_593 rfl (lv_at hl 3 rfl) ?_
      refine lv_iconst (v := nI 1) hx hb dL_law_594 (by decide) ?_
      refine zr_iadd hx hb dL_law_595 ?_
      refine zr_sld hx hb hX hbl hbA hS (i := i + 1) (by omega) (by omega) dL_law_596 ?_
      refine lv_aload_n hx hb dL_law_597 rfl (lv_at hl 0 rfl) ?_
      refine lv_iload_n hx hb dL_law_598 rfl (lv_at hl 3 rfl) ?_
      refine lv_iconst (v := nI 2) hx hb dL_law_599 (by decide) ?_
      refine zr_iadd hx hb dL_law_600 ?_
      refine zr_sld hx hb hX hbl hbA hS (i := i + 2) (by omega) (by omega) dL_law_601 ?_
      refine vp_callSi (W.runV (As := [.int (xs (i + 1)), .int (xs (i + 2))]) (rest := []) ⟨hx, hb, hml, hown, hts⟩ (c_X0_weight l dC dI ax cI cJ cII cJJ S C n va mk ct ps kn cx hG (xs (i + 1)) (xs (i + 2))) (cwV 2 hts gL_law_X0_weight rfl rfl rfl (by decide +kernel) ⟨Nat.le_of_ble_eq_true rfl, Nat.le_of_ble_eq_true rfl⟩) ⟨xB_blind, va_recv hKx (zP_l hP) (ci := 0) (q0 := 0) rfl rfl, fun U hU hW => ⟨rfl, xB_at (zP_l hP) hKx hU hW⟩⟩ rfl rfl hl.1 rfl (lv_room (Nat.le_of_ble_eq_true rfl)) dL_law_602 ⟨Nat.le_of_ble_eq_true rfl, Nat.le_of_ble_eq_true rfl⟩) (fun r hq => ?_)
      subst hq
      refine lv_aload_n hx hb dL_law_605 rfl (lv_at hl 2 rfl) ?_
      refine lv_aload_n hx hb dL_law_606 rfl (lv_at hl 0 rfl) ?_
      refine lv_iload_n hx hb dL_law_607 rfl (lv_at hl 3 rfl) ?_
      refine lv_iconst (v := nI 1) hx hb dL_law_608 (by decide) ?_
      refine zr_iadd hx hb dL_law_609 ?_
      refine zr_sld hx hb hX hbl hbA hS (i := i + 1) (by omega) (by omega) dL_law_610 ?_
      refine lv_aload_n hx hb dL_law_611 rfl (lv_at hl 0 rfl) ?_
      refine lv_iload_n hx hb dL_law_612 rfl (lv_at hl 3 rfl) ?_
      refine lv_iconst (v := nI 2) hx hb dL_law_613 (by decide) ?_
      refine zr_iadd hx hb dL_law_614 ?_
      refine zr_sld hx hb hX hbl hbA hS (i := i + 2) (by omega) (by omega) dL_law_615 ?_
      refine vp_callSi (W.runV (As := [.int (xs (i + 1)), .int (xs (i + 2))]) (rest := [.int (aWeight S n mk ct ps kn (xs (i + 1)) (xs (i + 2)))]) ⟨hx, hb, hml, hown, hts⟩ (c_X1_weight l dC dI am eI eJ S C n va mk ct ps kn cx rd hG (xs (i + 1)) (xs (i + 2))) (cwV 2 hts gL_law_X1_weight rfl rfl rfl (by decide +kernel) ⟨Nat.le_of_ble_eq_true rfl, Nat.le_of_ble_eq_true rfl⟩) ⟨mB_blind, va_recv hKm (zP_r hP) (ci := 1) (q0 := 0) rfl rfl, fun U hU hW => ⟨rfl, mB_at (zP_r hP) hKm hU hW⟩⟩ rfl rfl hl.1 rfl (lv_room (Nat.le_of_ble_eq_true rfl)) dL_law_616 ⟨Nat.le_of_ble_eq_true rfl, Nat.le_of_ble_eq_true rfl⟩) (fun r hq => ?_)
      subst hq
      refine lv_icmp_eq (tgt := 624) hx hb dL_law_619 (by decide) (fun _ => ?_) (fun q => absurd rfl q)
      refine lv_iinc (v := nI (i + 5)) (lv' := [(3, .int (nI (i + 5))), (0, .ref b), (1, .ref (ax 0)), (2, .ref (am 0))]) hx hb dL_law_624 hl (k := 3) rfl (nI_add i 5) (by decide) rfl (fun ls hl => ?_)
      refine lv_goto (tgt := 38) hx hb dL_law_627 (by decide) ?_
      exact ih (i + 5) (by omega) (by omega) n va mk ct ps kn cx rd hG hR _ _ hP hD hS ls (lv_sub hl [1, 2, 3, 0] rfl)
    ·
      refine lv_tableOut (tgt := 624) hx hb dL_law_52 (Or.inr (by rw [nI_toInt (by omega)]; omega)) (by decide) ?_
      refine lv_iinc (v := nI (i + 5)) (lv' := [(3, .int (nI (i + 5))), (0, .ref b), (1, .ref (ax 0)), (2, .ref (am 0))]) hx hb dL_law_624 hl (k := 3) rfl (nI_add i 5) (by decide) rfl (fun ls hl => ?_)
      refine lv_goto (tgt := 38) hx hb dL_law_627 (by decide) ?_
      exact ih (i + 5) (by omega) (by omega) n va mk ct ps kn cx rd hG hR _ _ hP hD hS ls (lv_sub hl [1, 2, 3, 0] rfl)
