section ZP
variable {p : Program} {l : Launch} {e : Env} {R : Room} {s : State} {m : MethodId} {args : Array Value} {below : List Frame} {meth : Method} {c : Code} {H : Heap} {locs : List Loc} {cells slots : Nat} {Q : State → Prop}
variable {cc : ByteArray} {pc : Nat} {ls : Array Slot} {rest : List Value}
/-- x >= 1 && x <= 4 ? x : 1 -/
theorem zr_par (hexec : p.tables.exec = Jvm.exec) (hb : c.code = cc) {k : Fin 4} {i : Nat} {x : Int32} (hi : (k : Nat) = i) (hl : ls[i]? = some (.val (.int x)))
    (d0 : decode cc pc = .ok (.iload_n k, 1)) (d1 : decode cc (pc + 1) = .ok (.iconst 1, 1)) (d2 : decode cc (pc + 1 + 1) = .ok (.if_icmp .lt 12, 3)) (d3 : decode cc (pc + 1 + 1 + 3) = .ok (.iload_n k, 1)) (d4 : decode cc (pc + 1 + 1 + 3 + 1) = .ok (.iconst 4, 1)) (d5 : decode cc (pc + 1 + 1 + 3 + 1 + 1) = .ok (.if_icmp .gt 7, 3)) (d6 : decode cc (pc + 1 + 1 + 3 + 1 + 1 + 3) = .ok (.iload_n k, 1)) (d7 : decode cc (pc + 1 + 1 + 3 + 1 + 1 + 3 + 1) = .ok (.goto 4, 3)) (d8 : decode cc (pc + 14) = .ok (.iconst 1, 1))
    (kk : W p l e R s m args below meth c H locs cells slots Q (F0 m (pc + 15) ls (.int (nI (zP x)) :: rest))) : W p l e R s m args below meth c H locs cells slots Q (F0 m pc ls rest) := by
  refine lv_iload_n hexec hb d0 hi hl ?_
  refine lv_iconst (v := 1) hexec hb d1 (by decide) ?_
  refine lv_icmp_lt (tgt := pc + 14) hexec hb d2 (by omega) (fun h => ?_) (fun h1 => ?_)
  · refine lv_iconst (v := 1) hexec hb d8 (by decide) ?_
    rw [zP_lo h] at kk
    exact kk
  refine lv_iload_n hexec hb d3 hi hl ?_
  refine lv_iconst (v := 4) hexec hb d4 (by decide) ?_
  refine lv_icmp_gt (tgt := pc + 14) hexec hb d5 (by omega) (fun h => ?_) (fun h2 => ?_)
  · refine lv_iconst (v := 1) hexec hb d8 (by decide) ?_
    rw [zP_hi h] at kk
    exact kk
  refine lv_iload_n hexec hb d6 hi hl ?_
  refine lv_goto (tgt := pc + 15) hexec hb d7 (by omega) ?_
  rw [← zP_ok h1 h2] at kk
  exact kk
end ZP
/-- the class of arrays of numbers, by its word -/
theorem zrc_of {args : Array Value} {s : State} {D : va_G} {cl : List vw_C} {tys : List (ClassId × FieldType)} (hK : va_K D cl tys s) (h1 : (Cond.arrayClass .int).before args s = true) (h2 : (Cond.arrayClass .long).before args s = true) : ∃ cI cJ : ClassId, va_K D cl [(cI, .int), (cJ, .long)] s := by
  obtain ⟨c, k, comp, a1, a2, a3⟩ := Cond.arrayClass_spec h1
  obtain ⟨c2, k2, comp2, b1, b2, b3⟩ := Cond.arrayClass_spec h2
  refine ⟨c, c2, hK.1, fun i q hq => ?_⟩
  match i, hq with
  | 0, hq => cases hq; exact ⟨fun N z => ⟨(fun q hq => by cases hq), k, a2, comp, a3⟩, a1⟩
  | 1, hq => cases hq; exact ⟨fun N z => ⟨(fun q hq => by cases hq), k2, b2, comp2, b3⟩, b1⟩
  | i + 2, hq => simp at hq
/-- a new array of ints has the class of arrays of ints -/
theorem zK_i {s : State} {D : va_G} {cl : List vw_C} {cI cJ cA : ClassId} (h : va_K D cl ([(cI, .int), (cJ, .long)] ++ [(cA, .int)]) s) : cA = cI :=
  Option.some.inj ((show s.vm.findClass ("[" ++ FieldType.int.toString) = some cA from (h.2 2 _ rfl).2).symm.trans (show s.vm.findClass ("[" ++ FieldType.int.toString) = some cI from (h.2 0 _ rfl).2))
theorem zK_l {s : State} {D : va_G} {cl : List vw_C} {cI cJ cA : ClassId} (h : va_K D cl ([(cI, .int), (cJ, .long)] ++ [(cA, .long)]) s) : cA = cJ :=
  Option.some.inj ((show s.vm.findClass ("[" ++ FieldType.long.toString) = some cA from (h.2 2 _ rfl).2).symm.trans (show s.vm.findClass ("[" ++ FieldType.long.toString) = some cJ from (h.2 1 _ rfl).2))
