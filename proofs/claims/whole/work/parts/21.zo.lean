theorem zo_of {ad : Nat → Nat} {b : Nat} {r : Nat → Nat} (h : ∀ i, i < 3 → r i = ad (b + i)) : (fun i => if i < 3 then some (r i) else none) = zo ad b := by
  funext i
  unfold zo
  by_cases hi : i < 3
  · rw [if_pos hi, if_pos hi, h i hi]
  · rw [if_neg hi, if_neg hi]
theorem zcl {own a b : String} {i : Nat} {args : Array Value} {s : State} (e : a = b) (h : (Cond.classLink own i b).before args s = true) : (Cond.classLink own i a).before args s = true := e ▸ h
theorem zK_a {s : State} {D : va_G} {cl : List vw_C} {t1 : List (ClassId × FieldType)} {cA cB : ClassId} {t : FieldType} (h1 : va_K D cl (t1 ++ [(cA, .array t)]) s) (h2 : va_K D cl (t1 ++ [(cB, .array t)]) s) : cA = cB := by
  have a1 := (h1.2 t1.length (cA, .array t) (by rw [List.getElem?_append_right (Nat.le_refl _), Nat.sub_self]; rfl)).2
  have a2 := (h2.2 t1.length (cB, .array t) (by rw [List.getElem?_append_right (Nat.le_refl _), Nat.sub_self]; rfl)).2
  exact Option.some.inj ((show s.vm.findClass ("[" ++ (FieldType.array t).toString) = some cA from a1).symm.trans (show s.vm.findClass ("[" ++ (FieldType.array t).toString) = some cB from a2))
