/-! a writing method's start and end -/
def xC (dC : Nat → ClassId) (dI : Nat → Nat → Nat) (ad : Nat → Nat) (cI cJ cII cJJ : ClassId) (S C : Nat) (n : Nat → Nat) (va : Nat → Nat → Int32) (mk ct ps kn cx : Nat → Nat → Nat) (sz : Nat) (U : State) : Prop := U.heap.size = sz ∧ va_P (dC, dI) vwCl (xw ad cI cJ cII cJJ S C n va mk ct ps kn cx) U.heap ∧ va_K (dC, dI) vwCl (zT cI cJ cII cJJ) U ∧ va_D (fun _ => True) (xw ad cI cJ cII cJJ S C n va mk ct ps kn cx)
def xE (A : Nat → Prop) (dC : Nat → ClassId) (dI : Nat → Nat → Nat) (ad : Nat → Nat) (cI cJ cII cJJ : ClassId) (S C : Nat) (n : Nat → Nat) (va : Nat → Nat → Int32) (mk ct ps kn cx : Nat → Nat → Nat) (t : State) : Prop := va_P (dC, dI) vwCl (xw ad cI cJ cII cJJ S C n va mk ct ps kn cx) t.heap ∧ va_K (dC, dI) vwCl (zT cI cJ cII cJJ) t ∧ va_D A (xw ad cI cJ cII cJJ S C n va mk ct ps kn cx)
def mC (dC : Nat → ClassId) (dI : Nat → Nat → Nat) (ad : Nat → Nat) (cI cJ : ClassId) (S C : Nat) (n : Nat → Nat) (va : Nat → Nat → Int32) (mk ct ps kn cx rd : Nat → Nat → Nat) (sz : Nat) (U : State) : Prop := U.heap.size = sz ∧ va_P (dC, dI) vwCl (mw ad cI cJ S C n va mk ct ps kn cx rd) U.heap ∧ va_K (dC, dI) vwCl [(cI, .int), (cJ, .long)] U ∧ va_D (fun _ => True) (mw ad cI cJ S C n va mk ct ps kn cx rd)
def mE (A : Nat → Prop) (dC : Nat → ClassId) (dI : Nat → Nat → Nat) (ad : Nat → Nat) (cI cJ : ClassId) (S C : Nat) (n : Nat → Nat) (va : Nat → Nat → Int32) (mk ct ps kn cx rd : Nat → Nat → Nat) (t : State) : Prop := va_P (dC, dI) vwCl (mw ad cI cJ S C n va mk ct ps kn cx rd) t.heap ∧ va_K (dC, dI) vwCl [(cI, .int), (cJ, .long)] t ∧ va_D A (mw ad cI cJ S C n va mk ct ps kn cx rd)
theorem xC_blind {av : List Value} {dC : Nat → ClassId} {dI : Nat → Nat → Nat} {ad : Nat → Nat} {cI cJ cII cJJ : ClassId} {S C : Nat} {n : Nat → Nat} {va : Nat → Nat → Int32} {mk ct ps kn cx : Nat → Nat → Nat} {sz : Nat} : FrameBlind (va_Pc av (xC dC dI ad cI cJ cII cJJ S C n va mk ct ps kn cx sz)) := fun a U g k q => by
  obtain ⟨q0, q1, qP, qK, qD⟩ := q
  exact ⟨q0, q1, qP, va_K.moved (u := U) (U := U.calling g k a) (Vm.Alike.refl U.vm) qK, qD⟩
theorem mC_blind {av : List Value} {dC : Nat → ClassId} {dI : Nat → Nat → Nat} {ad : Nat → Nat} {cI cJ : ClassId} {S C : Nat} {n : Nat → Nat} {va : Nat → Nat → Int32} {mk ct ps kn cx rd : Nat → Nat → Nat} {sz : Nat} : FrameBlind (va_Pc av (mC dC dI ad cI cJ S C n va mk ct ps kn cx rd sz)) := fun a U g k q => by
  obtain ⟨q0, q1, qP, qK, qD⟩ := q
  exact ⟨q0, q1, qP, va_K.moved (u := U) (U := U.calling g k a) (Vm.Alike.refl U.vm) qK, qD⟩
theorem zVec_congr {ct : Nat → Nat} {h1 h2 : Nat → Bool} : ∀ {i : Nat}, (∀ w, w < i → h1 w = h2 w) → zVec ct h1 i = zVec ct h2 i
  | 0, _ => rfl
  | i + 1, h => by
    unfold zVec
    rw [h i (by omega), zVec_congr (i := i) (fun w hw => h w (by omega))]
/-- a server's own greatest counter is how many writes it made -/
theorem zVec_own {n sv set : Nat} {mk ct : Nat → Nat} (h1 : ∀ w, w < n → ct w = 1 + cn (fun v => decide (mk v = mk w)) w) (h2 : ∀ w, w < n → mk w = sv → set.testBit w = true) : ∀ i, i ≤ n → zVec ct (zHit mk set sv) i = cn (fun v => decide (mk v = sv)) i
  | 0, _ => rfl
  | i + 1, hi => by
    have ih := zVec_own h1 h2 i (by omega)
    by_cases h : mk i = sv
    · rw [zVec_t (zHit_t h (h2 i (by omega) h)), ih, cn_t (f := fun v => decide (mk v = sv)) (i := i) (decide_eq_true h), h1 i (by omega), h, if_pos (by omega), Nat.add_comm]
    · rw [zVec_f (zHit_n h), ih, cn_f (f := fun v => decide (mk v = sv)) (i := i) (decide_eq_false h)]
theorem zVec_put {S C : Nat} {n : Nat → Nat} {mk ct ps kn cx : Nat → Nat → Nat} (hG : zG S C n mk ct ps kn cx) (k sv : Nat) : zVec (ct k) (zHit (zU mk k (n k) sv k) (kn k sv) sv) (n k) + 1 = 1 + cn (fun v => decide (mk k v = sv)) (n k) := by
  obtain ⟨-, -, -, -, -, -, -, hcn, hkw⟩ := hG
  rw [zVec_congr (h2 := zHit (mk k) (kn k sv) sv) (fun w hw => by unfold zHit; rw [zU_k, zu_n _ _ (Nat.ne_of_lt hw)]), zVec_own (hcn k) (fun w hw e => by rw [← e]; exact hkw k w hw) (n k) (Nat.le_refl _), Nat.add_comm]
