/-! the state, as numbers: n(key) writes; va, mk, ct, ps of a write: its value, its server, its counter, its past; kn(key, server), cx(key, client): sets, as numbers' bits -/
def zu (f : Nat → Nat) (j v : Nat) : Nat → Nat := fun b => if b = j then v else f b
def zU (f : Nat → Nat → Nat) (k j v : Nat) : Nat → Nat → Nat := fun a => if a = k then zu (f a) j v else f a
def zV (f : Nat → Nat → Int32) (k j : Nat) (v : Int32) : Nat → Nat → Int32 := fun a => if a = k then upd (f a) j v else f a
theorem zu_s (f : Nat → Nat) (j v : Nat) : zu f j v j = v := if_pos rfl
theorem zu_n (f : Nat → Nat) {j b : Nat} (v : Nat) (h : b ≠ j) : zu f j v b = f b := if_neg h
theorem zU_s (f : Nat → Nat → Nat) (k j v : Nat) : zU f k j v k j = v := by simp [zU, zu]
theorem zU_k (f : Nat → Nat → Nat) (k j v : Nat) : zU f k j v k = zu (f k) j v := if_pos rfl
theorem zU_n (f : Nat → Nat → Nat) {k a : Nat} (j v : Nat) (h : a ≠ k) : zU f k j v a = f a := if_neg h
theorem zU_nj (f : Nat → Nat → Nat) {k a j b : Nat} (v : Nat) (h : a ≠ k ∨ b ≠ j) : zU f k j v a b = f a b := by
  unfold zU zu
  rcases h with h | h
  · rw [if_neg h]
  · by_cases q : a = k
    · rw [if_pos q, if_neg h]
    · rw [if_neg q]
/-- the writes that are in the past of one of the set, among the first i -/
def zRep (ps : Nat → Nat) (set : Nat) : Nat → Nat
  | 0 => 0
  | i + 1 => if set.testBit i then zRep ps set i ||| ps i else zRep ps set i
def zNew (n : Nat) (ps : Nat → Nat) (set : Nat) : Nat := set &&& (zRep ps set n ^^^ 18446744073709551615)
/-- the search for the i-th hit of a server, from write w on, d writes left -/
def zIn (hit : Nat → Bool) (i : Int32) : Nat → Nat → Nat → Nat ⊕ Nat
  | 0, _, seen => .inr seen
  | d + 1, w, seen => if hit w then (if nI seen = i then .inl w else zIn hit i d (w + 1) (seen + 1)) else zIn hit i d (w + 1) seen
def zOut (hit : Nat → Nat → Bool) (n : Nat) (i : Int32) : Nat → Nat → Nat → Option Nat
  | 0, _, _ => none
  | d + 1, s, seen => match zIn (hit s) i n 0 seen with
    | .inl w => some w
    | .inr seen' => zOut hit n i d (s + 1) seen'
def zHit (mk : Nat → Nat) (set : Nat) (s w : Nat) : Bool := decide (mk w = s) && set.testBit w
def zAt (S n : Nat) (mk : Nat → Nat) (set : Nat) (i : Int32) : Option Nat := zOut (zHit mk set) n i S 0 0
def zW (o : Option Nat) : Int32 := match o with
  | none => -1
  | some w => nI w
theorem zIn_lt {hit : Nat → Bool} {i : Int32} : ∀ (d w seen : Nat) {v : Nat}, zIn hit i d w seen = .inl v → v < w + d
  | 0, w, seen, v, h => by cases h
  | d + 1, w, seen, v, h => by
    unfold zIn at h
    split at h
    · split at h
      · cases h; omega
      · have := zIn_lt d (w + 1) (seen + 1) h; omega
    · have := zIn_lt d (w + 1) seen h; omega
theorem zIn_le {hit : Nat → Bool} {i : Int32} : ∀ (d w seen : Nat) {v : Nat}, zIn hit i d w seen = .inr v → v ≤ seen + d
  | 0, w, seen, v, h => by cases h; omega
  | d + 1, w, seen, v, h => by
    unfold zIn at h
    split at h
    · split at h
      · cases h
      · have := zIn_le d (w + 1) (seen + 1) h; omega
    · have := zIn_le d (w + 1) seen h; omega
theorem zOut_lt {hit : Nat → Nat → Bool} {n : Nat} {i : Int32} : ∀ (d s seen : Nat) {v : Nat}, zOut hit n i d s seen = some v → v < n
  | 0, s, seen, v, h => by cases h
  | d + 1, s, seen, v, h => by
    unfold zOut at h
    split at h
    · rename_i w hw
      cases h
      have := zIn_lt n 0 seen hw
      omega
    · exact zOut_lt d (s + 1) _ h
/-- the greatest counter among the first i writes that hit -/
def zVec (ct : Nat → Nat) (hit : Nat → Bool) : Nat → Nat
  | 0 => 0
  | i + 1 => if hit i then (if zVec ct hit i < ct i then ct i else zVec ct hit i) else zVec ct hit i
theorem zVec_le {ct : Nat → Nat} {hit : Nat → Bool} {M : Nat} (h : ∀ w, ct w ≤ M) : ∀ i, zVec ct hit i ≤ M
  | 0 => Nat.zero_le _
  | i + 1 => by
    have := zVec_le (hit := hit) h i
    have := h i
    unfold zVec
    split
    · split <;> omega
    · omega
def zSize (set : Nat) : Nat := cn (fun i => set.testBit i) 40
/-- an argument that names one of N things -/
def zD (N : Nat) (x : Int32) : Option Nat := if 0 ≤ x.toInt ∧ x.toInt < (N : Int) then some x.toInt.toNat else none
theorem zD_s {N j : Nat} (h : j < N) (hN : N < 2 ^ 31) : zD N (nI j) = some j := by
  unfold zD
  rw [nI_toInt (by omega), if_pos (by omega)]
  rfl
theorem zD_neg {N : Nat} {x : Int32} (h : x < 0) : zD N x = none := by
  unfold zD
  have : x.toInt < 0 := by simpa using Int32.lt_iff_toInt_lt.mp h
  rw [if_neg (by omega)]
theorem zD_big {N : Nat} {x : Int32} (hN : N < 2 ^ 31) (h : nI N ≤ x) : zD N x = none := by
  unfold zD
  have := Int32.le_iff_toInt_le.mp h
  rw [nI_toInt hN] at this
  rw [if_neg (by omega)]
theorem zD_in {N : Nat} {x : Int32} (hN : N < 2 ^ 31) (h0 : ¬ x < 0) (h : ¬ nI N ≤ x) : ∃ j, j < N ∧ x = nI j ∧ zD N x = some j := by
  rcases pk_ix x hN with q | q | ⟨j, hj, rfl⟩
  · exact absurd q h0
  · exact absurd q h
  · exact ⟨j, hj, rfl, zD_s hj hN⟩
/-- what isServer and its like answer -/
def zIs (N : Nat) (x r : Int32) : Prop := (r = 1 ∧ ∃ j, j < N ∧ x = nI j ∧ zD N x = some j) ∨ (r = 0 ∧ zD N x = none)
def zq2 {α : Type} (a b : Option Nat) (d : α) (f : Nat → Nat → α) : α := match a with
  | none => d
  | some x => match b with
    | none => d
    | some y => f x y
def zq3 {α : Type} (a b c : Option Nat) (d : α) (f : Nat → Nat → Nat → α) : α := match a with
  | none => d
  | some x => match b with
    | none => d
    | some y => match c with
      | none => d
      | some z => f x y z
theorem zq2_1 {α : Type} {a b : Option Nat} {d : α} {f : Nat → Nat → α} (h : a = none) : zq2 a b d f = d := by subst h; rfl
theorem zq2_2 {α : Type} {a b : Option Nat} {d : α} {f : Nat → Nat → α} (h : b = none) : zq2 a b d f = d := by subst h; cases a <;> rfl
theorem zq2_s {α : Type} {a b : Option Nat} {d : α} {f : Nat → Nat → α} {x y : Nat} (h1 : a = some x) (h2 : b = some y) : zq2 a b d f = f x y := by subst h1; subst h2; rfl
theorem zq3_1 {α : Type} {a b c : Option Nat} {d : α} {f : Nat → Nat → Nat → α} (h : a = none) : zq3 a b c d f = d := by subst h; rfl
theorem zq3_2 {α : Type} {a b c : Option Nat} {d : α} {f : Nat → Nat → Nat → α} (h : b = none) : zq3 a b c d f = d := by subst h; cases a <;> rfl
theorem zq3_3 {α : Type} {a b c : Option Nat} {d : α} {f : Nat → Nat → Nat → α} (h : c = none) : zq3 a b c d f = d := by subst h; cases a <;> cases b <;> rfl
theorem zq3_s {α : Type} {a b c : Option Nat} {d : α} {f : Nat → Nat → Nat → α} {x y z : Nat} (h1 : a = some x) (h2 : b = some y) (h3 : c = some z) : zq3 a b c d f = f x y z := by subst h1; subst h2; subst h3; rfl
/-- how many servers or clients -/
def zP (x : Int32) : Nat := if 1 ≤ x.toInt ∧ x.toInt ≤ 4 then x.toInt.toNat else 1
theorem zP_in (x : Int32) : 1 ≤ zP x ∧ zP x ≤ 4 := by
  unfold zP
  split <;> omega
theorem zP_ok {x : Int32} (h1 : ¬ x < 1) (h2 : ¬ 4 < x) : x = nI (zP x) := by
  have a1 : ¬ x.toInt < 1 := fun q => h1 (Int32.lt_iff_toInt_lt.mpr q)
  have a2 : ¬ 4 < x.toInt := fun q => h2 (Int32.lt_iff_toInt_lt.mpr q)
  unfold zP
  rw [if_pos (by omega)]
  apply Int32.toInt_inj.mp
  rw [nI_toInt (by omega)]
  omega
theorem zP_lo {x : Int32} (h : x < 1) : zP x = 1 := by
  have a1 : x.toInt < 1 := Int32.lt_iff_toInt_lt.mp h
  unfold zP
  rw [if_neg (by omega)]
theorem zP_hi {x : Int32} (h : 4 < x) : zP x = 1 := by
  have a1 : 4 < x.toInt := Int32.lt_iff_toInt_lt.mp h
  unfold zP
  rw [if_neg (by omega)]
/-- one of a write's numbers -/
def zDet (what v : Int32) (mk ct w : Nat) : Int64 := if what = 0 then v.toInt64 else if what = 1 then (nI mk).toInt64 else if what = 2 then (nI ct).toInt64 else if what = 3 then (nI w).toInt64 else -9223372036854775808
/-- what always holds of a state -/
def zG (S C : Nat) (n : Nat → Nat) (mk ct ps kn cx : Nat → Nat → Nat) : Prop :=
  (1 ≤ S ∧ S ≤ 4 ∧ 1 ≤ C ∧ C ≤ 4) ∧ (∀ k, n k ≤ 40) ∧ (∀ k w, w < n k → mk k w < S) ∧ (∀ k w, ct k w ≤ 40) ∧ (∀ k w, ps k w < 2 ^ 40) ∧ (∀ k s, kn k s < 2 ^ n k) ∧ (∀ k c, cx k c < 2 ^ n k) ∧
  (∀ k w, w < n k → ct k w = 1 + cn (fun v => decide (mk k v = mk k w)) w) ∧ (∀ k w, w < n k → (kn k (mk k w)).testBit w = true)
theorem z40 {x m : Nat} (h : x < 2 ^ m) (hm : m ≤ 40) : x < 2 ^ 40 := Nat.lt_of_lt_of_le h (Nat.pow_le_pow_right (by decide) hm)
/-! the class's cells -/
abbrev zT (cI cJ cII cJJ : ClassId) : List (ClassId × FieldType) := [(cI, .int), (cJ, .long), (cII, .array .int), (cJJ, .array .long)]
def zo (ad : Nat → Nat) (b : Nat) : Nat → Option Nat := fun i => if i < 3 then some (ad (b + i)) else none
theorem zo_at (ad : Nat → Nat) (b : Nat) {i : Nat} (h : i < 3) : zo ad b i = some (ad (b + i)) := if_pos h
def xw (ad : Nat → Nat) (cI cJ cII cJJ : ClassId) (S C : Nat) (n : Nat → Nat) (va : Nat → Nat → Int32) (mk ct ps kn cx : Nat → Nat → Nat) : va_W :=
  [(ad 0, .inr (0, [.int (nI S), .int (nI C), .ref (ad 1), .ref (ad 2), .ref (ad 3), .ref (ad 4), .ref (ad 5), .ref (ad 6), .ref (ad 7)])),
   (ad 1, .inl (cI, 3, .inl (fun k => nI (n k)))),
   (ad 2, .inl (cII, 3, .inr (.inr (.inr (.inr (zo ad 8)))))),
   (ad 3, .inl (cII, 3, .inr (.inr (.inr (.inr (zo ad 11)))))),
   (ad 4, .inl (cII, 3, .inr (.inr (.inr (.inr (zo ad 14)))))),
   (ad 5, .inl (cJJ, 3, .inr (.inr (.inr (.inr (zo ad 17)))))),
   (ad 6, .inl (cJJ, 3, .inr (.inr (.inr (.inr (zo ad 20)))))),
   (ad 7, .inl (cJJ, 3, .inr (.inr (.inr (.inr (zo ad 23)))))),
   (ad (8 + 0), .inl (cI, 40, .inl (va 0))), (ad (8 + 1), .inl (cI, 40, .inl (va 1))), (ad (8 + 2), .inl (cI, 40, .inl (va 2))),
   (ad (11 + 0), .inl (cI, 40, .inl (fun w => nI (mk 0 w)))), (ad (11 + 1), .inl (cI, 40, .inl (fun w => nI (mk 1 w)))), (ad (11 + 2), .inl (cI, 40, .inl (fun w => nI (mk 2 w)))),
   (ad (14 + 0), .inl (cI, 40, .inl (fun w => nI (ct 0 w)))), (ad (14 + 1), .inl (cI, 40, .inl (fun w => nI (ct 1 w)))), (ad (14 + 2), .inl (cI, 40, .inl (fun w => nI (ct 2 w)))),
   (ad (17 + 0), .inl (cJ, 40, .inr (.inl (fun w => lN (ps 0 w))))), (ad (17 + 1), .inl (cJ, 40, .inr (.inl (fun w => lN (ps 1 w))))), (ad (17 + 2), .inl (cJ, 40, .inr (.inl (fun w => lN (ps 2 w))))),
   (ad (20 + 0), .inl (cJ, S, .inr (.inl (fun w => lN (kn 0 w))))), (ad (20 + 1), .inl (cJ, S, .inr (.inl (fun w => lN (kn 1 w))))), (ad (20 + 2), .inl (cJ, S, .inr (.inl (fun w => lN (kn 2 w))))),
   (ad (23 + 0), .inl (cJ, C, .inr (.inl (fun w => lN (cx 0 w))))), (ad (23 + 1), .inl (cJ, C, .inr (.inl (fun w => lN (cx 1 w))))), (ad (23 + 2), .inl (cJ, C, .inr (.inl (fun w => lN (cx 2 w)))))]
theorem zupN (f : Nat → Nat) (j v : Nat) : upd (fun w => nI (f w)) j (nI v) = fun w => nI (zu f j v w) := by
  funext w
  unfold upd zu
  split <;> rfl
theorem zupL (f : Nat → Nat) (j v : Nat) : vp_updL (fun w => lN (f w)) j (lN v) = fun w => lN (zu f j v w) := by
  funext w
  unfold vp_updL zu
  split <;> rfl
section XW
variable {ad : Nat → Nat} {cI cJ cII cJJ : ClassId} {S C : Nat} {n : Nat → Nat} {va : Nat → Nat → Int32} {mk ct ps kn cx : Nat → Nat → Nat}
theorem xw_va {k : Nat} (hk : k < 3) : (xw ad cI cJ cII cJJ S C n va mk ct ps kn cx)[8 + k]? = some (ad (8 + k), .inl (cI, 40, .inl (va k))) := match k, hk with
  | 0, _ => rfl
  | 1, _ => rfl
  | 2, _ => rfl
theorem xw_mk {k : Nat} (hk : k < 3) : (xw ad cI cJ cII cJJ S C n va mk ct ps kn cx)[11 + k]? = some (ad (11 + k), .inl (cI, 40, .inl (fun w => nI (mk k w)))) := match k, hk with
  | 0, _ => rfl
  | 1, _ => rfl
  | 2, _ => rfl
theorem xw_ct {k : Nat} (hk : k < 3) : (xw ad cI cJ cII cJJ S C n va mk ct ps kn cx)[14 + k]? = some (ad (14 + k), .inl (cI, 40, .inl (fun w => nI (ct k w)))) := match k, hk with
  | 0, _ => rfl
  | 1, _ => rfl
  | 2, _ => rfl
theorem xw_ps {k : Nat} (hk : k < 3) : (xw ad cI cJ cII cJJ S C n va mk ct ps kn cx)[17 + k]? = some (ad (17 + k), .inl (cJ, 40, .inr (.inl (fun w => lN (ps k w))))) := match k, hk with
  | 0, _ => rfl
  | 1, _ => rfl
  | 2, _ => rfl
theorem xw_kn {k : Nat} (hk : k < 3) : (xw ad cI cJ cII cJJ S C n va mk ct ps kn cx)[20 + k]? = some (ad (20 + k), .inl (cJ, S, .inr (.inl (fun w => lN (kn k w))))) := match k, hk with
  | 0, _ => rfl
  | 1, _ => rfl
  | 2, _ => rfl
theorem xw_cx {k : Nat} (hk : k < 3) : (xw ad cI cJ cII cJJ S C n va mk ct ps kn cx)[23 + k]? = some (ad (23 + k), .inl (cJ, C, .inr (.inl (fun w => lN (cx k w))))) := match k, hk with
  | 0, _ => rfl
  | 1, _ => rfl
  | 2, _ => rfl
theorem xs_n {k : Nat} (hk : k < 3) (v : Nat) : (xw ad cI cJ cII cJJ S C n va mk ct ps kn cx).set 1 (ad 1, .inl (cI, 3, .inl (upd (fun k => nI (n k)) k (nI v)))) = xw ad cI cJ cII cJJ S C (zu n k v) va mk ct ps kn cx := by
  rw [zupN]
  rfl
theorem xs_va {k : Nat} (hk : k < 3) (j : Nat) (v : Int32) : (xw ad cI cJ cII cJJ S C n va mk ct ps kn cx).set (8 + k) (ad (8 + k), .inl (cI, 40, .inl (upd (va k) j v))) = xw ad cI cJ cII cJJ S C n (zV va k j v) mk ct ps kn cx := match k, hk with
  | 0, _ => rfl
  | 1, _ => rfl
  | 2, _ => rfl
theorem xs_mk {k : Nat} (hk : k < 3) (j v : Nat) : (xw ad cI cJ cII cJJ S C n va mk ct ps kn cx).set (11 + k) (ad (11 + k), .inl (cI, 40, .inl (upd (fun w => nI (mk k w)) j (nI v)))) = xw ad cI cJ cII cJJ S C n va (zU mk k j v) ct ps kn cx := by
  rw [zupN]
  exact match k, hk with
  | 0, _ => rfl
  | 1, _ => rfl
  | 2, _ => rfl
theorem xs_ct {k : Nat} (hk : k < 3) (j v : Nat) : (xw ad cI cJ cII cJJ S C n va mk ct ps kn cx).set (14 + k) (ad (14 + k), .inl (cI, 40, .inl (upd (fun w => nI (ct k w)) j (nI v)))) = xw ad cI cJ cII cJJ S C n va mk (zU ct k j v) ps kn cx := by
  rw [zupN]
  exact match k, hk with
  | 0, _ => rfl
  | 1, _ => rfl
  | 2, _ => rfl
theorem xs_ps {k : Nat} (hk : k < 3) (j v : Nat) : (xw ad cI cJ cII cJJ S C n va mk ct ps kn cx).set (17 + k) (ad (17 + k), .inl (cJ, 40, .inr (.inl (vp_updL (fun w => lN (ps k w)) j (lN v))))) = xw ad cI cJ cII cJJ S C n va mk ct (zU ps k j v) kn cx := by
  rw [zupL]
  exact match k, hk with
  | 0, _ => rfl
  | 1, _ => rfl
  | 2, _ => rfl
theorem xs_kn {k : Nat} (hk : k < 3) (j v : Nat) : (xw ad cI cJ cII cJJ S C n va mk ct ps kn cx).set (20 + k) (ad (20 + k), .inl (cJ, S, .inr (.inl (vp_updL (fun w => lN (kn k w)) j (lN v))))) = xw ad cI cJ cII cJJ S C n va mk ct ps (zU kn k j v) cx := by
  rw [zupL]
  exact match k, hk with
  | 0, _ => rfl
  | 1, _ => rfl
  | 2, _ => rfl
theorem xs_cx {k : Nat} (hk : k < 3) (j v : Nat) : (xw ad cI cJ cII cJJ S C n va mk ct ps kn cx).set (23 + k) (ad (23 + k), .inl (cJ, C, .inr (.inl (vp_updL (fun w => lN (cx k w)) j (lN v))))) = xw ad cI cJ cII cJJ S C n va mk ct ps kn (zU cx k j v) := by
  rw [zupL]
  exact match k, hk with
  | 0, _ => rfl
  | 1, _ => rfl
  | 2, _ => rfl
end XW
/-- a reading method's start -/
def xB (dC : Nat → ClassId) (dI : Nat → Nat → Nat) (ad : Nat → Nat) (cI cJ cII cJJ : ClassId) (S C : Nat) (n : Nat → Nat) (va : Nat → Nat → Int32) (mk ct ps kn cx : Nat → Nat → Nat) (U : State) : Prop := va_P (dC, dI) vwCl (xw ad cI cJ cII cJJ S C n va mk ct ps kn cx) U.heap ∧ va_K (dC, dI) vwCl (zT cI cJ cII cJJ) U
/-! the reference's cells -/
def mw (ad : Nat → Nat) (cI cJ : ClassId) (S C : Nat) (n : Nat → Nat) (va : Nat → Nat → Int32) (mk ct ps kn cx rd : Nat → Nat → Nat) : va_W :=
  [(ad 0, .inr (1, [.int (nI S), .int (nI C), .ref (ad 1), .ref (ad 2), .ref (ad 3), .ref (ad 4), .ref (ad 5), .ref (ad 6), .ref (ad 7), .ref (ad 8)])),
   (ad 1, .inl (cI, 3, .inl (fun k => nI (n k)))),
   (ad 2, .inl (cI, 120, .inl (fun j => va (j / 40) (j % 40)))),
   (ad 3, .inl (cI, 120, .inl (fun j => nI (mk (j / 40) (j % 40))))),
   (ad 4, .inl (cI, 120, .inl (fun j => nI (ct (j / 40) (j % 40))))),
   (ad 5, .inl (cJ, 120, .inr (.inl (fun j => lN (ps (j / 40) (j % 40)))))),
   (ad 6, .inl (cJ, 12, .inr (.inl (fun j => lN (kn (j % 3) (j / 3)))))),
   (ad 7, .inl (cJ, 12, .inr (.inl (fun j => lN (cx (j % 3) (j / 3)))))),
   (ad 8, .inl (cJ, 12, .inr (.inl (fun j => lN (rd (j % 3) (j / 3))))))]
theorem z40d {k w : Nat} (hw : w < 40) : (40 * k + w) / 40 = k ∧ (40 * k + w) % 40 = w := by omega
theorem z3d {k s : Nat} (hk : k < 3) : (3 * s + k) / 3 = s ∧ (3 * s + k) % 3 = k := by omega
theorem zf40 {α : Type} (f : Nat → Nat → α) {k w : Nat} (hw : w < 40) : f ((40 * k + w) / 40) ((40 * k + w) % 40) = f k w := by rw [(z40d hw).1, (z40d hw).2]
theorem zf3 {α : Type} (f : Nat → Nat → α) {k s : Nat} (hk : k < 3) : f ((3 * s + k) % 3) ((3 * s + k) / 3) = f k s := by rw [(z3d hk).1, (z3d hk).2]
theorem zs40v (f : Nat → Nat → Int32) {k w : Nat} (hw : w < 40) (v : Int32) : upd (fun j => f (j / 40) (j % 40)) (40 * k + w) v = fun j => zV f k w v (j / 40) (j % 40) := by
  funext j
  unfold upd zV
  by_cases h : j = 40 * k + w
  · subst h
    rw [if_pos rfl, (z40d hw).1, (z40d hw).2, if_pos rfl]
    simp [upd]
  · rw [if_neg h]
    by_cases h1 : j / 40 = k
    · rw [if_pos h1]
      simp only [upd]
      rw [if_neg (by omega)]
    · rw [if_neg h1]
theorem zs40n (f : Nat → Nat → Nat) {k w : Nat} (hw : w < 40) (v : Nat) : upd (fun j => nI (f (j / 40) (j % 40))) (40 * k + w) (nI v) = fun j => nI (zU f k w v (j / 40) (j % 40)) := by
  funext j
  unfold upd zU
  by_cases h : j = 40 * k + w
  · subst h
    rw [if_pos rfl, (z40d hw).1, (z40d hw).2, if_pos rfl]
    simp [zu]
  · rw [if_neg h]
    by_cases h1 : j / 40 = k
    · rw [if_pos h1]
      simp only [zu]
      rw [if_neg (by omega)]
    · rw [if_neg h1]
theorem zs40l (f : Nat → Nat → Nat) {k w : Nat} (hw : w < 40) (v : Nat) : vp_updL (fun j => lN (f (j / 40) (j % 40))) (40 * k + w) (lN v) = fun j => lN (zU f k w v (j / 40) (j % 40)) := by
  funext j
  unfold vp_updL zU
  by_cases h : j = 40 * k + w
  · subst h
    rw [if_pos rfl, (z40d hw).1, (z40d hw).2, if_pos rfl]
    simp [zu]
  · rw [if_neg h]
    by_cases h1 : j / 40 = k
    · rw [if_pos h1]
      simp only [zu]
      rw [if_neg (by omega)]
    · rw [if_neg h1]
theorem zs3l (f : Nat → Nat → Nat) {k s : Nat} (hk : k < 3) (v : Nat) : vp_updL (fun j => lN (f (j % 3) (j / 3))) (3 * s + k) (lN v) = fun j => lN (zU f k s v (j % 3) (j / 3)) := by
  funext j
  unfold vp_updL zU
  by_cases h : j = 3 * s + k
  · subst h
    rw [if_pos rfl, (z3d hk).1, (z3d hk).2, if_pos rfl]
    simp [zu]
  · rw [if_neg h]
    by_cases h1 : j % 3 = k
    · rw [if_pos h1]
      simp only [zu]
      rw [if_neg (by omega)]
    · rw [if_neg h1]
section MW
variable {ad : Nat → Nat} {cI cJ : ClassId} {S C : Nat} {n : Nat → Nat} {va : Nat → Nat → Int32} {mk ct ps kn cx rd : Nat → Nat → Nat}
theorem ms_n (k v : Nat) : (mw ad cI cJ S C n va mk ct ps kn cx rd).set 1 (ad 1, .inl (cI, 3, .inl (upd (fun k => nI (n k)) k (nI v)))) = mw ad cI cJ S C (zu n k v) va mk ct ps kn cx rd := by
  rw [zupN]
  rfl
theorem ms_va {k w : Nat} (hw : w < 40) (v : Int32) : (mw ad cI cJ S C n va mk ct ps kn cx rd).set 2 (ad 2, .inl (cI, 120, .inl (upd (fun j => va (j / 40) (j % 40)) (40 * k + w) v))) = mw ad cI cJ S C n (zV va k w v) mk ct ps kn cx rd := by
  rw [zs40v va hw]
  rfl
theorem ms_mk {k w : Nat} (hw : w < 40) (v : Nat) : (mw ad cI cJ S C n va mk ct ps kn cx rd).set 3 (ad 3, .inl (cI, 120, .inl (upd (fun j => nI (mk (j / 40) (j % 40))) (40 * k + w) (nI v)))) = mw ad cI cJ S C n va (zU mk k w v) ct ps kn cx rd := by
  rw [zs40n mk hw]
  rfl
theorem ms_ct {k w : Nat} (hw : w < 40) (v : Nat) : (mw ad cI cJ S C n va mk ct ps kn cx rd).set 4 (ad 4, .inl (cI, 120, .inl (upd (fun j => nI (ct (j / 40) (j % 40))) (40 * k + w) (nI v)))) = mw ad cI cJ S C n va mk (zU ct k w v) ps kn cx rd := by
  rw [zs40n ct hw]
  rfl
theorem ms_ps {k w : Nat} (hw : w < 40) (v : Nat) : (mw ad cI cJ S C n va mk ct ps kn cx rd).set 5 (ad 5, .inl (cJ, 120, .inr (.inl (vp_updL (fun j => lN (ps (j / 40) (j % 40))) (40 * k + w) (lN v))))) = mw ad cI cJ S C n va mk ct (zU ps k w v) kn cx rd := by
  rw [zs40l ps hw]
  rfl
theorem ms_kn {k s : Nat} (hk : k < 3) (v : Nat) : (mw ad cI cJ S C n va mk ct ps kn cx rd).set 6 (ad 6, .inl (cJ, 12, .inr (.inl (vp_updL (fun j => lN (kn (j % 3) (j / 3))) (3 * s + k) (lN v))))) = mw ad cI cJ S C n va mk ct ps (zU kn k s v) cx rd := by
  rw [zs3l kn hk]
  rfl
theorem ms_cx {k s : Nat} (hk : k < 3) (v : Nat) : (mw ad cI cJ S C n va mk ct ps kn cx rd).set 7 (ad 7, .inl (cJ, 12, .inr (.inl (vp_updL (fun j => lN (cx (j % 3) (j / 3))) (3 * s + k) (lN v))))) = mw ad cI cJ S C n va mk ct ps kn (zU cx k s v) rd := by
  rw [zs3l cx hk]
  rfl
theorem ms_rd {k s : Nat} (hk : k < 3) (v : Nat) : (mw ad cI cJ S C n va mk ct ps kn cx rd).set 8 (ad 8, .inl (cJ, 12, .inr (.inl (vp_updL (fun j => lN (rd (j % 3) (j / 3))) (3 * s + k) (lN v))))) = mw ad cI cJ S C n va mk ct ps kn cx (zU rd k s v) := by
  rw [zs3l rd hk]
  rfl
end MW
def mB (dC : Nat → ClassId) (dI : Nat → Nat → Nat) (ad : Nat → Nat) (cI cJ : ClassId) (S C : Nat) (n : Nat → Nat) (va : Nat → Nat → Int32) (mk ct ps kn cx rd : Nat → Nat → Nat) (U : State) : Prop := va_P (dC, dI) vwCl (mw ad cI cJ S C n va mk ct ps kn cx rd) U.heap ∧ va_K (dC, dI) vwCl [(cI, .int), (cJ, .long)] U
theorem xB_blind {av : List Value} {dC : Nat → ClassId} {dI : Nat → Nat → Nat} {ad : Nat → Nat} {cI cJ cII cJJ : ClassId} {S C : Nat} {n : Nat → Nat} {va : Nat → Nat → Int32} {mk ct ps kn cx : Nat → Nat → Nat} : FrameBlind (va_Pc av (xB dC dI ad cI cJ cII cJJ S C n va mk ct ps kn cx)) := fun a U g k q => by
  obtain ⟨q0, qP, qK⟩ := q
  exact ⟨q0, qP, va_K.moved (u := U) (U := U.calling g k a) (Vm.Alike.refl U.vm) qK⟩
theorem mB_blind {av : List Value} {dC : Nat → ClassId} {dI : Nat → Nat → Nat} {ad : Nat → Nat} {cI cJ : ClassId} {S C : Nat} {n : Nat → Nat} {va : Nat → Nat → Int32} {mk ct ps kn cx rd : Nat → Nat → Nat} : FrameBlind (va_Pc av (mB dC dI ad cI cJ S C n va mk ct ps kn cx rd)) := fun a U g k q => by
  obtain ⟨q0, qP, qK⟩ := q
  exact ⟨q0, qP, va_K.moved (u := U) (U := U.calling g k a) (Vm.Alike.refl U.vm) qK⟩
theorem zB_blind {av : List Value} : FrameBlind (va_Pc av (fun _ => True)) := fun _ _ _ _ q => q
theorem xB_at {dC : Nat → ClassId} {dI : Nat → Nat → Nat} {ad : Nat → Nat} {cI cJ cII cJJ : ClassId} {S C : Nat} {n : Nat → Nat} {va : Nat → Nat → Int32} {mk ct ps kn cx : Nat → Nat → Nat} {s U : State} {H : Heap} (hP : va_P (dC, dI) vwCl (xw ad cI cJ cII cJJ S C n va mk ct ps kn cx) H) (hK : va_K (dC, dI) vwCl (zT cI cJ cII cJJ) s) (hU : U.heap = H) (hW : s.WarmedH U.vm) : xB dC dI ad cI cJ cII cJJ S C n va mk ct ps kn cx U := ⟨by rw [hU]; exact hP, va_K.moved hW.alike hK⟩
theorem mB_at {dC : Nat → ClassId} {dI : Nat → Nat → Nat} {ad : Nat → Nat} {cI cJ : ClassId} {S C : Nat} {n : Nat → Nat} {va : Nat → Nat → Int32} {mk ct ps kn cx rd : Nat → Nat → Nat} {s U : State} {H : Heap} (hP : va_P (dC, dI) vwCl (mw ad cI cJ S C n va mk ct ps kn cx rd) H) (hK : va_K (dC, dI) vwCl [(cI, .int), (cJ, .long)] s) (hU : U.heap = H) (hW : s.WarmedH U.vm) : mB dC dI ad cI cJ S C n va mk ct ps kn cx rd U := ⟨by rw [hU]; exact hP, va_K.moved hW.alike hK⟩
