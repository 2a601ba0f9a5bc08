theorem zRep_t {ps : Nat → Nat} {set i : Nat} (h : set.testBit i = true) : zRep ps set (i + 1) = zRep ps set i ||| ps i := by
  show (if set.testBit i then _ else _) = _
  rw [h]
  rfl
theorem zRep_f {ps : Nat → Nat} {set i : Nat} (h : set.testBit i = false) : zRep ps set (i + 1) = zRep ps set i := by
  show (if set.testBit i then _ else _) = _
  rw [h]
  rfl
theorem zNew_l (set r : Nat) : lN set &&& (lN r ^^^ (-1)) = lN (set &&& (r ^^^ 18446744073709551615)) := by
  show lN set &&& (lN r ^^^ lN 18446744073709551615) = _
  rw [zb_xor, zb_and]
theorem zNew_le (n : Nat) (ps : Nat → Nat) (set : Nat) : zNew n ps set ≤ set := Nat.and_le_left
theorem zIn_hit {hit : Nat → Bool} {i : Int32} {n w seen : Nat} (hw : w < n) (h : hit w = true) (hs : nI seen = i) : zIn hit i (n - w) w seen = .inl w := by
  obtain ⟨d, hd⟩ : ∃ d, n - w = d + 1 := ⟨n - w - 1, by omega⟩
  rw [hd]
  show (if hit w then (if nI seen = i then _ else _) else _) = _
  rw [h, if_pos rfl, if_pos hs]
theorem zIn_go {hit : Nat → Bool} {i : Int32} {n w seen : Nat} (hw : w < n) (h : hit w = true) (hs : ¬ nI seen = i) : zIn hit i (n - w) w seen = zIn hit i (n - (w + 1)) (w + 1) (seen + 1) := by
  obtain ⟨d, hd⟩ : ∃ d, n - w = d + 1 := ⟨n - w - 1, by omega⟩
  rw [hd, show n - (w + 1) = d by omega]
  show (if hit w then (if nI seen = i then _ else _) else _) = _
  rw [h, if_pos rfl, if_neg hs]
theorem zIn_skip {hit : Nat → Bool} {i : Int32} {n w seen : Nat} (hw : w < n) (h : hit w = false) : zIn hit i (n - w) w seen = zIn hit i (n - (w + 1)) (w + 1) seen := by
  obtain ⟨d, hd⟩ : ∃ d, n - w = d + 1 := ⟨n - w - 1, by omega⟩
  rw [hd, show n - (w + 1) = d by omega]
  show (if hit w then _ else _) = _
  rw [h]
  rfl
theorem zOut_found {hit : Nat → Nat → Bool} {n S s seen w : Nat} {i : Int32} (hs : s < S) (h : zIn (hit s) i n 0 seen = .inl w) : zOut hit n i (S - s) s seen = some w := by
  obtain ⟨d, hd⟩ : ∃ d, S - s = d + 1 := ⟨S - s - 1, by omega⟩
  rw [hd]
  show (match zIn (hit s) i n 0 seen with | .inl w => some w | .inr seen' => zOut hit n i d (s + 1) seen') = _
  rw [h]
theorem zOut_next {hit : Nat → Nat → Bool} {n S s seen seen' : Nat} {i : Int32} (hs : s < S) (h : zIn (hit s) i n 0 seen = .inr seen') : zOut hit n i (S - s) s seen = zOut hit n i (S - (s + 1)) (s + 1) seen' := by
  obtain ⟨d, hd⟩ : ∃ d, S - s = d + 1 := ⟨S - s - 1, by omega⟩
  rw [hd, show S - (s + 1) = d by omega]
  show (match zIn (hit s) i n 0 seen with | .inl w => some w | .inr seen' => zOut hit n i d (s + 1) seen') = _
  rw [h]
theorem zHit_t {mk : Nat → Nat} {set s w : Nat} (h1 : mk w = s) (h2 : set.testBit w = true) : zHit mk set s w = true := by simp [zHit, h1, h2]
theorem zHit_n {mk : Nat → Nat} {set s w : Nat} (h1 : ¬ mk w = s) : zHit mk set s w = false := by simp [zHit, h1]
theorem zHit_b {mk : Nat → Nat} {set s w : Nat} (h2 : set.testBit w = false) : zHit mk set s w = false := by simp [zHit, h2]
theorem zVec_t {ct : Nat → Nat} {hit : Nat → Bool} {i : Nat} (h : hit i = true) : zVec ct hit (i + 1) = if zVec ct hit i < ct i then ct i else zVec ct hit i := by
  show (if hit i then _ else _) = _
  rw [h]
  rfl
theorem zVec_f {ct : Nat → Nat} {hit : Nat → Bool} {i : Nat} (h : hit i = false) : zVec ct hit (i + 1) = zVec ct hit i := by
  show (if hit i then _ else _) = _
  rw [h]
  rfl
theorem zmaxI {a b : Nat} (ha : a < 2 ^ 31) (hb : b < 2 ^ 31) : (if nI a < nI b then nI b else nI a) = nI (if a < b then b else a) := by
  by_cases h : a < b
  · rw [if_pos h, if_pos ((nI_ltI ha hb).mpr h)]
  · rw [if_neg h, if_neg (fun q => h ((nI_ltI ha hb).mp q))]
theorem zsw {x : Int32} (h0 : ¬ x = 0) (h1 : ¬ x = 1) (h2 : ¬ x = 2) (h3 : ¬ x = 3) : x.toInt < 0 ∨ 3 < x.toInt := by
  have a0 : ¬ x.toInt = 0 := fun q => h0 (Int32.toInt_inj.mp q)
  have a1 : ¬ x.toInt = 1 := fun q => h1 (Int32.toInt_inj.mp q)
  have a2 : ¬ x.toInt = 2 := fun q => h2 (Int32.toInt_inj.mp q)
  have a3 : ¬ x.toInt = 3 := fun q => h3 (Int32.toInt_inj.mp q)
  omega
theorem zSize64 {x : Nat} (h : x < 2 ^ 40) : cn (fun i => x.testBit i) 64 = zSize x :=
  cn_tail (by decide) (fun i h1 _ => Nat.testBit_lt_two_pow (Nat.lt_of_lt_of_le h (Nat.pow_le_pow_right (by decide) h1)))
theorem bc_bounds {x : Nat} (h : x < 2 ^ 64) : bc_a x < 2 ^ 64 ∧ bc_b x < 2 ^ 64 ∧ bc_b x + bc_b x / 16 < 2 ^ 64 := by
  obtain ⟨a1, a2, a3, -⟩ := bc_steps h
  have hl := bc_dl_lt 8 x
  have b1 : bc_a x < 2 ^ 64 := by
    unfold bc_a
    omega
  have k2 : ∀ b, b < 256 → bc_s2 (bc_s1 b) ≤ 128 := by decide +kernel
  have b2 : bc_b x < 2 ^ 64 := by
    rw [a3]
    exact bc_lt8 (by rw [List.length_map, bc_dl_len]) (fun b hb => by
      obtain ⟨c, hc, rfl⟩ := List.mem_map.mp hb
      exact (bc_b2 c (hl c hc)).1)
  refine ⟨b1, b2, ?_⟩
  have : bc_b x < 2 ^ 63 + 2 ^ 62 := by
    rw [a3]
    generalize hq : bc_dl 8 x = q at hl
    have hlen : q.length = 8 := by rw [← hq, bc_dl_len]
    match q, hlen with
    | [b0, b1, b2, b3, b4, b5, b6, b7], _ =>
      have q7 := k2 b7 (hl b7 (by simp))
      have r : bc_ev ([b0, b1, b2, b3, b4, b5, b6].map (fun b => bc_s2 (bc_s1 b))) < 256 ^ 7 := bc_lt _ (fun b hb => by
        obtain ⟨c, hc, rfl⟩ := List.mem_map.mp hb
        exact (bc_b2 c (hl c (by simp only [List.mem_cons, List.not_mem_nil, or_false] at hc ⊢; omega))).1)
      simp only [List.map_cons, List.map_nil, bc_ev] at r ⊢
      omega
  omega
/-- what the methods answer -/
def zO (o : Option Nat) (f : Nat → Int64) : Int64 := match o with
  | none => -9223372036854775808
  | some w => f w
def aGet (S C : Nat) (n : Nat → Nat) (ps kn : Nat → Nat → Nat) (x1 x2 x3 : Int32) : Int32 := zq3 (zD S x1) (zD C x2) (zD 3 x3) (-1) (fun s _ k => nI (zSize (zNew (n k) (ps k) (kn k s))))
def uGet (S C : Nat) (kn cx : Nat → Nat → Nat) (x1 x2 x3 : Int32) : Nat → Nat → Nat := zq3 (zD S x1) (zD C x2) (zD 3 x3) cx (fun s c k => zU cx k c (kn k s))
def vGet (S C : Nat) (n : Nat → Nat) (ps kn rd : Nat → Nat → Nat) (x1 x2 x3 : Int32) : Nat → Nat → Nat := zq3 (zD S x1) (zD C x2) (zD 3 x3) rd (fun s c k => zU rd k c (zNew (n k) (ps k) (kn k s)))
def aRead (S C : Nat) (n : Nat → Nat) (va : Nat → Nat → Int32) (mk ps cx : Nat → Nat → Nat) (x1 x2 x3 : Int32) : Int64 := zq2 (zD C x1) (zD 3 x2) (-9223372036854775808) (fun c k => zO (zAt S (n k) (mk k) (zNew (n k) (ps k) (cx k c)) x3) (fun w => (va k w).toInt64))
def aRead2 (S C : Nat) (n : Nat → Nat) (va : Nat → Nat → Int32) (mk rd : Nat → Nat → Nat) (x1 x2 x3 : Int32) : Int64 := zq2 (zD C x1) (zD 3 x2) (-9223372036854775808) (fun c k => zO (zAt S (n k) (mk k) (rd k c) x3) (fun w => (va k w).toInt64))
def aPut (S C : Nat) (n : Nat → Nat) (x1 x2 x3 : Int32) : Int32 := zq3 (zD S x1) (zD C x2) (zD 3 x3) (-1) (fun _ _ k => if n k < 40 then nI (n k) else -1)
abbrev zPT : Type := (Nat → Nat) × (Nat → Nat → Int32) × (Nat → Nat → Nat) × (Nat → Nat → Nat) × (Nat → Nat → Nat) × (Nat → Nat → Nat)
def uPut (S C : Nat) (n : Nat → Nat) (va : Nat → Nat → Int32) (mk ct ps kn cx : Nat → Nat → Nat) (x1 x2 x3 x4 : Int32) : zPT := zq3 (zD S x1) (zD C x2) (zD 3 x3) (n, va, mk, ct, ps, kn) (fun s c k => if n k < 40 then
  (zu n k (n k + 1), zV va k (n k) x4, zU mk k (n k) s, zU ct k (n k) (1 + cn (fun v => decide (mk k v = s)) (n k)), zU ps k (n k) (cx k c), zU kn k s (kn k s ||| (cx k c ||| 1 * 2 ^ n k))) else (n, va, mk, ct, ps, kn))
def aSync (S : Nat) (x1 x2 x3 : Int32) : Int32 := zq3 (zD S x1) (zD S x2) (zD 3 x3) 0 (fun a b _ => if a = b then 0 else 1)
def uSync (S : Nat) (kn : Nat → Nat → Nat) (x1 x2 x3 : Int32) : Nat → Nat → Nat := zq3 (zD S x1) (zD S x2) (zD 3 x3) kn (fun a b k => if a = b then kn else zU (zU kn k a (kn k a ||| kn k b)) k b (kn k a ||| kn k b))
def aForget (C : Nat) (x1 x2 : Int32) : Int32 := zq2 (zD C x1) (zD 3 x2) 0 (fun _ _ => 1)
def uForget (C : Nat) (cx : Nat → Nat → Nat) (x1 x2 : Int32) : Nat → Nat → Nat := zq2 (zD C x1) (zD 3 x2) cx (fun c k => zU cx k c 0)
def aSibs (S : Nat) (n : Nat → Nat) (ps kn : Nat → Nat → Nat) (x1 x2 : Int32) : Int32 := zq2 (zD S x1) (zD 3 x2) (-1) (fun s k => nI (zSize (zNew (n k) (ps k) (kn k s))))
def aSib (S : Nat) (n : Nat → Nat) (va : Nat → Nat → Int32) (mk ct ps kn : Nat → Nat → Nat) (x1 x2 x3 x4 : Int32) : Int64 := zq2 (zD S x1) (zD 3 x2) (-9223372036854775808) (fun s k => zO (zAt S (n k) (mk k) (zNew (n k) (ps k) (kn k s)) x3) (fun w => zDet x4 (va k w) (mk k w) (ct k w) w))
def aKnown (S : Nat) (n : Nat → Nat) (mk ct kn : Nat → Nat → Nat) (x1 x2 x3 : Int32) : Int32 := zq3 (zD S x1) (zD 3 x2) (zD S x3) (-1) (fun s k o => nI (zVec (ct k) (zHit (mk k) (kn k s) o) (n k)))
def aCtx (S C : Nat) (n : Nat → Nat) (mk ct cx : Nat → Nat → Nat) (x1 x2 x3 : Int32) : Int32 := zq3 (zD C x1) (zD 3 x2) (zD S x3) (-1) (fun c k o => nI (zVec (ct k) (zHit (mk k) (cx k c) o) (n k)))
def zB01 (b : Bool) : Int32 := if b then 1 else 0
def aSees (C : Nat) (n : Nat → Nat) (cx : Nat → Nat → Nat) (x1 x2 x3 : Int32) : Int32 := zq2 (zD C x1) (zD 3 x2) 0 (fun c k => match zD (n k) x3 with
  | none => 0
  | some w => zB01 ((cx k c).testBit w))
def aSame (S : Nat) (kn : Nat → Nat → Nat) (x1 x2 x3 : Int32) : Int32 := zq3 (zD S x1) (zD S x2) (zD 3 x3) 0 (fun a b k => if kn k a = kn k b then 1 else 0)
def aWeight (S : Nat) (n : Nat → Nat) (mk ct ps kn : Nat → Nat → Nat) (x1 x2 : Int32) : Int32 := zq2 (zD S x1) (zD 3 x2) (-1) (fun s k => nI (cn (fun o => decide (0 < zVec (ct k) (zHit (mk k) (kn k s) o) (n k))) S + zSize (zNew (n k) (ps k) (kn k s))))
theorem cn_t {f : Nat → Bool} {i : Nat} (h : f i = true) : cn f (i + 1) = cn f i + 1 := by
  show cn f i + (if f i then 1 else 0) = _
  rw [h]
  rfl
theorem cn_f {f : Nat → Bool} {i : Nat} (h : f i = false) : cn f (i + 1) = cn f i := by
  show cn f i + (if f i then 1 else 0) = _
  rw [h]
  rfl
