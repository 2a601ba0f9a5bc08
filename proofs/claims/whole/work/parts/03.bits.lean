/-! longs as sets: bits of lN, and Long.bitCount's arithmetic as a count of bits -/
theorem zb_tb (n : Nat) : (lN n).toBitVec = BitVec.ofNat 64 n := rfl
theorem zb_inj {a b : Int64} (h : a.toBitVec = b.toBitVec) : a = b := Int64.toBitVec_inj.mp h
theorem zb_and (a b : Nat) : lN a &&& lN b = lN (a &&& b) := by
  apply zb_inj
  show BitVec.ofNat 64 a &&& BitVec.ofNat 64 b = BitVec.ofNat 64 (a &&& b)
  apply BitVec.eq_of_getLsbD_eq
  intro i hi
  simp [hi]
theorem zb_or (a b : Nat) : lN a ||| lN b = lN (a ||| b) := by
  apply zb_inj
  show BitVec.ofNat 64 a ||| BitVec.ofNat 64 b = BitVec.ofNat 64 (a ||| b)
  apply BitVec.eq_of_getLsbD_eq
  intro i hi
  simp [hi]
theorem zb_xor (a b : Nat) : lN a ^^^ lN b = lN (a ^^^ b) := by
  apply zb_inj
  show BitVec.ofNat 64 a ^^^ BitVec.ofNat 64 b = BitVec.ofNat 64 (a ^^^ b)
  apply BitVec.eq_of_getLsbD_eq
  intro i hi
  simp [hi]
theorem zb_tn {n : Nat} (h : n < 2 ^ 64) : (lN n).toBitVec.toNat = n := by rw [zb_tb, BitVec.toNat_ofNat, Nat.mod_eq_of_lt h]
theorem zb_cu : ∀ k, k < 64 → ((nI k).toInt64.toUInt64 &&& Int64.toUInt64 63) = UInt64.ofNat k := by decide +kernel
theorem zb_c : ∀ k, k < 64 → ((nI k).toInt64 &&& 63) = lN k := by decide +kernel
theorem zb_sm : ∀ k, k < 64 → (BitVec.ofNat 64 k).smod 64 = BitVec.ofNat 64 k := by decide +kernel
theorem zb_shr {n k : Nat} (hn : n < 2 ^ 64) (hk : k < 64) : ((lN n).toUInt64 >>> ((nI k).toInt64.toUInt64 &&& Int64.toUInt64 63)).toInt64 = lN (n / 2 ^ k) := by
  rw [zb_cu k hk]
  apply zb_inj
  apply BitVec.eq_of_toNat_eq
  show ((lN n).toUInt64 >>> UInt64.ofNat k).toNat = (BitVec.ofNat 64 _).toNat
  have h1 : (UInt64.ofNat k).toNat = k := by
    show (BitVec.ofNat 64 k).toNat = k
    rw [BitVec.toNat_ofNat, Nat.mod_eq_of_lt (by omega)]
  have h2 : (lN n).toUInt64.toNat = n := zb_tn hn
  rw [UInt64.toNat_shiftRight, h1, h2, Nat.mod_eq_of_lt hk, Nat.shiftRight_eq_div_pow, BitVec.toNat_ofNat, Nat.mod_eq_of_lt (Nat.lt_of_le_of_lt (Nat.div_le_self _ _) hn)]
theorem zb_shl (n : Nat) {k : Nat} (hk : k < 64) : lN n <<< ((nI k).toInt64 &&& 63) = lN (n * 2 ^ k) := by
  rw [zb_c k hk]
  apply zb_inj
  rw [Int64.toBitVec_shiftLeft, zb_tb, zb_tb, zb_tb, zb_sm k hk]
  apply BitVec.eq_of_toNat_eq
  rw [BitVec.shiftLeft_eq', BitVec.toNat_shiftLeft, BitVec.toNat_ofNat, BitVec.toNat_ofNat, BitVec.toNat_ofNat, Nat.mod_eq_of_lt (show k < 2 ^ 64 by omega), Nat.shiftLeft_eq, Nat.mul_mod, Nat.mod_mod, ← Nat.mul_mod]
/-- a count of the places below n where f holds -/
def cn (f : Nat → Bool) : Nat → Nat
  | 0 => 0
  | n + 1 => cn f n + (if f n then 1 else 0)
theorem cn_congr {f g : Nat → Bool} : ∀ {n : Nat}, (∀ i, i < n → f i = g i) → cn f n = cn g n
  | 0, _ => rfl
  | n + 1, h => by
    show cn f n + _ = cn g n + _
    rw [cn_congr (n := n) (fun i hi => h i (by omega)), h n (by omega)]
theorem cn_add (f : Nat → Bool) (a : Nat) : ∀ b, cn f (a + b) = cn f a + cn (fun i => f (a + i)) b
  | 0 => rfl
  | b + 1 => by
    show cn f (a + b) + _ = cn f a + (cn _ b + _)
    rw [cn_add f a b, Nat.add_assoc]
theorem cn_le (f : Nat → Bool) : ∀ n, cn f n ≤ n
  | 0 => Nat.le_refl 0
  | n + 1 => by
    have := cn_le f n
    show cn f n + _ ≤ n + 1
    split <;> omega
theorem cn_tail {f : Nat → Bool} {n m : Nat} (h : n ≤ m) (hf : ∀ i, n ≤ i → i < m → f i = false) : cn f m = cn f n := by
  obtain ⟨d, rfl⟩ : ∃ d, m = n + d := ⟨m - n, by omega⟩
  rw [cn_add]
  have : cn (fun i => f (n + i)) d = cn (fun _ => false) d := cn_congr (fun i hi => hf (n + i) (by omega) (by omega))
  rw [this]
  have z : ∀ d, cn (fun _ => false) d = 0 := fun d => by
    induction d with
    | zero => rfl
    | succ d ih => show cn _ d + _ = 0; rw [ih]; rfl
  rw [z]
  omega
/-! Long.bitCount, byte by byte -/
def bc_s1 (b : Nat) : Nat := b - (b / 2 &&& 85)
def bc_s2 (b : Nat) : Nat := (b &&& 51) + (b / 4 &&& 51)
def bc_s3 (b : Nat) : Nat := (b + b / 16) &&& 15
def bc_p (b : Nat) : Nat := bc_s3 (bc_s2 (bc_s1 b))
theorem bc_and {a b x y : Nat} (ha : a < 256) (hb : b < 256) : (a + 256 * x) &&& (b + 256 * y) = (a &&& b) + 256 * (x &&& y) := by
  have h1 : ((a + 256 * x) &&& (b + 256 * y)) % 2 ^ 8 = ((a + 256 * x) % 2 ^ 8) &&& ((b + 256 * y) % 2 ^ 8) := Nat.and_mod_two_pow
  have h2 : ((a + 256 * x) &&& (b + 256 * y)) / 2 ^ 8 = ((a + 256 * x) / 2 ^ 8) &&& ((b + 256 * y) / 2 ^ 8) := Nat.and_div_two_pow
  rw [show (a + 256 * x) % 2 ^ 8 = a by omega, show (b + 256 * y) % 2 ^ 8 = b by omega] at h1
  rw [show (a + 256 * x) / 2 ^ 8 = x by omega, show (b + 256 * y) / 2 ^ 8 = y by omega] at h2
  generalize (a + 256 * x) &&& (b + 256 * y) = z at h1 h2
  generalize a &&& b = u at h1 ⊢
  generalize x &&& y = v at h2 ⊢
  omega
def bc_ev : List Nat → Nat
  | [] => 0
  | b :: l => b + 256 * bc_ev l
def bc_m (c : Nat) : Nat → Nat
  | 0 => 0
  | n + 1 => c + 256 * bc_m c n
theorem bc_k1 : ∀ b, b < 256 → ∀ e, e < 2 → (b / 2 + 128 * e) &&& 85 = b / 2 &&& 85 := by decide +kernel
theorem bc_k1b : ∀ b, b < 256 → (b / 2 &&& 85) ≤ b := by decide +kernel
theorem bc_k2 : ∀ b, b < 256 → ∀ e, e < 4 → (b / 4 + 64 * e) &&& 51 = b / 4 &&& 51 := by decide +kernel
theorem bc_k3 : ∀ b, b < 256 → ∀ e, e < 8 → bc_s2 (bc_s1 b) + bc_s2 (bc_s1 b) / 16 + 16 * e < 256 ∧ (bc_s2 (bc_s1 b) + bc_s2 (bc_s1 b) / 16 + 16 * e) &&& 15 = bc_s3 (bc_s2 (bc_s1 b)) := by decide +kernel
theorem bc_b1 : ∀ b, b < 256 → bc_s1 b < 256 := by decide +kernel
theorem bc_b2 : ∀ b, b < 256 → bc_s2 (bc_s1 b) < 256 ∧ bc_s2 (bc_s1 b) % 16 < 8 := by decide +kernel
theorem bc_b3 : ∀ b, b < 256 → bc_p b ≤ 8 := by decide +kernel
theorem bc_half (b x : Nat) (hb : b < 256) : (b + 256 * x) / 2 = (b / 2 + 128 * (x % 2)) + 256 * (x / 2) := by omega
theorem bc_quarter (b x : Nat) (hb : b < 256) : (b + 256 * x) / 4 = (b / 4 + 64 * (x % 4)) + 256 * (x / 4) := by omega
theorem bc_1 : ∀ l : List Nat, (∀ b ∈ l, b < 256) → (bc_ev l / 2 &&& bc_m 85 l.length) ≤ bc_ev l ∧ bc_ev l - (bc_ev l / 2 &&& bc_m 85 l.length) = bc_ev (l.map bc_s1)
  | [], _ => ⟨Nat.le_refl _, rfl⟩
  | b :: l, h => by
    have hb : b < 256 := h b List.mem_cons_self
    obtain ⟨i1, i2⟩ := bc_1 l (fun c hc => h c (List.mem_cons_of_mem _ hc))
    show ((b + 256 * bc_ev l) / 2 &&& (85 + 256 * bc_m 85 l.length)) ≤ _ ∧ _ - ((b + 256 * bc_ev l) / 2 &&& (85 + 256 * bc_m 85 l.length)) = bc_s1 b + 256 * bc_ev (l.map bc_s1)
    rw [bc_half b _ hb, bc_and (by omega) (by omega), bc_k1 b hb _ (Nat.mod_lt _ (by omega)), ← i2]
    have k := bc_k1b b hb
    show _ ≤ b + 256 * bc_ev l ∧ (b + 256 * bc_ev l) - _ = (b - (b / 2 &&& 85)) + 256 * (bc_ev l - (bc_ev l / 2 &&& bc_m 85 l.length))
    generalize (b / 2 &&& 85) = u at k ⊢
    generalize (bc_ev l / 2 &&& bc_m 85 l.length) = v at i1 ⊢
    omega
theorem bc_2 : ∀ l : List Nat, (∀ b ∈ l, b < 256) → (bc_ev l &&& bc_m 51 l.length) + (bc_ev l / 4 &&& bc_m 51 l.length) = bc_ev (l.map bc_s2)
  | [], _ => rfl
  | b :: l, h => by
    have hb : b < 256 := h b List.mem_cons_self
    have i2 := bc_2 l (fun c hc => h c (List.mem_cons_of_mem _ hc))
    show ((b + 256 * bc_ev l) &&& (51 + 256 * bc_m 51 l.length)) + ((b + 256 * bc_ev l) / 4 &&& (51 + 256 * bc_m 51 l.length)) = bc_s2 b + 256 * bc_ev (l.map bc_s2)
    rw [bc_quarter b _ hb, bc_and (by omega) (by omega), bc_and (by omega) (by omega), bc_k2 b hb _ (Nat.mod_lt _ (by omega)), ← i2]
    show _ = ((b &&& 51) + (b / 4 &&& 51)) + 256 * _
    omega
theorem bc_3 : ∀ l : List Nat, (∀ b ∈ l, b < 256) → ∀ l2, l2 = l.map (fun b => bc_s2 (bc_s1 b)) → bc_ev l2 % 16 < 8 ∧ ((bc_ev l2 + bc_ev l2 / 16) &&& bc_m 15 l2.length) = bc_ev (l2.map bc_s3)
  | [], _, l2, e => by subst e; exact ⟨by decide, rfl⟩
  | b :: l, h, l2, e => by
    subst e
    have hb : b < 256 := h b List.mem_cons_self
    obtain ⟨i1, i2⟩ := bc_3 l (fun c hc => h c (List.mem_cons_of_mem _ hc)) _ rfl
    obtain ⟨k1, k2⟩ := bc_b2 b hb
    show (bc_s2 (bc_s1 b) + 256 * bc_ev (l.map fun b => bc_s2 (bc_s1 b))) % 16 < 8 ∧ ((bc_s2 (bc_s1 b) + 256 * bc_ev (l.map fun b => bc_s2 (bc_s1 b))) + (bc_s2 (bc_s1 b) + 256 * bc_ev (l.map fun b => bc_s2 (bc_s1 b))) / 16 &&& (15 + 256 * bc_m 15 (l.map fun b => bc_s2 (bc_s1 b)).length)) = bc_s3 (bc_s2 (bc_s1 b)) + 256 * bc_ev ((l.map fun b => bc_s2 (bc_s1 b)).map bc_s3)
    rw [← i2]
    generalize bc_ev (l.map fun b => bc_s2 (bc_s1 b)) = E at i1 ⊢
    obtain ⟨k3, k4⟩ := bc_k3 b hb (E % 16) i1
    have e1 : (bc_s2 (bc_s1 b) + 256 * E) + (bc_s2 (bc_s1 b) + 256 * E) / 16 = (bc_s2 (bc_s1 b) + bc_s2 (bc_s1 b) / 16 + 16 * (E % 16)) + 256 * (E + E / 16) := by
      generalize bc_s2 (bc_s1 b) = q at k1 ⊢
      omega
    refine ⟨by omega, ?_⟩
    rw [e1, bc_and k3 (by omega), k4]
theorem bc_m8 : bc_m 85 8 = 6148914691236517205 ∧ bc_m 51 8 = 3689348814741910323 ∧ bc_m 15 8 = 1085102592571150095 := by decide +kernel
/-- what Long.bitCount computes, on numbers below 2^64 -/
def bc_N (x : Nat) : Nat :=
  let a := x - (x / 2 &&& 6148914691236517205)
  let b := (a &&& 3689348814741910323) + (a / 4 &&& 3689348814741910323)
  let d := (b + b / 16) &&& 1085102592571150095
  let f := d + d / 256
  let g := f + f / 65536
  let h := g + g / 4294967296
  h % 128
def bc_l (x : Nat) : List Nat := [x % 256, x / 256 % 256, x / 65536 % 256, x / 16777216 % 256, x / 4294967296 % 256, x / 1099511627776 % 256, x / 281474976710656 % 256, x / 72057594037927936 % 256]
theorem bc_l_ev {x : Nat} (h : x < 2 ^ 64) : bc_ev (bc_l x) = x := by
  simp only [bc_l, bc_ev]
  omega
theorem bc_l_lt (x : Nat) : ∀ b ∈ bc_l x, b < 256 := by
  intro b hb
  simp only [bc_l, List.mem_cons, List.not_mem_nil, or_false] at hb
  omega
theorem bc_steps {x : Nat} (h : x < 2 ^ 64) : (x / 2 &&& 6148914691236517205) ≤ x ∧ x - (x / 2 &&& 6148914691236517205) = bc_ev ((bc_l x).map bc_s1) ∧
    (bc_ev ((bc_l x).map bc_s1) &&& 3689348814741910323) + (bc_ev ((bc_l x).map bc_s1) / 4 &&& 3689348814741910323) = bc_ev ((bc_l x).map (fun b => bc_s2 (bc_s1 b))) ∧
    ((bc_ev ((bc_l x).map (fun b => bc_s2 (bc_s1 b))) + bc_ev ((bc_l x).map (fun b => bc_s2 (bc_s1 b))) / 16) &&& 1085102592571150095) = bc_ev ((bc_l x).map bc_p) := by
  obtain ⟨m1, m2, m3⟩ := bc_m8
  have hl := bc_l_lt x
  obtain ⟨a1, a2⟩ := bc_1 (bc_l x) hl
  have hl1 : ∀ b ∈ (bc_l x).map bc_s1, b < 256 := fun b hb => by
    obtain ⟨c, hc, rfl⟩ := List.mem_map.mp hb
    exact bc_b1 c (hl c hc)
  have a3 := bc_2 ((bc_l x).map bc_s1) hl1
  obtain ⟨-, a4⟩ := bc_3 (bc_l x) hl _ rfl
  rw [show (bc_l x).length = 8 from rfl, m1, bc_l_ev h] at a1 a2
  rw [show ((bc_l x).map bc_s1).length = 8 from rfl, m2, List.map_map] at a3
  rw [show ((bc_l x).map (fun b => bc_s2 (bc_s1 b))).length = 8 from rfl, m3, List.map_map] at a4
  exact ⟨a1, a2, a3, a4⟩
theorem bc_sum {x : Nat} (h : x < 2 ^ 64) : bc_N x = bc_p (x % 256) + bc_p (x / 256 % 256) + bc_p (x / 65536 % 256) + bc_p (x / 16777216 % 256) + bc_p (x / 4294967296 % 256) + bc_p (x / 1099511627776 % 256) + bc_p (x / 281474976710656 % 256) + bc_p (x / 72057594037927936 % 256) := by
  obtain ⟨-, a2, a3, a4⟩ := bc_steps h
  simp only [bc_N]
  rw [a2, a3, a4]
  have p0 := bc_b3 (x % 256) (Nat.mod_lt _ (by omega))
  have p1 := bc_b3 (x / 256 % 256) (Nat.mod_lt _ (by omega))
  have p2 := bc_b3 (x / 65536 % 256) (Nat.mod_lt _ (by omega))
  have p3 := bc_b3 (x / 16777216 % 256) (Nat.mod_lt _ (by omega))
  have p4 := bc_b3 (x / 4294967296 % 256) (Nat.mod_lt _ (by omega))
  have p5 := bc_b3 (x / 1099511627776 % 256) (Nat.mod_lt _ (by omega))
  have p6 := bc_b3 (x / 281474976710656 % 256) (Nat.mod_lt _ (by omega))
  have p7 := bc_b3 (x / 72057594037927936 % 256) (Nat.mod_lt _ (by omega))
  simp only [bc_l, List.map_cons, List.map_nil, bc_ev]
  generalize bc_p (x % 256) = c0 at *
  generalize bc_p (x / 256 % 256) = c1 at *
  generalize bc_p (x / 65536 % 256) = c2 at *
  generalize bc_p (x / 16777216 % 256) = c3 at *
  generalize bc_p (x / 4294967296 % 256) = c4 at *
  generalize bc_p (x / 1099511627776 % 256) = c5 at *
  generalize bc_p (x / 281474976710656 % 256) = c6 at *
  generalize bc_p (x / 72057594037927936 % 256) = c7 at *
  have e1 : (c0 + 256 * (c1 + 256 * (c2 + 256 * (c3 + 256 * (c4 + 256 * (c5 + 256 * (c6 + 256 * (c7 + 256 * 0)))))))) / 256 = c1 + 256 * (c2 + 256 * (c3 + 256 * (c4 + 256 * (c5 + 256 * (c6 + 256 * c7))))) := by omega
  rw [e1]
  have e2 : (c0 + 256 * (c1 + 256 * (c2 + 256 * (c3 + 256 * (c4 + 256 * (c5 + 256 * (c6 + 256 * (c7 + 256 * 0)))))))) + (c1 + 256 * (c2 + 256 * (c3 + 256 * (c4 + 256 * (c5 + 256 * (c6 + 256 * c7)))))) = (c0 + c1) + 256 * ((c1 + c2) + 256 * ((c2 + c3) + 256 * ((c3 + c4) + 256 * ((c4 + c5) + 256 * ((c5 + c6) + 256 * ((c6 + c7) + 256 * c7)))))) := by omega
  rw [e2]
  have e3 : ((c0 + c1) + 256 * ((c1 + c2) + 256 * ((c2 + c3) + 256 * ((c3 + c4) + 256 * ((c4 + c5) + 256 * ((c5 + c6) + 256 * ((c6 + c7) + 256 * c7))))))) / 65536 = (c2 + c3) + 256 * ((c3 + c4) + 256 * ((c4 + c5) + 256 * ((c5 + c6) + 256 * ((c6 + c7) + 256 * c7)))) := by omega
  rw [e3]
  have e4 : ((c0 + c1) + 256 * ((c1 + c2) + 256 * ((c2 + c3) + 256 * ((c3 + c4) + 256 * ((c4 + c5) + 256 * ((c5 + c6) + 256 * ((c6 + c7) + 256 * c7))))))) + ((c2 + c3) + 256 * ((c3 + c4) + 256 * ((c4 + c5) + 256 * ((c5 + c6) + 256 * ((c6 + c7) + 256 * c7))))) = (c0 + c1 + c2 + c3) + 256 * ((c1 + c2 + c3 + c4) + 256 * ((c2 + c3 + c4 + c5) + 256 * ((c3 + c4 + c5 + c6) + 256 * ((c4 + c5 + c6 + c7) + 256 * ((c5 + c6 + c7) + 256 * ((c6 + c7) + 256 * c7)))))) := by omega
  rw [e4]
  have e5 : ((c0 + c1 + c2 + c3) + 256 * ((c1 + c2 + c3 + c4) + 256 * ((c2 + c3 + c4 + c5) + 256 * ((c3 + c4 + c5 + c6) + 256 * ((c4 + c5 + c6 + c7) + 256 * ((c5 + c6 + c7) + 256 * ((c6 + c7) + 256 * c7))))))) / 4294967296 = (c4 + c5 + c6 + c7) + 256 * ((c5 + c6 + c7) + 256 * ((c6 + c7) + 256 * c7)) := by omega
  rw [e5]
  omega
theorem bc_byte : ∀ b, b < 256 → cn (fun i => b.testBit i) 8 = bc_p b := by decide +kernel
theorem bc_byteN (y : Nat) : cn (fun i => y.testBit i) 8 = bc_p (y % 256) := by
  rw [← bc_byte _ (Nat.mod_lt _ (by omega))]
  exact cn_congr (fun i hi => by
    rw [show (256 : Nat) = 2 ^ 8 from rfl, Nat.testBit_mod_two_pow]
    simp [hi])
theorem bc_shift (x k : Nat) : cn (fun i => x.testBit (k + i)) 8 = bc_p (x / 2 ^ k % 256) := by
  rw [← bc_byteN]
  exact cn_congr (fun i _ => by rw [Nat.testBit_div_two_pow, Nat.add_comm])
/-- Long.bitCount counts the bits -/
theorem bc_count {x : Nat} (h : x < 2 ^ 64) : bc_N x = cn (fun i => x.testBit i) 64 := by
  rw [bc_sum h]
  rw [show (64 : Nat) = 56 + 8 from rfl, cn_add, show (56 : Nat) = 48 + 8 from rfl, cn_add, show (48 : Nat) = 40 + 8 from rfl, cn_add, show (40 : Nat) = 32 + 8 from rfl, cn_add, show (32 : Nat) = 24 + 8 from rfl, cn_add, show (24 : Nat) = 16 + 8 from rfl, cn_add, show (16 : Nat) = 8 + 8 from rfl, cn_add]
  rw [bc_byteN, bc_shift, bc_shift, bc_shift, bc_shift, bc_shift, bc_shift, bc_shift]
