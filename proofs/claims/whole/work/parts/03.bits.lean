/-! longs as sets: bits of lN, and Long.bitCount's arithmetic as a count of bits -/
theorem zb_tb (n : Nat) : (lN n).toBitVec = BitVec.ofNat 64 n := rfl
theorem zb_inj {a b : Int64} (h : a.toBitVec = b.toBitVec) : a = b := Int64.toBitVec_inj.mp h
theorem zb_and (a b : Nat) : lN a &&& lN b = lN (a &&& b) := by
  apply zb_inj
  show BitVec.ofNat 64 a &&& BitVec.ofNat 64 b = BitVec.ofNat 64 (a &&& b)
  apply BitVec.eq_of_getLsbD_eq
  intro i hi
  simp [hi]
theorem zb_or (a b : Nat) : lN a ||| lN b = lN (a ||| b) := by
  apply zb_inj
  show BitVec.ofNat 64 a ||| BitVec.ofNat 64 b = BitVec.ofNat 64 (a ||| b)
  apply BitVec.eq_of_getLsbD_eq
  intro i hi
  simp [hi]
theorem zb_xor (a b : Nat) : lN a ^^^ lN b = lN (a ^^^ b) := by
  apply zb_inj
  show BitVec.ofNat 64 a ^^^ BitVec.ofNat 64 b = BitVec.ofNat 64 (a ^^^ b)
  apply BitVec.eq_of_getLsbD_eq
  intro i hi
  simp [hi]
theorem zb_tn {n : Nat} (h : n < 2 ^ 64) : (lN n).toBitVec.toNat = n := by rw [zb_tb, BitVec.toNat_ofNat, Nat.mod_eq_of_lt h]
theorem zb_cu : ∀ k, k < 64 → ((nI k).toInt64.toUInt64 &&& Int64.toUInt64 63) = UInt64.ofNat k := by decide +kernel
theorem zb_c : ∀ k, k < 64 → ((nI k).toInt64 &&& 63) = lN k := by decide +kernel
theorem zb_sm : ∀ k, k < 64 → (BitVec.ofNat 64 k).smod 64 = BitVec.ofNat 64 k := by decide +kernel
theorem zb_shr {n k : Nat} (hn : n < 2 ^ 64) (hk : k < 64) : ((lN n).toUInt64 >>> ((nI k).toInt64.toUInt64 &&& Int64.toUInt64 63)).toInt64 = lN (n / 2 ^ k) := by
  rw [zb_cu k hk]
  apply zb_inj
  apply BitVec.eq_of_toNat_eq
  show ((lN n).toUInt64 >>> UInt64.ofNat k).toNat = (BitVec.ofNat 64 _).toNat
  have h1 : (UInt64.ofNat k).toNat = k := by
    show (BitVec.ofNat 64 k).toNat = k
    rw [BitVec.toNat_ofNat, Nat.mod_eq_of_lt (by omega)]
  have h2 : (lN n).toUInt64.toNat = n := zb_tn hn
  rw [UInt64.toNat_shiftRight, h1, h2, Nat.mod_eq_of_lt hk, Nat.shiftRight_eq_div_pow, BitVec.toNat_ofNat, Nat.mod_eq_of_lt (Nat.lt_of_le_of_lt (Nat.div_le_self _ _) hn)]
theorem zb_shl (n : Nat) {k : Nat} (hk : k < 64) : lN n <<< ((nI k).toInt64 &&& 63) = lN (n * 2 ^ k) := by
  rw [zb_c k hk]
  apply zb_inj
  rw [Int64.toBitVec_shiftLeft, zb_tb, zb_tb, zb_tb, zb_sm k hk]
  apply BitVec.eq_of_toNat_eq
  rw [BitVec.shiftLeft_eq', BitVec.toNat_shiftLeft, BitVec.toNat_ofNat, BitVec.toNat_ofNat, BitVec.toNat_ofNat, Nat.mod_eq_of_lt (show k < 2 ^ 64 by omega), Nat.shiftLeft_eq, Nat.mul_mod, Nat.mod_mod, ← Nat.mul_mod]
/-- a count of the places below n where f holds -/
def cn (f : Nat → Bool) : Nat → Nat
  | 0 => 0
  | n + 1 => cn f n + (if f n then 1 else 0)
theorem cn_congr {f g : Nat → Bool} : ∀ {n : Nat}, (∀ i, i < n → f i = g i) → cn f n = cn g n
  | 0, _ => rfl
  | n + 1, h => by
    show cn f n + _ = cn g n + _
    rw [cn_congr (n := n) (fun i hi => h i (by omega)), h n (by omega)]
theorem cn_add (f : Nat → Bool) (a : Nat) : ∀ b, cn f (a + b) = cn f a + cn (fun i => f (a + i)) b
  | 0 => rfl
  | b + 1 => by
    show cn f (a + b) + _ = cn f a + (cn _ b + _)
    rw [cn_add f a b, Nat.add_assoc]
    rfl
theorem cn_le (f : Nat → Bool) : ∀ n, cn f n ≤ n
  | 0 => Nat.le_refl 0
  | n + 1 => by
    have := cn_le f n
    show cn f n + _ ≤ n + 1
    split <;> omega
theorem cn_tail {f : Nat → Bool} {n m : Nat} (h : n ≤ m) (hf : ∀ i, n ≤ i → i < m → f i = false) : cn f m = cn f n := by
  obtain ⟨d, rfl⟩ : ∃ d, m = n + d := ⟨m - n, by omega⟩
  rw [cn_add]
  have : cn (fun i => f (n + i)) d = cn (fun _ => false) d := cn_congr (fun i hi => hf (n + i) (by omega) (by omega))
  rw [this]
  have z : ∀ d, cn (fun _ => false) d = 0 := fun d => by
    induction d with
    | zero => rfl
    | succ d ih => show cn _ d + _ = 0; rw [ih]; rfl
  rw [z]
  omega
/-! Long.bitCount, byte by byte -/
def bc_s1 (b : Nat) : Nat := b - (b / 2 &&& 85)
def bc_s2 (b : Nat) : Nat := (b &&& 51) + (b / 4 &&& 51)
def bc_s3 (b : Nat) : Nat := (b + b / 16) &&& 15
def bc_p (b : Nat) : Nat := bc_s3 (bc_s2 (bc_s1 b))
theorem bc_and {a b x y : Nat} (ha : a < 256) (hb : b < 256) : (a + 256 * x) &&& (b + 256 * y) = (a &&& b) + 256 * (x &&& y) := by
  have h1 : ((a + 256 * x) &&& (b + 256 * y)) % 2 ^ 8 = ((a + 256 * x) % 2 ^ 8) &&& ((b + 256 * y) % 2 ^ 8) := Nat.and_mod_two_pow
  have h2 : ((a + 256 * x) &&& (b + 256 * y)) / 2 ^ 8 = ((a + 256 * x) / 2 ^ 8) &&& ((b + 256 * y) / 2 ^ 8) := Nat.and_div_two_pow
  rw [show (a + 256 * x) % 2 ^ 8 = a by omega, show (b + 256 * y) % 2 ^ 8 = b by omega] at h1
  rw [show (a + 256 * x) / 2 ^ 8 = x by omega, show (b + 256 * y) / 2 ^ 8 = y by omega] at h2
  generalize (a + 256 * x) &&& (b + 256 * y) = z at h1 h2
  generalize a &&& b = u at h1 ⊢
  generalize x &&& y = v at h2 ⊢
  omega
def bc_ev : List Nat → Nat
  | [] => 0
  | b :: l => b + 256 * bc_ev l
def bc_m (c : Nat) : Nat → Nat
  | 0 => 0
  | n + 1 => c + 256 * bc_m c n
theorem bc_k1 : ∀ b, b < 256 → ∀ e, e < 2 → (b / 2 + 128 * e) &&& 85 = b / 2 &&& 85 := by decide +kernel
theorem bc_k1b : ∀ b, b < 256 → (b / 2 &&& 85) ≤ b := by decide +kernel
theorem bc_k2 : ∀ b, b < 256 → ∀ e, e < 4 → (b / 4 + 64 * e) &&& 51 = b / 4 &&& 51 := by decide +kernel
theorem bc_k3 : ∀ b, b < 256 → ∀ e, e < 8 → bc_s2 (bc_s1 b) + bc_s2 (bc_s1 b) / 16 + 16 * e < 256 ∧ (bc_s2 (bc_s1 b) + bc_s2 (bc_s1 b) / 16 + 16 * e) &&& 15 = bc_s3 (bc_s2 (bc_s1 b)) := by decide +kernel
theorem bc_b1 : ∀ b, b < 256 → bc_s1 b < 256 := by decide +kernel
theorem bc_b2 : ∀ b, b < 256 → bc_s2 (bc_s1 b) < 256 ∧ bc_s2 (bc_s1 b) % 16 < 8 := by decide +kernel
theorem bc_b3 : ∀ b, b < 256 → bc_p b ≤ 8 := by decide +kernel
theorem bc_half (b x : Nat) (hb : b < 256) : (b + 256 * x) / 2 = (b / 2 + 128 * (x % 2)) + 256 * (x / 2) := by omega
theorem bc_quarter (b x : Nat) (hb : b < 256) : (b + 256 * x) / 4 = (b / 4 + 64 * (x % 4)) + 256 * (x / 4) := by omega
theorem bc_1 : ∀ l : List Nat, (∀ b ∈ l, b < 256) → (bc_ev l / 2 &&& bc_m 85 l.length) ≤ bc_ev l ∧ bc_ev l - (bc_ev l / 2 &&& bc_m 85 l.length) = bc_ev (l.map bc_s1)
  | [], _ => ⟨Nat.le_refl _, rfl⟩
  | b :: l, h => by
    have hb : b < 256 := h b List.mem_cons_self
    obtain ⟨i1, i2⟩ := bc_1 l (fun c hc => h c (List.mem_cons_of_mem _ hc))
    show ((b + 256 * bc_ev l) / 2 &&& (85 + 256 * bc_m 85 l.length)) ≤ _ ∧ _ - ((b + 256 * bc_ev l) / 2 &&& (85 + 256 * bc_m 85 l.length)) = bc_s1 b + 256 * bc_ev (l.map bc_s1)
    rw [bc_half b _ hb, bc_and (by omega) (by omega), bc_k1 b hb _ (Nat.mod_lt _ (by omega)), ← i2]
    have k := bc_k1b b hb
    show _ ≤ b + 256 * bc_ev l ∧ (b + 256 * bc_ev l) - _ = (b - (b / 2 &&& 85)) + 256 * (bc_ev l - (bc_ev l / 2 &&& bc_m 85 l.length))
    generalize (b / 2 &&& 85) = u at k ⊢
    generalize (bc_ev l / 2 &&& bc_m 85 l.length) = v at i1 ⊢
    omega
theorem bc_2 : ∀ l : List Nat, (∀ b ∈ l, b < 256) → (bc_ev l &&& bc_m 51 l.length) + (bc_ev l / 4 &&& bc_m 51 l.length) = bc_ev (l.map bc_s2)
  | [], _ => rfl
  | b :: l, h => by
    have hb : b < 256 := h b List.mem_cons_self
    have i2 := bc_2 l (fun c hc => h c (List.mem_cons_of_mem _ hc))
    show ((b + 256 * bc_ev l) &&& (51 + 256 * bc_m 51 l.length)) + ((b + 256 * bc_ev l) / 4 &&& (51 + 256 * bc_m 51 l.length)) = bc_s2 b + 256 * bc_ev (l.map bc_s2)
    rw [bc_quarter b _ hb, bc_and (by omega) (by omega), bc_and (by omega) (by omega), bc_k2 b hb _ (Nat.mod_lt _ (by omega)), ← i2]
    show _ = ((b &&& 51) + (b / 4 &&& 51)) + 256 * _
    omega
theorem bc_3 : ∀ l : List Nat, (∀ b ∈ l, b < 256) → ∀ l2, l2 = l.map (fun b => bc_s2 (bc_s1 b)) → bc_ev l2 % 16 < 8 ∧ ((bc_ev l2 + bc_ev l2 / 16) &&& bc_m 15 l2.length) = bc_ev (l2.map bc_s3)
  | [], _, l2, e => by subst e; exact ⟨by decide, rfl⟩
  | b :: l, h, l2, e => by
    subst e
    have hb : b < 256 := h b List.mem_cons_self
    obtain ⟨i1, i2⟩ := bc_3 l (fun c hc => h c (List.mem_cons_of_mem _ hc)) _ rfl
    obtain ⟨k1, k2⟩ := bc_b2 b hb
    show (bc_s2 (bc_s1 b) + 256 * bc_ev (l.map fun b => bc_s2 (bc_s1 b))) % 16 < 8 ∧ ((bc_s2 (bc_s1 b) + 256 * bc_ev (l.map fun b => bc_s2 (bc_s1 b))) + (bc_s2 (bc_s1 b) + 256 * bc_ev (l.map fun b => bc_s2 (bc_s1 b))) / 16 &&& (15 + 256 * bc_m 15 (l.map fun b => bc_s2 (bc_s1 b)).length)) = bc_s3 (bc_s2 (bc_s1 b)) + 256 * bc_ev ((l.map fun b => bc_s2 (bc_s1 b)).map bc_s3)
    rw [← i2]
    generalize bc_ev (l.map fun b => bc_s2 (bc_s1 b)) = E at i1 ⊢
    obtain ⟨k3, k4⟩ := bc_k3 b hb (E % 16) i1
    have e1 : (bc_s2 (bc_s1 b) + 256 * E) + (bc_s2 (bc_s1 b) + 256 * E) / 16 = (bc_s2 (bc_s1 b) + bc_s2 (bc_s1 b) / 16 + 16 * (E % 16)) + 256 * (E + E / 16) := by
      generalize bc_s2 (bc_s1 b) = q at k1 ⊢
      omega
    refine ⟨by omega, ?_⟩
    rw [e1, bc_and k3 (by omega), k4]
theorem bc_m8 : bc_m 85 8 = 6148914691236517205 ∧ bc_m 51 8 = 3689348814741910323 ∧ bc_m 15 8 = 1085102592571150095 := by decide +kernel
/-- what Long.bitCount computes, on numbers below 2^64 -/
def bc_a (x : Nat) : Nat := x - (x / 2 &&& 6148914691236517205)
def bc_b (x : Nat) : Nat := (bc_a x &&& 3689348814741910323) + (bc_a x / 4 &&& 3689348814741910323)
def bc_d (x : Nat) : Nat := (bc_b x + bc_b x / 16) &&& 1085102592571150095
def bc_f (x : Nat) : Nat := bc_d x + bc_d x / 256
def bc_g (x : Nat) : Nat := bc_f x + bc_f x / 65536
def bc_h (x : Nat) : Nat := bc_g x + bc_g x / 4294967296
def bc_dl : Nat → Nat → List Nat
  | 0, _ => []
  | m + 1, x => x % 256 :: bc_dl m (x / 256)
theorem bc_dl_ev : ∀ (m x : Nat), x < 256 ^ m → bc_ev (bc_dl m x) = x
  | 0, x, h => by
    have : x = 0 := by simpa using h
    subst this
    rfl
  | m + 1, x, h => by
    show x % 256 + 256 * bc_ev (bc_dl m (x / 256)) = x
    rw [Nat.pow_succ] at h
    rw [bc_dl_ev m (x / 256) (Nat.div_lt_of_lt_mul (by rw [Nat.mul_comm]; exact h))]
    omega
theorem bc_dl_lt : ∀ (m x : Nat), ∀ b ∈ bc_dl m x, b < 256
  | 0, x, b, h => by cases h
  | m + 1, x, b, h => by
    rcases List.mem_cons.mp h with h | h
    · subst h
      exact Nat.mod_lt _ (by omega)
    · exact bc_dl_lt m _ b h
theorem bc_dl_len : ∀ (m x : Nat), (bc_dl m x).length = m
  | 0, _ => rfl
  | m + 1, x => by
    show (bc_dl m (x / 256)).length + 1 = m + 1
    rw [bc_dl_len m]
theorem bc_steps {x : Nat} (h : x < 2 ^ 64) : (x / 2 &&& 6148914691236517205) ≤ x ∧ bc_a x = bc_ev ((bc_dl 8 x).map bc_s1) ∧
    bc_b x = bc_ev ((bc_dl 8 x).map (fun b => bc_s2 (bc_s1 b))) ∧ bc_d x = bc_ev ((bc_dl 8 x).map bc_p) := by
  obtain ⟨m1, m2, m3⟩ := bc_m8
  have hl := bc_dl_lt 8 x
  have he : bc_ev (bc_dl 8 x) = x := bc_dl_ev 8 x (by omega)
  obtain ⟨a1, a2⟩ := bc_1 (bc_dl 8 x) hl
  have hl1 : ∀ b ∈ (bc_dl 8 x).map bc_s1, b < 256 := fun b hb => by
    obtain ⟨c, hc, rfl⟩ := List.mem_map.mp hb
    exact bc_b1 c (hl c hc)
  have a3 := bc_2 ((bc_dl 8 x).map bc_s1) hl1
  obtain ⟨-, a4⟩ := bc_3 (bc_dl 8 x) hl _ rfl
  rw [bc_dl_len, m1, he] at a1 a2
  rw [List.length_map, bc_dl_len, m2, List.map_map] at a3
  rw [List.length_map, bc_dl_len, m3, List.map_map] at a4
  have b1 : bc_a x = bc_ev ((bc_dl 8 x).map bc_s1) := a2
  have b2 : bc_b x = bc_ev ((bc_dl 8 x).map (fun b => bc_s2 (bc_s1 b))) := by
    unfold bc_b
    rw [b1]
    exact a3
  have b3 : bc_d x = bc_ev ((bc_dl 8 x).map bc_p) := by
    unfold bc_d
    rw [b2]
    exact a4
  exact ⟨a1, b1, b2, b3⟩
theorem bc_q1 {c y : Nat} (h : c < 256) : (c + 256 * y) / 256 = y := by omega
theorem bc_q2 {c d y : Nat} (h : c < 256) (h2 : d < 256) : (c + 256 * (d + 256 * y)) / 65536 = y := by omega
theorem bc_q4 {c d f g y : Nat} (h : c < 256) (h2 : d < 256) (h3 : f < 256) (h4 : g < 256) : (c + 256 * (d + 256 * (f + 256 * (g + 256 * y)))) / 4294967296 = y := by omega
theorem bc_add : ∀ l m : List Nat, l.length = m.length → bc_ev l + bc_ev m = bc_ev (List.zipWith (fun a b => a + b) l m)
  | [], [], _ => rfl
  | a :: l, b :: m, h => by
    have ih := bc_add l m (Nat.succ.inj h)
    show (a + 256 * bc_ev l) + (b + 256 * bc_ev m) = (a + b) + 256 * bc_ev (List.zipWith (fun a b => a + b) l m)
    rw [← ih]
    omega
theorem bc_lt : ∀ l : List Nat, (∀ b ∈ l, b < 256) → bc_ev l < 256 ^ l.length
  | [], _ => by decide
  | a :: l, h => by
    have ih := bc_lt l (fun b hb => h b (List.mem_cons_of_mem _ hb))
    have ha := h a List.mem_cons_self
    show a + 256 * bc_ev l < 256 ^ (l.length + 1)
    rw [Nat.pow_succ]
    omega
theorem bc_lt8 {l : List Nat} (hl : l.length = 8) (h : ∀ b ∈ l, b < 256) : bc_ev l < 2 ^ 64 := by
  have := bc_lt l h
  rw [hl] at this
  exact this
theorem bc_mod {a y : Nat} (h : a < 128) : (a + 256 * y) % 128 = a := by omega
theorem bc_fold {c0 c1 c2 c3 c4 c5 c6 c7 d : Nat} (h0 : c0 ≤ 8) (h1 : c1 ≤ 8) (h2 : c2 ≤ 8) (h3 : c3 ≤ 8) (h4 : c4 ≤ 8) (h5 : c5 ≤ 8) (h6 : c6 ≤ 8) (h7 : c7 ≤ 8) (hd : d = bc_ev [c0, c1, c2, c3, c4, c5, c6, c7]) {f g : Nat} (hf : f = d + d / 256) (hg : g = f + f / 65536) : (g + g / 4294967296) % 128 = c0 + (c1 + (c2 + (c3 + (c4 + (c5 + (c6 + (c7 + 0))))))) ∧ g + g / 4294967296 < 2 ^ 64 ∧ g < 2 ^ 64 ∧ f < 2 ^ 64 ∧ d < 2 ^ 64 := by
  have e1 : d / 256 = bc_ev [c1, c2, c3, c4, c5, c6, c7, 0] := by
    rw [hd]
    show (c0 + 256 * bc_ev [c1, c2, c3, c4, c5, c6, c7]) / 256 = _
    rw [bc_q1 (by omega)]
    simp [bc_ev]
  have e2 : f = bc_ev [c0 + c1, c1 + c2, c2 + c3, c3 + c4, c4 + c5, c5 + c6, c6 + c7, c7 + 0] := by
    rw [hf, e1, hd]
    exact bc_add _ _ rfl
  have e3 : f / 65536 = bc_ev [c2 + c3, c3 + c4, c4 + c5, c5 + c6, c6 + c7, c7 + 0, 0, 0] := by
    rw [e2]
    show (c0 + c1 + 256 * (c1 + c2 + 256 * bc_ev [c2 + c3, c3 + c4, c4 + c5, c5 + c6, c6 + c7, c7 + 0])) / 65536 = _
    rw [bc_q2 (by omega) (by omega)]
    simp [bc_ev]
  have e4 : g = bc_ev [c0 + c1 + (c2 + c3), c1 + c2 + (c3 + c4), c2 + c3 + (c4 + c5), c3 + c4 + (c5 + c6), c4 + c5 + (c6 + c7), c5 + c6 + (c7 + 0), c6 + c7 + 0, c7 + 0 + 0] := by
    rw [hg, e3, e2]
    exact bc_add _ _ rfl
  have e5 : g / 4294967296 = bc_ev [c4 + c5 + (c6 + c7), c5 + c6 + (c7 + 0), c6 + c7 + 0, c7 + 0 + 0, 0, 0, 0, 0] := by
    rw [e4]
    show (c0 + c1 + (c2 + c3) + 256 * (c1 + c2 + (c3 + c4) + 256 * (c2 + c3 + (c4 + c5) + 256 * (c3 + c4 + (c5 + c6) + 256 * bc_ev [c4 + c5 + (c6 + c7), c5 + c6 + (c7 + 0), c6 + c7 + 0, c7 + 0 + 0])))) / 4294967296 = _
    rw [bc_q4 (by omega) (by omega) (by omega) (by omega)]
    simp [bc_ev]
  have e6 : g + g / 4294967296 = bc_ev [c0 + c1 + (c2 + c3) + (c4 + c5 + (c6 + c7)), c1 + c2 + (c3 + c4) + (c5 + c6 + (c7 + 0)), c2 + c3 + (c4 + c5) + (c6 + c7 + 0), c3 + c4 + (c5 + c6) + (c7 + 0 + 0), c4 + c5 + (c6 + c7) + 0, c5 + c6 + (c7 + 0) + 0, c6 + c7 + 0 + 0, c7 + 0 + 0 + 0] := by
    rw [e5, e4]
    exact bc_add _ _ rfl
  refine ⟨?_, ?_, ?_, ?_, ?_⟩
  · rw [e6]
    show (c0 + c1 + (c2 + c3) + (c4 + c5 + (c6 + c7)) + 256 * _) % 128 = _
    rw [bc_mod (by omega)]
    omega
  · rw [e6]
    exact bc_lt8 rfl (by simp only [List.mem_cons, List.not_mem_nil, or_false]; omega)
  · rw [e4]
    exact bc_lt8 rfl (by simp only [List.mem_cons, List.not_mem_nil, or_false]; omega)
  · rw [e2]
    exact bc_lt8 rfl (by simp only [List.mem_cons, List.not_mem_nil, or_false]; omega)
  · rw [hd]
    exact bc_lt8 rfl (by simp only [List.mem_cons, List.not_mem_nil, or_false]; omega)
def bc_sum : List Nat → Nat
  | [] => 0
  | b :: l => bc_p b + bc_sum l
theorem bc_byte : ∀ b, b < 256 → cn (fun i => b.testBit i) 8 = bc_p b := by decide +kernel
theorem bc_byteN (y : Nat) : cn (fun i => y.testBit i) 8 = bc_p (y % 256) := by
  rw [← bc_byte _ (Nat.mod_lt _ (by omega))]
  exact cn_congr (fun i hi => by
    rw [show (256 : Nat) = 2 ^ 8 from rfl, Nat.testBit_mod_two_pow]
    simp [hi])
theorem bc_cn : ∀ (m x : Nat), cn (fun i => x.testBit i) (8 * m) = bc_sum (bc_dl m x)
  | 0, _ => rfl
  | m + 1, x => by
    rw [show 8 * (m + 1) = 8 + 8 * m by omega, cn_add, bc_byteN]
    show _ = bc_p (x % 256) + bc_sum (bc_dl m (x / 256))
    rw [← bc_cn m (x / 256)]
    congr 1
    exact cn_congr (fun i _ => by rw [show (256 : Nat) = 2 ^ 8 from rfl, Nat.testBit_div_two_pow, Nat.add_comm])
/-- Long.bitCount counts the bits -/
theorem bc_count {x : Nat} (h : x < 2 ^ 64) : bc_h x % 128 = cn (fun i => x.testBit i) 64 ∧ bc_h x < 2 ^ 64 ∧ bc_g x < 2 ^ 64 ∧ bc_f x < 2 ^ 64 ∧ bc_d x < 2 ^ 64 := by
  obtain ⟨-, -, -, a4⟩ := bc_steps h
  have hl := bc_dl_lt 8 x
  rw [show (64 : Nat) = 8 * 8 from rfl, bc_cn]
  have q : ∀ b ∈ bc_dl 8 x, bc_p b ≤ 8 := fun b hb => bc_b3 b (hl b hb)
  have hlen := bc_dl_len 8 x
  generalize bc_dl 8 x = l at a4 q hlen ⊢
  match l, hlen with
  | [b0, b1, b2, b3, b4, b5, b6, b7], _ =>
    have r := bc_fold (q b0 (by simp)) (q b1 (by simp)) (q b2 (by simp)) (q b3 (by simp)) (q b4 (by simp)) (q b5 (by simp)) (q b6 (by simp)) (q b7 (by simp)) a4 (f := bc_f x) (g := bc_g x) rfl rfl
    exact r
