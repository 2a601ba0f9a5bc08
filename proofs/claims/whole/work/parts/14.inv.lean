/-! what always holds, kept by every call -/
def zR (n : Nat → Nat) (ps cx rd : Nat → Nat → Nat) : Prop := ∀ k c, rd k c = zNew (n k) (ps k) (cx k c)
theorem zR_lt {n : Nat → Nat} {ps cx rd : Nat → Nat → Nat} (h : zR n ps cx rd) (hcx : ∀ k c, cx k c < 2 ^ n k) (k c : Nat) : rd k c < 2 ^ n k := by
  rw [h k c]
  exact Nat.lt_of_le_of_lt (zNew_le _ _ _) (hcx k c)
theorem zG_cx {S C : Nat} {n : Nat → Nat} {mk ct ps kn cx cx2 : Nat → Nat → Nat} (h : zG S C n mk ct ps kn cx) (h2 : ∀ k c, cx2 k c < 2 ^ n k) : zG S C n mk ct ps kn cx2 := by
  obtain ⟨h1, h3, h4, h5, h6, h7, h8, h9, h10⟩ := h
  exact ⟨h1, h3, h4, h5, h6, h7, h2, h9, h10⟩
theorem zUb {f : Nat → Nat → Nat} {n : Nat → Nat} {k j v : Nat} (h : ∀ a b, f a b < 2 ^ n a) (hv : v < 2 ^ n k) (a b : Nat) : zU f k j v a b < 2 ^ n a := by
  unfold zU zu
  by_cases h1 : a = k
  · rw [if_pos h1]
    by_cases h2 : b = j
    · rw [if_pos h2, h1]
      exact hv
    · rw [if_neg h2]
      exact h a b
  · rw [if_neg h1]
    exact h a b
theorem zG_get {S C : Nat} {n : Nat → Nat} {mk ct ps kn cx : Nat → Nat → Nat} (h : zG S C n mk ct ps kn cx) (x1 x2 x3 : Int32) : zG S C n mk ct ps kn (uGet S C kn cx x1 x2 x3) := by
  refine zG_cx h ?_
  obtain ⟨-, -, -, -, -, hkn, hcx, -, -⟩ := h
  unfold uGet
  cases zD S x1 with
  | none => exact hcx
  | some s =>
    cases zD C x2 with
    | none => exact hcx
    | some c =>
      cases zD 3 x3 with
      | none => exact hcx
      | some k => exact zUb hcx (hkn k s)
theorem zG_forget {S C : Nat} {n : Nat → Nat} {mk ct ps kn cx : Nat → Nat → Nat} (h : zG S C n mk ct ps kn cx) (x1 x2 : Int32) : zG S C n mk ct ps kn (uForget C cx x1 x2) := by
  refine zG_cx h ?_
  obtain ⟨-, -, -, -, -, hkn, hcx, -, -⟩ := h
  unfold uForget
  cases zD C x1 with
  | none => exact hcx
  | some c =>
    cases zD 3 x2 with
    | none => exact hcx
    | some k => exact zUb hcx (Nat.two_pow_pos _)
theorem zG_sync1 {S C : Nat} {n : Nat → Nat} {mk ct ps kn cx : Nat → Nat → Nat} (h : zG S C n mk ct ps kn cx) (k a b : Nat) : zG S C n mk ct ps (zU (zU kn k a (kn k a ||| kn k b)) k b (kn k a ||| kn k b)) cx := by
  obtain ⟨h1, h3, h4, h5, h6, h7, h8, h9, h10⟩ := h
  have hor : kn k a ||| kn k b < 2 ^ n k := Nat.or_lt_two_pow (h7 k a) (h7 k b)
  refine ⟨h1, h3, h4, h5, h6, zUb (zUb h7 hor) hor, h8, h9, fun q w hw => ?_⟩
  have old := h10 q w hw
  generalize mk q w = c at old ⊢
  by_cases e1 : q = k
  · subst e1
    by_cases e2 : c = b
    · subst e2
      rw [zU_s, Nat.testBit_or, old, Bool.or_true]
    · rw [zU_nj _ _ (Or.inr e2)]
      by_cases e3 : c = a
      · subst e3
        rw [zU_s, Nat.testBit_or, old, Bool.true_or]
      · rw [zU_nj _ _ (Or.inr e3)]
        exact old
  · rw [zU_nj _ _ (Or.inl e1), zU_nj _ _ (Or.inl e1)]
    exact old
theorem zG_sync {S C : Nat} {n : Nat → Nat} {mk ct ps kn cx : Nat → Nat → Nat} (h : zG S C n mk ct ps kn cx) (x1 x2 x3 : Int32) : zG S C n mk ct ps (uSync S kn x1 x2 x3) cx := by
  unfold uSync
  cases zD S x1 with
  | none => exact h
  | some a =>
    cases zD S x2 with
    | none => exact h
    | some b =>
      cases zD 3 x3 with
      | none => exact h
      | some k =>
        show zG S C n mk ct ps (if a = b then kn else _) cx
        by_cases e : a = b
        · rw [if_pos e]; exact h
        · rw [if_neg e]; exact zG_sync1 h k a b
theorem zG_put1 {S C : Nat} {n : Nat → Nat} {mk ct ps kn cx : Nat → Nat → Nat} (h : zG S C n mk ct ps kn cx) {s c k : Nat} (hs : s < S) (hk : n k < 40) :
    zG S C (zu n k (n k + 1)) (zU mk k (n k) s) (zU ct k (n k) (1 + cn (fun v => decide (mk k v = s)) (n k))) (zU ps k (n k) (cx k c)) (zU kn k s (kn k s ||| (cx k c ||| 1 * 2 ^ n k))) cx := by
  obtain ⟨h1, h3, h4, h5, h6, h7, h8, h9, h10⟩ := h
  have hnk : zu n k (n k + 1) k = n k + 1 := zu_s _ _ _
  have hno : ∀ a, a ≠ k → zu n k (n k + 1) a = n a := fun a ha => zu_n _ _ ha
  have hle : ∀ a, n a ≤ zu n k (n k + 1) a := fun a => by
    by_cases e : a = k
    · subst e; rw [hnk]; omega
    · rw [hno a e]; exact Nat.le_refl _
  have hpow : ∀ a x, x < 2 ^ n a → x < 2 ^ zu n k (n k + 1) a := fun a x hx => Nat.lt_of_lt_of_le hx (Nat.pow_le_pow_right (by decide) (hle a))
  have hcnt := cn_le (fun v => decide (mk k v = s)) (n k)
  refine ⟨h1, fun a => ?_, fun a w hw => ?_, fun a w => ?_, fun a w => ?_, fun a b => ?_, fun a b => hpow a _ (h8 a b), fun a w hw => ?_, fun a w hw => ?_⟩
  · by_cases e : a = k
    · subst e; rw [hnk]; omega
    · rw [hno a e]; exact h3 a
  · by_cases e : a = k
    · subst e
      rw [hnk] at hw
      by_cases e2 : w = n a
      · subst e2; rw [zU_s]; exact hs
      · rw [zU_nj _ _ (Or.inr e2)]; exact h4 a w (by omega)
    · rw [hno a e] at hw
      rw [zU_nj _ _ (Or.inl e)]; exact h4 a w hw
  · by_cases e : a = k ∧ w = n k
    · obtain ⟨rfl, rfl⟩ := e
      rw [zU_s]; omega
    · rw [zU_nj _ _ (by omega)]; exact h5 a w
  · by_cases e : a = k ∧ w = n k
    · obtain ⟨rfl, rfl⟩ := e
      rw [zU_s]; exact z40 (h8 a c) (h3 a)
    · rw [zU_nj _ _ (by omega)]; exact h6 a w
  · by_cases e : a = k ∧ b = s
    · obtain ⟨rfl, rfl⟩ := e
      rw [zU_s]
      refine Nat.or_lt_two_pow (hpow a _ (h7 a b)) (Nat.or_lt_two_pow (hpow a _ (h8 a c)) ?_)
      rw [hnk, Nat.one_mul]
      exact Nat.pow_lt_pow_right (by decide) (Nat.lt_succ_self _)
    · rw [zU_nj _ _ (by omega)]; exact hpow a _ (h7 a b)
  · by_cases e : a = k
    · subst e
      rw [hnk] at hw
      by_cases e2 : w = n a
      · subst e2
        rw [zU_s, zU_s]
        congr 1
        exact cn_congr (fun v hv => by rw [zU_nj _ _ (Or.inr (Nat.ne_of_lt hv))])
      · rw [zU_nj _ _ (Or.inr e2), zU_nj _ _ (Or.inr e2), h9 a w (by omega)]
        congr 1
        exact cn_congr (fun v hv => by rw [zU_nj _ _ (Or.inr (by omega))])
    · rw [hno a e] at hw
      rw [zU_n _ _ _ e, zU_n _ _ _ e]
      exact h9 a w hw
  · by_cases e : a = k
    · subst e
      rw [hnk] at hw
      by_cases e2 : w = n a
      · subst e2
        rw [zU_s, zU_s, Nat.testBit_or, Nat.testBit_or, Nat.one_mul, Nat.testBit_two_pow_self, Bool.or_true, Bool.or_true]
      · rw [zU_nj _ _ (Or.inr e2)]
        have old := h10 a w (by omega)
        generalize mk a w = b at old ⊢
        by_cases e3 : b = s
        · subst e3
          rw [zU_s, Nat.testBit_or, old, Bool.true_or]
        · rw [zU_nj _ _ (Or.inr e3)]; exact old
    · rw [hno a e] at hw
      rw [zU_n _ _ _ e, zU_n _ _ _ e]
      exact h10 a w hw
theorem zRep_congr {ps ps2 : Nat → Nat} {set : Nat} : ∀ {i : Nat}, (∀ w, w < i → ps w = ps2 w) → zRep ps set i = zRep ps2 set i
  | 0, _ => rfl
  | i + 1, h => by
    unfold zRep
    rw [h i (by omega), zRep_congr (i := i) (fun w hw => h w (by omega))]
theorem zNew_put {n : Nat} {ps : Nat → Nat} {set v : Nat} (h : set < 2 ^ n) : zNew (n + 1) (zu ps n v) set = zNew n ps set := by
  unfold zNew
  rw [zRep_f (Nat.testBit_lt_two_pow h), zRep_congr (ps2 := ps) (fun w hw => zu_n _ _ (Nat.ne_of_lt hw))]
theorem zR_put1 {n : Nat → Nat} {ps cx rd : Nat → Nat → Nat} {k v : Nat} (h : zR n ps cx rd) (hcx : ∀ k c, cx k c < 2 ^ n k) : zR (zu n k (n k + 1)) (zU ps k (n k) v) cx rd := fun a c => by
  rw [h a c]
  by_cases e : a = k
  · subst e
    rw [zu_s, zU_k, zNew_put (hcx a c)]
  · rw [zu_n _ _ e, zU_n _ _ _ e]
theorem zG_put {S C : Nat} {n : Nat → Nat} {va : Nat → Nat → Int32} {mk ct ps kn cx : Nat → Nat → Nat} (h : zG S C n mk ct ps kn cx) (x1 x2 x3 x4 : Int32) : zG S C (uPut S C n va mk ct ps kn cx x1 x2 x3 x4).1 (uPut S C n va mk ct ps kn cx x1 x2 x3 x4).2.2.1 (uPut S C n va mk ct ps kn cx x1 x2 x3 x4).2.2.2.1 (uPut S C n va mk ct ps kn cx x1 x2 x3 x4).2.2.2.2.1 (uPut S C n va mk ct ps kn cx x1 x2 x3 x4).2.2.2.2.2 cx := by
  unfold uPut
  cases h1 : zD S x1 with
  | none => exact h
  | some s =>
    cases zD C x2 with
    | none => exact h
    | some c =>
      cases zD 3 x3 with
      | none => exact h
      | some k =>
        have hs : s < S := by
          unfold zD at h1
          split at h1
          · cases h1; omega
          · cases h1
        simp only [zq3]
        by_cases e : n k < 40
        · rw [if_pos e]; exact zG_put1 h hs e
        · rw [if_neg e]; exact h
theorem zR_put {S C : Nat} {n : Nat → Nat} {va : Nat → Nat → Int32} {mk ct ps kn cx rd : Nat → Nat → Nat} (h : zR n ps cx rd) (hcx : ∀ k c, cx k c < 2 ^ n k) (x1 x2 x3 x4 : Int32) : zR (uPut S C n va mk ct ps kn cx x1 x2 x3 x4).1 (uPut S C n va mk ct ps kn cx x1 x2 x3 x4).2.2.2.2.1 cx rd := by
  unfold uPut
  cases zD S x1 with
  | none => exact h
  | some s =>
    cases zD C x2 with
    | none => exact h
    | some c =>
      cases zD 3 x3 with
      | none => exact h
      | some k =>
        simp only [zq3]
        by_cases e : n k < 40
        · rw [if_pos e]; exact zR_put1 h hcx
        · rw [if_neg e]; exact h
theorem zR_U {n : Nat → Nat} {ps cx rd : Nat → Nat → Nat} {k c v : Nat} (h : zR n ps cx rd) : zR n ps (zU cx k c v) (zU rd k c (zNew (n k) (ps k) v)) := fun a b => by
  by_cases e : a = k ∧ b = c
  · obtain ⟨rfl, rfl⟩ := e
    rw [zU_s, zU_s]
  · rw [zU_nj _ _ (by omega), zU_nj _ _ (by omega)]
    exact h a b
theorem zR_get {S C : Nat} {n : Nat → Nat} {ps kn cx rd : Nat → Nat → Nat} (h : zR n ps cx rd) (x1 x2 x3 : Int32) : zR n ps (uGet S C kn cx x1 x2 x3) (vGet S C n ps kn rd x1 x2 x3) := by
  unfold uGet vGet
  cases zD S x1 with
  | none => exact h
  | some s =>
    cases zD C x2 with
    | none => exact h
    | some c =>
      cases zD 3 x3 with
      | none => exact h
      | some k => exact zR_U h
theorem zR_forget {C : Nat} {n : Nat → Nat} {ps cx rd : Nat → Nat → Nat} (h : zR n ps cx rd) (x1 x2 : Int32) : zR n ps (uForget C cx x1 x2) (uForget C rd x1 x2) := by
  unfold uForget
  cases zD C x1 with
  | none => exact h
  | some c =>
    cases zD 3 x2 with
    | none => exact h
    | some k =>
      have := zR_U (k := k) (c := c) (v := 0) h
      rw [show zNew (n k) (ps k) 0 = 0 from Nat.zero_and _] at this
      exact this
theorem zR_read {S C : Nat} {n : Nat → Nat} {va : Nat → Nat → Int32} {mk ps cx rd : Nat → Nat → Nat} (h : zR n ps cx rd) (x1 x2 x3 : Int32) : aRead2 S C n va mk rd x1 x2 x3 = aRead S C n va mk ps cx x1 x2 x3 := by
  unfold aRead aRead2
  congr 1
  funext c k
  rw [h k c]
theorem zG_0 {S C : Nat} (h : 1 ≤ S ∧ S ≤ 4) (h2 : 1 ≤ C ∧ C ≤ 4) : zG S C (fun _ => 0) (fun _ _ => 0) (fun _ _ => 0) (fun _ _ => 0) (fun _ _ => 0) (fun _ _ => 0) :=
  ⟨⟨h.1, h.2, h2.1, h2.2⟩, fun _ => Nat.zero_le _, fun _ _ hw => absurd hw (Nat.not_lt_zero _), fun _ _ => Nat.zero_le _, fun _ _ => by show 0 < 2 ^ 40; decide, fun _ _ => by show 0 < 2 ^ 0; decide, fun _ _ => by show 0 < 2 ^ 0; decide, fun _ _ hw => absurd hw (Nat.not_lt_zero _), fun _ _ hw => absurd hw (Nat.not_lt_zero _)⟩
theorem zR_0 : zR (fun _ => 0) (fun _ _ => 0) (fun _ _ => 0) (fun _ _ => 0) := fun _ _ => (Nat.zero_and _).symm
