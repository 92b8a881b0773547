/-! whom a SUM can reach: the rule -/
def rJ (A : Nat → Nat → Bool) (h i : Nat) : Nat → Nat → Nat
  | 0, x => x
  | j + 1, x => if (rJ A h i j x).testBit i = true ∧ j ≠ h ∧ A i j = true then rJ A h i j x ||| 2 ^ j else rJ A h i j x
def rI (A : Nat → Nat → Bool) (h n : Nat) : Nat → Nat → Nat
  | 0, x => x
  | i + 1, x => rJ A h i n (rI A h n i x)
def rR (A : Nat → Nat → Bool) (h n : Nat) : Nat → Nat → Nat
  | 0, x => x
  | k + 1, x => rI A h n n (rR A h n k x)
theorem set_bit (y j i : Nat) : (y ||| 2 ^ j).testBit i = (y.testBit i || decide (j = i)) := by rw [Nat.testBit_or, Nat.testBit_two_pow]
theorem set_old {y j : Nat} (h : y.testBit j = true) : y ||| 2 ^ j = y := by
  apply Nat.eq_of_testBit_eq
  intro i
  rw [set_bit]
  by_cases e : j = i
  · subst e; rw [h]; rfl
  · simp [e]
theorem pcn_same {x y : Nat} : ∀ n, (∀ i, i < n → x.testBit i = y.testBit i) → pcn x n = pcn y n
  | 0, _ => rfl
  | n + 1, h => by
    unfold pcn
    rw [pcn_same n (fun i hi => h i (by omega)), h n (by omega)]
theorem pcn_set {y j : Nat} (h : y.testBit j = false) : ∀ n, j < n → pcn (y ||| 2 ^ j) n = pcn y n + 1
  | 0, hj => by omega
  | n + 1, hj => by
    unfold pcn
    by_cases e : j = n
    · subst e
      rw [pcn_same (x := y ||| 2 ^ j) (y := y) j (fun i hi => by rw [set_bit]; simp [show j ≠ i by omega]), set_bit, h]
      simp
    · rw [pcn_set h n (by omega), set_bit]
      simp [e]
      omega
theorem rJ_ge (A : Nat → Nat → Bool) (h i : Nat) (x k : Nat) (hx : x.testBit k = true) : ∀ j, (rJ A h i j x).testBit k = true
  | 0 => hx
  | j + 1 => by
    unfold rJ
    split
    · rw [set_bit, rJ_ge A h i x k hx j]; rfl
    · exact rJ_ge A h i x k hx j
theorem rI_ge (A : Nat → Nat → Bool) (h n : Nat) (x k : Nat) (hx : x.testBit k = true) : ∀ i, (rI A h n i x).testBit k = true
  | 0 => hx
  | i + 1 => rJ_ge A h i _ k (rI_ge A h n x k hx i) n
theorem rR_ge (A : Nat → Nat → Bool) (h n : Nat) (x k : Nat) (hx : x.testBit k = true) : ∀ r, (rR A h n r x).testBit k = true
  | 0 => hx
  | r + 1 => rI_ge A h n _ k (rR_ge A h n x k hx r) n
theorem rJ_lt (A : Nat → Nat → Bool) (h i : Nat) {x : Nat} (hx : x < 64) : ∀ j, j ≤ 6 → rJ A h i j x < 64
  | 0, _ => hx
  | j + 1, hj => by
    have := rJ_lt A h i hx j (by omega)
    unfold rJ
    split
    · exact Nat.or_lt_two_pow (n := 6) this (Nat.pow_lt_pow_right (by omega) (by omega) : 2 ^ j < 2 ^ 6)
    · exact this
theorem rI_lt (A : Nat → Nat → Bool) (h : Nat) {n x : Nat} (hn : n ≤ 6) (hx : x < 64) : ∀ i, rI A h n i x < 64
  | 0 => hx
  | i + 1 => rJ_lt A h i (rI_lt A h hn hx i) n hn
theorem rR_lt (A : Nat → Nat → Bool) (h : Nat) {n x : Nat} (hn : n ≤ 6) (hx : x < 64) : ∀ i, rR A h n i x < 64
  | 0 => hx
  | i + 1 => rI_lt A h hn (rR_lt A h hn hx i) n
theorem rJ_up (A : Nat → Nat → Bool) (h i n x : Nat) : ∀ j, j ≤ n → rJ A h i j x = x ∨ pcn x n < pcn (rJ A h i j x) n
  | 0, _ => Or.inl rfl
  | j + 1, hj => by
    have ih := rJ_up A h i n x j (by omega)
    unfold rJ
    split
    · by_cases e : (rJ A h i j x).testBit j = true
      · rw [set_old e]; exact ih
      · have e2 : (rJ A h i j x).testBit j = false := by simpa using e
        rw [pcn_set e2 n (by omega)]
        rcases ih with h1 | h1
        · rw [h1]; exact Or.inr (by omega)
        · exact Or.inr (by omega)
    · exact ih
theorem rI_up (A : Nat → Nat → Bool) (h n x : Nat) : ∀ i, rI A h n i x = x ∨ pcn x n < pcn (rI A h n i x) n
  | 0 => Or.inl rfl
  | i + 1 => by
    have ih := rI_up A h n x i
    have h1 := rJ_up A h i n (rI A h n i x) n (Nat.le_refl _)
    unfold rI
    rcases h1 with h1 | h1
    · rw [h1]; exact ih
    · rcases ih with h2 | h2
      · rw [h2] at h1 ⊢; exact Or.inr h1
      · exact Or.inr (by omega)
theorem rR_up (A : Nat → Nat → Bool) (h n x : Nat) : ∀ k, rR A h n (k + 1) x = rR A h n k x ∨ pcn x n + k + 1 ≤ pcn (rR A h n (k + 1) x) n
  | 0 => by
    rcases rI_up A h n x n with h1 | h1
    · exact Or.inl h1
    · exact Or.inr (by show pcn x n + 0 + 1 ≤ pcn (rI A h n n x) n; omega)
  | k + 1 => by
    rcases rR_up A h n x k with h1 | h1
    · left
      show rI A h n n (rR A h n (k + 1) x) = rI A h n n (rR A h n k x)
      rw [h1]
    · rcases rI_up A h n (rR A h n (k + 1) x) n with h2 | h2
      · exact Or.inl h2
      · exact Or.inr (by show pcn x n + (k + 1) + 1 ≤ pcn (rI A h n n (rR A h n (k + 1) x)) n; omega)
theorem pcn_one {f n : Nat} (hf : f < n) : pcn (2 ^ f) n = 1 := by
  have h0 : ∀ j, pcn 0 j = 0 := by
    intro j
    induction j with
    | zero => rfl
    | succ j ih => unfold pcn; rw [ih]; simp
  have := pcn_set (y := 0) (j := f) (by simp) n hf
  rw [Nat.zero_or, h0] at this
  exact this
theorem rR_fix (A : Nat → Nat → Bool) (h : Nat) {n f : Nat} (hf : f < n) : rR A h n n (2 ^ f) = rR A h n (n - 1) (2 ^ f) := by
  rcases rR_up A h n (2 ^ f) (n - 1) with h1 | h1
  · rw [show n - 1 + 1 = n by omega] at h1; exact h1
  · rw [pcn_one hf] at h1
    have := pcn_le (rR A h n (n - 1 + 1) (2 ^ f)) n
    omega
theorem rR_on (A : Nat → Nat → Bool) (h : Nat) {n f : Nat} (hf : f < n) : ∀ r, rR A h n (n - 1 + r) (2 ^ f) = rR A h n (n - 1) (2 ^ f)
  | 0 => rfl
  | r + 1 => by
    show rI A h n n (rR A h n (n - 1 + r) (2 ^ f)) = _
    rw [rR_on A h hf r]
    have := rR_fix A h hf
    have e : rR A h n n (2 ^ f) = rI A h n n (rR A h n (n - 1) (2 ^ f)) := by
      obtain ⟨m, rfl⟩ : ∃ m, n = m + 1 := ⟨n - 1, by omega⟩
      rfl
    rw [← e]; exact this
def rch (A : Nat → Nat → Bool) (h n f : Nat) : Nat := rR A h n (n - 1) (2 ^ f)
theorem rch_6 (A : Nat → Nat → Bool) (h : Nat) {n f : Nat} (hf : f < n) (hn : n ≤ 6) : rR A h n 6 (2 ^ f) = rch A h n f := by
  have := rR_on A h hf (7 - n)
  rw [show n - 1 + (7 - n) = 6 by omega] at this
  exact this
theorem rch_lt (A : Nat → Nat → Bool) (h : Nat) {n f : Nat} (hf : f < n) (hn : n ≤ 6) : rch A h n f < 64 := rR_lt A h hn (Nat.pow_lt_pow_right (by omega) (by omega) : 2 ^ f < 2 ^ 6) _
theorem rch_self (A : Nat → Nat → Bool) (h n f : Nat) : (rch A h n f).testBit f = true := rR_ge A h n _ f (by rw [Nat.testBit_two_pow]; simp) _
theorem rJ_in (A : Nat → Nat → Bool) (h i x : Nat) (C : Nat → Prop) (hc : ∀ j, C i → A i j = true → j ≠ h → C j) (hx : ∀ k, x.testBit k = true → C k) : ∀ j k, (rJ A h i j x).testBit k = true → C k
  | 0, k, hk => hx k hk
  | j + 1, k, hk => by
    have ih := rJ_in A h i x C hc hx j
    unfold rJ at hk
    split at hk
    · next q =>
      rw [set_bit] at hk
      by_cases e : j = k
      · subst e; exact hc j (ih i q.1) q.2.2 q.2.1
      · simp [e] at hk; exact ih k hk
    · exact ih k hk
theorem rI_in (A : Nat → Nat → Bool) (h n x : Nat) (C : Nat → Prop) (hc : ∀ i j, C i → A i j = true → j ≠ h → C j) (hx : ∀ k, x.testBit k = true → C k) : ∀ i k, (rI A h n i x).testBit k = true → C k
  | 0, k, hk => hx k hk
  | i + 1, k, hk => rJ_in A h i _ C (hc i) (rI_in A h n x C hc hx i) n k hk
theorem rR_in (A : Nat → Nat → Bool) (h n x : Nat) (C : Nat → Prop) (hc : ∀ i j, C i → A i j = true → j ≠ h → C j) (hx : ∀ k, x.testBit k = true → C k) : ∀ i k, (rR A h n i x).testBit k = true → C k
  | 0, k, hk => hx k hk
  | i + 1, k, hk => rI_in A h n _ C hc (rR_in A h n x C hc hx i) n k hk
theorem rch_in (A : Nat → Nat → Bool) (h n f : Nat) (C : Nat → Prop) (hc : ∀ i j, C i → A i j = true → j ≠ h → C j) (hf : C f) {k : Nat} (hk : (rch A h n f).testBit k = true) : C k :=
  rR_in A h n _ C hc (fun k hk => by
    rw [Nat.testBit_two_pow] at hk
    have : f = k := by simpa using hk
    rw [← this]; exact hf) _ k hk
theorem rJ_cl (A : Nat → Nat → Bool) (h i x j : Nat) (hx : x.testBit i = true) (hA : A i j = true) (hj : j ≠ h) : ∀ r, (rJ A h i (j + 1 + r) x).testBit j = true
  | 0 => by
    show (if (rJ A h i j x).testBit i = true ∧ j ≠ h ∧ A i j = true then rJ A h i j x ||| 2 ^ j else rJ A h i j x).testBit j = true
    rw [if_pos ⟨rJ_ge A h i x i hx j, hj, hA⟩, set_bit]
    simp
  | r + 1 => by
    show (if (rJ A h i (j + 1 + r) x).testBit i = true ∧ j + 1 + r ≠ h ∧ A i (j + 1 + r) = true then rJ A h i (j + 1 + r) x ||| 2 ^ (j + 1 + r) else rJ A h i (j + 1 + r) x).testBit j = true
    split
    · rw [set_bit, rJ_cl A h i x j hx hA hj r]; rfl
    · exact rJ_cl A h i x j hx hA hj r
theorem rI_cl (A : Nat → Nat → Bool) (h n x i j : Nat) (hx : x.testBit i = true) (hjn : j < n) (hA : A i j = true) (hj : j ≠ h) : ∀ r, (rI A h n (i + 1 + r) x).testBit j = true
  | 0 => by
    show (rJ A h i n (rI A h n i x)).testBit j = true
    have := rJ_cl A h i (rI A h n i x) j (rI_ge A h n x i hx i) hA hj (n - (j + 1))
    rw [show j + 1 + (n - (j + 1)) = n by omega] at this
    exact this
  | r + 1 => rJ_ge A h _ _ j (rI_cl A h n x i j hx hjn hA hj r) n
theorem rch_cl (A : Nat → Nat → Bool) (h : Nat) {n f i j : Nat} (hf : f < n) (hi : i < n) (hj : j < n) (hx : (rch A h n f).testBit i = true) (hA : A i j = true) (hjh : j ≠ h) : (rch A h n f).testBit j = true := by
  have h1 := rI_cl A h n (rch A h n f) i j hx hj hA hjh (n - (i + 1))
  rw [show i + 1 + (n - (i + 1)) = n by omega] at h1
  have e : rI A h n n (rch A h n f) = rch A h n f := rR_on A h hf 1
  rw [e] at h1
  exact h1
theorem rch_sub (A : Nat → Nat → Bool) (h : Nat) {n f i k : Nat} (hAn : ∀ a b, A a b = true → a < n ∧ b < n) (hf : f < n) (hi : i < n) (hx : (rch A h n f).testBit i = true) (hk : (rch A h n i).testBit k = true) : (rch A h n f).testBit k = true :=
  rch_in A h n i (fun k => (rch A h n f).testBit k = true) (fun a b ha hA hb => rch_cl A h hf (hAn a b hA).1 (hAn a b hA).2 ha hA hb) hx hk
theorem rch_sym (A : Nat → Nat → Bool) (h : Nat) {n i j : Nat} (hAn : ∀ a b, A a b = true → a < n ∧ b < n) (hs : ∀ a b, A a b = A b a) (hi : i < n) (hih : i ≠ h) (hj : (rch A h n i).testBit j = true) : (rch A h n j).testBit i = true := by
  have h1 := rch_in A h n i (fun k => k < n ∧ k ≠ h ∧ (rch A h n k).testBit i = true) (fun a b ha hA hb => by
    obtain ⟨q1, q2, q3⟩ := ha
    have hbn := (hAn a b hA).2
    refine ⟨hbn, hb, ?_⟩
    have ka : (rch A h n b).testBit a = true := rch_cl A h hbn hbn q1 (rch_self A h n b) (by rw [hs]; exact hA) q2
    exact rch_sub A h hAn hbn q1 ka q3) ⟨hi, hih, rch_self A h n i⟩ hj
  exact h1.2.2
theorem rch_sym' (A : Nat → Nat → Bool) (h : Nat) {n i j : Nat} (hAn : ∀ a b, A a b = true → a < n ∧ b < n) (hs : ∀ a b, A a b = A b a) (hi : i < n) (hih : i ≠ h) (hj : j < n) (hjh : j ≠ h) : (rch A h n i).testBit j = (rch A h n j).testBit i :=
  bool_ext ⟨rch_sym A h hAn hs hi hih, rch_sym A h hAn hs hj hjh⟩
/-- the pairs that a HEIR parts -/
def prt (A : Nat → Nat → Bool) (n h i j : Nat) : Nat := if i = h ∨ j = h then 0 else if (rch A 7 n i).testBit j = true ∧ (rch A h n i).testBit j = false then 1 else 0
def sR (f : Nat → Nat) : Nat → Nat → Nat
  | _, 0 => 0
  | a, r + 1 => sR f a r + f (a + r)
/-- over the lesser of a pair, then over the greater -/
def t1 (f : Nat → Nat → Nat) (n : Nat) : Nat → Nat
  | 0 => 0
  | i + 1 => t1 f n i + sR (f i) (i + 1) (n - (i + 1))
/-- over the greater of a pair, then over the lesser -/
def t2 (f : Nat → Nat → Nat) : Nat → Nat
  | 0 => 0
  | b + 1 => t2 f b + sR (fun a => f a b) 0 b
theorem t1_up (f : Nat → Nat → Nat) (n : Nat) : ∀ i, i ≤ n → t1 f (n + 1) i = t1 f n i + sR (fun a => f a n) 0 i
  | 0, _ => rfl
  | i + 1, h => by
    have ih := t1_up f n i (by omega)
    have e : sR (f i) (i + 1) (n + 1 - (i + 1)) = sR (f i) (i + 1) (n - (i + 1)) + f i n := by
      rw [show n + 1 - (i + 1) = n - (i + 1) + 1 by omega]
      show sR (f i) (i + 1) (n - (i + 1)) + f i (i + 1 + (n - (i + 1))) = _
      rw [show i + 1 + (n - (i + 1)) = n by omega]
    have e2 : sR (fun a => f a n) 0 (i + 1) = sR (fun a => f a n) 0 i + f i n := by
      show sR (fun a => f a n) 0 i + f (0 + i) n = _
      rw [Nat.zero_add]
    show t1 f (n + 1) i + sR (f i) (i + 1) (n + 1 - (i + 1)) = t1 f n i + sR (f i) (i + 1) (n - (i + 1)) + sR (fun a => f a n) 0 (i + 1)
    rw [ih, e, e2]
    omega
theorem t1_t2 (f : Nat → Nat → Nat) : ∀ n, t1 f n n = t2 f n
  | 0 => rfl
  | n + 1 => by
    have h1 : t1 f (n + 1) (n + 1) = t1 f (n + 1) n := by
      show t1 f (n + 1) n + sR (f n) (n + 1) (n + 1 - (n + 1)) = _
      rw [Nat.sub_self]; rfl
    rw [h1, t1_up f n n (Nat.le_refl _), t1_t2 f n]
    rfl
theorem sR_congr {f f' : Nat → Nat} {a : Nat} : ∀ r, (∀ i, i < r → f (a + i) = f' (a + i)) → sR f a r = sR f' a r
  | 0, _ => rfl
  | r + 1, h => by
    unfold sR
    rw [sR_congr r (fun i hi => h i (by omega)), h r (by omega)]
theorem t2_congr {f f' : Nat → Nat → Nat} : ∀ n, (∀ a b, a < b → b < n → f a b = f' a b) → t2 f n = t2 f' n
  | 0, _ => rfl
  | n + 1, h => by
    unfold t2
    rw [t2_congr n (fun a b q1 q2 => h a b q1 (by omega)), sR_congr (f := fun a => f a n) (f' := fun a => f' a n) n (fun i hi => h (0 + i) n (by omega) (by omega))]
theorem prt_sym (A : Nat → Nat → Bool) {n h a b : Nat} (hAn : ∀ a b, A a b = true → a < n ∧ b < n) (hs : ∀ a b, A a b = A b a) (ha : a < n) (hb : b < n) (hn : n ≤ 6) : prt A n h a b = prt A n h b a := by
  unfold prt
  by_cases e : a = h ∨ b = h
  · rw [if_pos e, if_pos (by omega)]
  · rw [if_neg e, if_neg (show ¬ (b = h ∨ a = h) by omega), rch_sym' A 7 hAn hs ha (by omega) hb (by omega), rch_sym' A h hAn hs ha (by omega) hb (by omega)]
