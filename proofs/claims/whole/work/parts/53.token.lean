/-! TOKENS; the class reads the next one -/
abbrev zTk := Nat × Nat × Nat × Nat
def isLt (b : Nat) : Bool := decide (97 ≤ b ∧ b ≤ 122)
def isDg (b : Nat) : Bool := decide (48 ≤ b ∧ b ≤ 57)
def isBl (b : Nat) : Bool := decide (b = 32 ∨ b = 10)
def isSg (b : Nat) : Bool := decide (b = 40 ∨ b = 41 ∨ b = 59 ∨ b = 43 ∨ b = 45 ∨ b = 42 ∨ b = 60 ∨ b = 61)
def rnX (f : Nat → Bool) (B : Nat → Nat) : Nat → Nat → Nat
  | 0, p => p
  | r + 1, p => if f (B p) then rnX f B r (p + 1) else p
def nmX (B : Nat → Nat) (b : Nat) : Nat → Nat
  | 0 => 0
  | k + 1 => 10 * nmX B b k + B (b + k) - 48
def hsX (B : Nat → Nat) (b : Nat) : Nat → Nat
  | 0 => 0
  | k + 1 => 27 * hsX B b k + B (b + k) - 96
def HX : List Nat := [14, 11570, 267305, 257011, 161370, 2968, 375400, 7008275, 12532058, 423, 1111, 10631]
def WX : List (List Nat) := [[115, 97, 121, 115, 32, 49, 32, 59, 32, 109, 101, 97, 110, 116, 32, 49, 32, 59, 32, 119, 111, 114, 116, 104, 32, 110, 32, 59], [110], [111, 119, 110], [109, 111, 114, 101], [109, 97, 110, 121], [104, 101, 105, 114], [100, 97, 121], [115, 97, 121, 115], [109, 101, 97, 110, 116], [119, 111, 114, 116, 104], [111, 114], [97, 110, 100], [110, 111, 116], [40, 41, 59, 43, 45, 42, 60, 61]]
def wsX (B : Nat → Nat) (b k i : Nat) : Bool := decide (k ≤ 5 ∧ hsX B b k = HX.getD i 0)
def tkW (B : Nat → Nat) (b k : Nat) : Nat → Nat
  | 0 => 0
  | i + 1 => if wsX B b k i then 1000 + i else tkW B b k i
def bgX (B : Nat → Nat) (z p : Nat) : Nat := rnX isBl B (z - p) p
def enX (f : Nat → Bool) (B : Nat → Nat) (z b : Nat) : Nat := rnX f B (z - (b + 1)) (b + 1)
def tkA (B : Nat → Nat) (z b : Nat) : zTk := if z ≤ b then (b, b, 1, 0) else if isLt (B b) then (b, enX isLt B z b, tkW B b (enX isLt B z b - b) 12, 0) else if isDg (B b) then (b, enX isDg B z b, if enX isDg B z b - b ≤ 4 then 2 else 0, nmX B b (min 4 (enX isDg B z b - b))) else if isSg (B b) then (b, b + 1, B b, 0) else (b, b + 1, 0, 0)
def lxX (B : Nat → Nat) (z p : Nat) : zTk := tkA B z (bgX B z p)
theorem rnX_y {f : Nat → Bool} {B : Nat → Nat} {r p : Nat} (h : f (B p) = true) : rnX f B (r + 1) p = rnX f B r (p + 1) := if_pos h
theorem rnX_n {f : Nat → Bool} {B : Nat → Nat} {r p : Nat} (h : f (B p) = false) : rnX f B (r + 1) p = p := if_neg (by rw [h]; decide)
theorem rnX_in (f : Nat → Bool) (B : Nat → Nat) : ∀ r p, p ≤ rnX f B r p ∧ rnX f B r p ≤ p + r
  | 0, p => ⟨Nat.le_refl _, Nat.le_refl _⟩
  | r + 1, p => by
    cases h : f (B p) with
    | true =>
      rw [rnX_y h]
      have := rnX_in f B r (p + 1)
      omega
    | false =>
      rw [rnX_n h]
      omega
theorem rnX_all (f : Nat → Bool) (B : Nat → Nat) : ∀ r p i, p ≤ i → i < rnX f B r p → f (B i) = true
  | 0, p, i, h1, h2 => by
    have h2 : i < p := h2
    omega
  | r + 1, p, i, h1, h2 => by
    cases h : f (B p) with
    | true =>
      rw [rnX_y h] at h2
      by_cases e : i = p
      · rw [e]; exact h
      · exact rnX_all f B r (p + 1) i (by omega) h2
    | false =>
      rw [rnX_n h] at h2
      omega
theorem nmX_lt {B : Nat → Nat} {b : Nat} : ∀ k, (∀ i, i < k → isDg (B (b + i)) = true) → nmX B b k < 10 ^ k
  | 0, _ => by simp [nmX]
  | k + 1, h => by
    have h1 := nmX_lt k (fun i hi => h i (by omega))
    have h2 := of_decide_eq_true (h k (by omega))
    show 10 * nmX B b k + B (b + k) - 48 < 10 ^ (k + 1)
    rw [Nat.pow_succ]
    omega
theorem hsX_lt {B : Nat → Nat} {b : Nat} : ∀ k, (∀ i, i < k → isLt (B (b + i)) = true) → hsX B b k < 27 ^ k
  | 0, _ => by simp [hsX]
  | k + 1, h => by
    have h1 := hsX_lt k (fun i hi => h i (by omega))
    have h2 := of_decide_eq_true (h k (by omega))
    show 27 * hsX B b k + B (b + k) - 96 < 27 ^ (k + 1)
    rw [Nat.pow_succ]
    omega
theorem tkW_in (B : Nat → Nat) (b k : Nat) : ∀ i, tkW B b k i = 0 ∨ (1000 ≤ tkW B b k i ∧ tkW B b k i < 1000 + i)
  | 0 => Or.inl rfl
  | i + 1 => by
    have := tkW_in B b k i
    unfold tkW
    split
    · omega
    · omega
def okT (z : Nat) (k : zTk) : Prop := k.1 ≤ k.2.1 ∧ k.2.1 ≤ z ∧ (k.2.2.1 ≠ 1 → k.1 < k.2.1) ∧ k.2.2.2 ≤ 9999 ∧ (k.2.2.1 ≤ 2 ∨ (40 ≤ k.2.2.1 ∧ k.2.2.1 ≤ 61) ∨ (1000 ≤ k.2.2.1 ∧ k.2.2.1 < 1012))
theorem lxX_ok {B : Nat → Nat} {z p : Nat} (hp : p ≤ z) : okT z (lxX B z p) ∧ p ≤ (lxX B z p).1 := by
  have h1 := rnX_in isBl B (z - p) p
  unfold lxX bgX
  generalize rnX isBl B (z - p) p = b at *
  unfold tkA
  split
  · exact ⟨⟨Nat.le_refl _, by show b ≤ z; omega, fun h => absurd rfl h, by show 0 ≤ 9999; omega, Or.inl (by show 1 ≤ 2; omega)⟩, h1.1⟩
  · next hb =>
    split
    · have h2 := rnX_in isLt B (z - (b + 1)) (b + 1)
      have h3 := tkW_in B b (enX isLt B z b - b) 12
      unfold enX at *
      refine ⟨⟨?_, ?_, fun _ => ?_, ?_, ?_⟩, h1.1⟩
      · show b ≤ rnX isLt B (z - (b + 1)) (b + 1); omega
      · show rnX isLt B (z - (b + 1)) (b + 1) ≤ z; omega
      · show b < rnX isLt B (z - (b + 1)) (b + 1); omega
      · show 0 ≤ 9999; omega
      · show tkW _ _ _ _ ≤ 2 ∨ _ ∨ (1000 ≤ tkW _ _ _ _ ∧ tkW _ _ _ _ < 1012)
        omega
    · split
      · next hd =>
        have h2 := rnX_in isDg B (z - (b + 1)) (b + 1)
        have h3 := rnX_all isDg B (z - (b + 1)) (b + 1)
        unfold enX at *
        generalize rnX isDg B (z - (b + 1)) (b + 1) = e at *
        have h4 : nmX B b (min 4 (e - b)) < 10 ^ (min 4 (e - b)) := nmX_lt _ (fun i hi => by
          by_cases e0 : i = 0
          · rw [e0]; exact hd
          · exact h3 (b + i) (by omega) (by omega))
        have h5 : 10 ^ (min 4 (e - b)) ≤ 10 ^ 4 := Nat.pow_le_pow_right (by omega) (by omega)
        refine ⟨⟨?_, ?_, fun _ => ?_, ?_, ?_⟩, h1.1⟩
        · show b ≤ e; omega
        · show e ≤ z; omega
        · show b < e; omega
        · show nmX B b (min 4 (e - b)) ≤ 9999; omega
        · show (if e - b ≤ 4 then 2 else 0) ≤ 2 ∨ _
          split <;> omega
      · split
        · next hs =>
          have hs := of_decide_eq_true hs
          refine ⟨⟨?_, ?_, fun _ => ?_, ?_, ?_⟩, h1.1⟩
          · show b ≤ b + 1; omega
          · show b + 1 ≤ z; omega
          · show b < b + 1; omega
          · show 0 ≤ 9999; omega
          · show B b ≤ 2 ∨ (40 ≤ B b ∧ B b ≤ 61) ∨ _
            omega
        · refine ⟨⟨?_, ?_, fun _ => ?_, ?_, ?_⟩, h1.1⟩
          · show b ≤ b + 1; omega
          · show b + 1 ≤ z; omega
          · show b < b + 1; omega
          · show 0 ≤ 9999; omega
          · exact Or.inl (by show 0 ≤ 2; omega)
theorem chr_ok : ∀ l, l < 14 → ∀ i, i < zlen.getD l 0 → (((((zbyt.getD l []).getD i 0) &&& 255 : Int32).toUInt32 % 65536).toInt32) = nI ((WX.getD l []).getD i 0) ∧ zlen.getD l 0 ≤ 28 := by decide +kernel
/-- a word stands there just if it is as long and its number is the same -/
theorem word_eq {B : Nat → Nat} {b k i : Nat} (hi : i < 12) (hl : ∀ j, j < k → isLt (B (b + j)) = true) (hk : 1 ≤ k) : wsX B b k i = true ↔ k = zlen.getD (i + 1) 0 ∧ ∀ j, j < k → B (b + j) = (WX.getD (i + 1) []).getD j 0 := by
  have hl : ∀ j, j < k → 97 ≤ B (b + j) ∧ B (b + j) ≤ 122 := fun j hj => of_decide_eq_true (hl j hj)
  have len : zlen.getD (i + 1) 0 ≤ 5 := by
    rcases (show i = 0 ∨ i = 1 ∨ i = 2 ∨ i = 3 ∨ i = 4 ∨ i = 5 ∨ i = 6 ∨ i = 7 ∨ i = 8 ∨ i = 9 ∨ i = 10 ∨ i = 11 by omega) with rfl | rfl | rfl | rfl | rfl | rfl | rfl | rfl | rfl | rfl | rfl | rfl <;> decide
  constructor
  · intro h
    obtain ⟨h5, hh⟩ := of_decide_eq_true h
    rcases (show k = 1 ∨ k = 2 ∨ k = 3 ∨ k = 4 ∨ k = 5 by omega) with rfl | rfl | rfl | rfl | rfl
    · have x0 := hl 0 (by omega)
      simp only [hsX, Nat.add_zero] at hh x0
      rcases (show i = 0 ∨ i = 1 ∨ i = 2 ∨ i = 3 ∨ i = 4 ∨ i = 5 ∨ i = 6 ∨ i = 7 ∨ i = 8 ∨ i = 9 ∨ i = 10 ∨ i = 11 by omega) with rfl | rfl | rfl | rfl | rfl | rfl | rfl | rfl | rfl | rfl | rfl | rfl <;> simp [HX] at hh <;> first | omega | (refine ⟨rfl, fun j hj => ?_⟩; rcases (show j = 0 by omega) with rfl; simp [WX]; omega)
    · have x0 := hl 0 (by omega)
      have x1 := hl 1 (by omega)
      simp only [hsX, Nat.add_zero] at hh x0
      rcases (show i = 0 ∨ i = 1 ∨ i = 2 ∨ i = 3 ∨ i = 4 ∨ i = 5 ∨ i = 6 ∨ i = 7 ∨ i = 8 ∨ i = 9 ∨ i = 10 ∨ i = 11 by omega) with rfl | rfl | rfl | rfl | rfl | rfl | rfl | rfl | rfl | rfl | rfl | rfl <;> simp [HX] at hh <;> first | omega | (refine ⟨rfl, fun j hj => ?_⟩; rcases (show j = 0 ∨ j = 1 by omega) with rfl | rfl <;> simp [WX] <;> omega)
    · have x0 := hl 0 (by omega)
      have x1 := hl 1 (by omega)
      have x2 := hl 2 (by omega)
      simp only [hsX, Nat.add_zero] at hh x0
      rcases (show i = 0 ∨ i = 1 ∨ i = 2 ∨ i = 3 ∨ i = 4 ∨ i = 5 ∨ i = 6 ∨ i = 7 ∨ i = 8 ∨ i = 9 ∨ i = 10 ∨ i = 11 by omega) with rfl | rfl | rfl | rfl | rfl | rfl | rfl | rfl | rfl | rfl | rfl | rfl <;> simp [HX] at hh <;> first | omega | (refine ⟨rfl, fun j hj => ?_⟩; rcases (show j = 0 ∨ j = 1 ∨ j = 2 by omega) with rfl | rfl | rfl <;> simp [WX] <;> omega)
    · have x0 := hl 0 (by omega)
      have x1 := hl 1 (by omega)
      have x2 := hl 2 (by omega)
      have x3 := hl 3 (by omega)
      simp only [hsX, Nat.add_zero] at hh x0
      rcases (show i = 0 ∨ i = 1 ∨ i = 2 ∨ i = 3 ∨ i = 4 ∨ i = 5 ∨ i = 6 ∨ i = 7 ∨ i = 8 ∨ i = 9 ∨ i = 10 ∨ i = 11 by omega) with rfl | rfl | rfl | rfl | rfl | rfl | rfl | rfl | rfl | rfl | rfl | rfl <;> simp [HX] at hh <;> first | omega | (refine ⟨rfl, fun j hj => ?_⟩; rcases (show j = 0 ∨ j = 1 ∨ j = 2 ∨ j = 3 by omega) with rfl | rfl | rfl | rfl <;> simp [WX] <;> omega)
    · have x0 := hl 0 (by omega)
      have x1 := hl 1 (by omega)
      have x2 := hl 2 (by omega)
      have x3 := hl 3 (by omega)
      have x4 := hl 4 (by omega)
      simp only [hsX, Nat.add_zero] at hh x0
      rcases (show i = 0 ∨ i = 1 ∨ i = 2 ∨ i = 3 ∨ i = 4 ∨ i = 5 ∨ i = 6 ∨ i = 7 ∨ i = 8 ∨ i = 9 ∨ i = 10 ∨ i = 11 by omega) with rfl | rfl | rfl | rfl | rfl | rfl | rfl | rfl | rfl | rfl | rfl | rfl <;> simp [HX] at hh <;> first | omega | (refine ⟨rfl, fun j hj => ?_⟩; rcases (show j = 0 ∨ j = 1 ∨ j = 2 ∨ j = 3 ∨ j = 4 by omega) with rfl | rfl | rfl | rfl | rfl <;> simp [WX] <;> omega)
  · rintro ⟨hz, hw⟩
    refine decide_eq_true ⟨by omega, ?_⟩
    rcases (show i = 0 ∨ i = 1 ∨ i = 2 ∨ i = 3 ∨ i = 4 ∨ i = 5 ∨ i = 6 ∨ i = 7 ∨ i = 8 ∨ i = 9 ∨ i = 10 ∨ i = 11 by omega) with rfl | rfl | rfl | rfl | rfl | rfl | rfl | rfl | rfl | rfl | rfl | rfl
    all_goals
      simp only [zlen] at hz
      simp at hz
      subst hz
      simp only [hsX]
    · have y0 := hw 0 (by omega)
      simp [WX] at y0
      simp [HX, y0]
    · have y0 := hw 0 (by omega)
      have y1 := hw 1 (by omega)
      have y2 := hw 2 (by omega)
      simp [WX] at y0 y1 y2
      simp [HX, y0, y1, y2]
    · have y0 := hw 0 (by omega)
      have y1 := hw 1 (by omega)
      have y2 := hw 2 (by omega)
      have y3 := hw 3 (by omega)
      simp [WX] at y0 y1 y2 y3
      simp [HX, y0, y1, y2, y3]
    · have y0 := hw 0 (by omega)
      have y1 := hw 1 (by omega)
      have y2 := hw 2 (by omega)
      have y3 := hw 3 (by omega)
      simp [WX] at y0 y1 y2 y3
      simp [HX, y0, y1, y2, y3]
    · have y0 := hw 0 (by omega)
      have y1 := hw 1 (by omega)
      have y2 := hw 2 (by omega)
      have y3 := hw 3 (by omega)
      simp [WX] at y0 y1 y2 y3
      simp [HX, y0, y1, y2, y3]
    · have y0 := hw 0 (by omega)
      have y1 := hw 1 (by omega)
      have y2 := hw 2 (by omega)
      simp [WX] at y0 y1 y2
      simp [HX, y0, y1, y2]
    · have y0 := hw 0 (by omega)
      have y1 := hw 1 (by omega)
      have y2 := hw 2 (by omega)
      have y3 := hw 3 (by omega)
      simp [WX] at y0 y1 y2 y3
      simp [HX, y0, y1, y2, y3]
    · have y0 := hw 0 (by omega)
      have y1 := hw 1 (by omega)
      have y2 := hw 2 (by omega)
      have y3 := hw 3 (by omega)
      have y4 := hw 4 (by omega)
      simp [WX] at y0 y1 y2 y3 y4
      simp [HX, y0, y1, y2, y3, y4]
    · have y0 := hw 0 (by omega)
      have y1 := hw 1 (by omega)
      have y2 := hw 2 (by omega)
      have y3 := hw 3 (by omega)
      have y4 := hw 4 (by omega)
      simp [WX] at y0 y1 y2 y3 y4
      simp [HX, y0, y1, y2, y3, y4]
    · have y0 := hw 0 (by omega)
      have y1 := hw 1 (by omega)
      simp [WX] at y0 y1
      simp [HX, y0, y1]
    · have y0 := hw 0 (by omega)
      have y1 := hw 1 (by omega)
      have y2 := hw 2 (by omega)
      simp [WX] at y0 y1 y2
      simp [HX, y0, y1, y2]
    · have y0 := hw 0 (by omega)
      have y1 := hw 1 (by omega)
      have y2 := hw 2 (by omega)
      simp [WX] at y0 y1 y2
      simp [HX, y0, y1, y2]
