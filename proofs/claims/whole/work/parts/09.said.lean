/-! which NUMBERS one can say: the rule, and both sides' answers to it -/
def tb (o n : Nat) : Bool := decide (1 ≤ n) && (decide (n ≤ 30) && o.testBit (n - 1))
def made (o n : Nat) : Bool := (List.range n).any (fun x => tb o x && tb o (n - x))
def rest (o n : Nat) : Bool := (List.range 31).any (fun x => decide (n < x) && (tb o x && tb o (x - n)))
def said (k m o n : Nat) : Bool := tb o n || (if k = 1 then made o n else if k = 2 then tb o (2 * n) else if k = 3 then rest o n || made o n else if k = 4 then decide (n = m) || tb o (2 * n) else if k = 5 then decide (20 + m < n) else false)
def mk (f : Nat → Bool) : Nat → Nat
  | 0 => 0
  | j + 1 => if f j then mk f j ||| 2 ^ j else mk f j
def sy (k m o : Nat) : Nat := mk (fun i => said k m o (i + 1)) 30
theorem mk_bit (f : Nat → Bool) : ∀ j i, (mk f j).testBit i = (decide (i < j) && f i)
  | 0, i => by simp [mk]
  | j + 1, i => by
    unfold mk
    by_cases h : f j = true
    · rw [if_pos h, Nat.testBit_or, mk_bit f j i, Nat.testBit_two_pow]
      by_cases e : j = i
      · subst e; simp [h]
      · have : (decide (i < j + 1)) = decide (i < j) := by apply decide_eq_decide.mpr; omega
        rw [this]; simp [e]
    · rw [if_neg h, mk_bit f j i]
      by_cases e : j = i
      · subst e; simp [h]
      · have : (decide (i < j + 1)) = decide (i < j) := by apply decide_eq_decide.mpr; omega
        rw [this]
theorem lt_of_bits {x j : Nat} (h : ∀ i, j ≤ i → x.testBit i = false) : x < 2 ^ j := by
  apply Nat.lt_pow_two_of_testBit
  exact h
theorem mk_lt (f : Nat → Bool) (j : Nat) : mk f j < 2 ^ j := lt_of_bits (fun i hi => by rw [mk_bit]; simp; omega)
theorem sy_lt (k m o : Nat) : sy k m o < 1073741824 := mk_lt _ 30
theorem sy_bit (k m o n : Nat) (h1 : 1 ≤ n) (h2 : n ≤ 30) : (sy k m o).testBit (n - 1) = said k m o n := by
  unfold sy
  rw [mk_bit, show n - 1 + 1 = n by omega]
  simp; omega
theorem tb_eq {o n : Nat} (h1 : 1 ≤ n) (h2 : n ≤ 30) : tb o n = o.testBit (n - 1) := by
  unfold tb
  rw [decide_eq_true h1, decide_eq_true h2]
  rfl
theorem tb_bit {o i : Nat} (hi : i < 30) : tb o (i + 1) = o.testBit i := tb_eq (by omega) (by omega)
theorem bit_ge {o i : Nat} (ho : o < 1073741824) (hi : 30 ≤ i) : o.testBit i = false := Nat.testBit_lt_two_pow (Nat.lt_of_lt_of_le ho (Nat.pow_le_pow_right (by omega) hi : 2 ^ 30 ≤ 2 ^ i))
theorem made_iff (o n : Nat) : made o n = true ↔ ∃ x, x < n ∧ tb o x = true ∧ tb o (n - x) = true := by simp [made, List.any_eq_true]
theorem rest_iff (o n : Nat) : rest o n = true ↔ ∃ x, x < 31 ∧ n < x ∧ tb o x = true ∧ tb o (x - n) = true := by simp [rest, List.any_eq_true]
section
variable {d : Nat} {g : zG} {σ : zI} {K : Int32 → zI → Prop}
/-- what the reference's heir h is -/
def mHr (σ : zI) (h k m o : Nat) : Prop := h < 6 ∧ σ 58 h = nI k ∧ σ 59 h = nI m ∧ σ 60 h = nI o ∧ k ≤ 5 ∧ m ≤ 9 ∧ o < 1073741824
theorem cm_within (hg : zGA g) {lo hi v : Int32} (h0 : v.toInt < lo.toInt ∨ hi.toInt < v.toInt → K 0 σ) (h1 : lo.toInt ≤ v.toInt → v.toInt ≤ hi.toInt → K 1 σ) : zCI mX8_within d [.int v, .int lo, .int hi] g σ K :=
  s_X8_within hg (t_lt (fun q => h0 (Or.inl q)) (fun q => t_lt (fun q2 => h0 (Or.inr q2)) (fun q2 => h1 q q2)))
theorem cm_isNumber (hg : zGA g) {v : Int32} (h0 : v.toInt < 1 ∨ 30 < v.toInt → K 0 σ) (h1 : 1 ≤ v.toInt → v.toInt ≤ 30 → K 1 σ) : zCI mX8_isNumber (d + 1) [.int v] g σ K :=
  s_X8_isNumber hg (cm_within hg (fun q => ⟨Or.inl rfl, h0 q⟩) (fun q r => ⟨Or.inr rfl, h1 q r⟩))
theorem cm_has (hg : zGA g) {o i : Nat} (ho : o < 2147483648) (hi : i < 32) (h0 : o.testBit i = false → K 0 σ) (h1 : o.testBit i = true → K 1 σ) : zCI mX8_has d [.int (nI o), .int (nI i)] g σ K := by
  refine s_X8_has hg ?_
  rw [b_has ho hi]
  by_cases q : o.testBit i = true
  · rw [if_pos q, if_pos (show nI 1 = 1 from rfl)]; exact h1 q
  · rw [if_neg q, if_neg (by decide)]; exact h0 (by simpa using q)
theorem cm_isOwn (hg : zGA g) {h k m o n : Nat} (hh : mHr σ h k m o) (hn : n < 2147483648) (h0 : tb o n = false → K 0 σ) (h1 : tb o n = true → K 1 σ) : zCI mX8_isOwn (d + 2) [.ref 57, .int (nI h), .int (nI n)] g σ K := by
  obtain ⟨e1, e2, e3, e4, e5, e6, e7⟩ := hh
  refine s_X8_isOwn hg (cm_isNumber hg (fun q => z0 ?_) (fun q r => z1 ⟨v_in e1 (by omega), ?_⟩))
  · refine h0 ?_
    rw [nI_toInt' hn] at q
    simp [tb]; omega
  · rw [nI_toInt' hn] at q r
    rw [c_nI (by omega), e4, show nI n - 1 = nI (n - 1) from pk_sub (b := 1) (by omega)]
    have e : tb o n = o.testBit (n - 1) := tb_eq (by omega) (by omega)
    exact cm_has hg (by omega) (by omega) (fun q => z0 (h0 (e.trans q))) (fun q => z1 (h1 (e.trans q)))
theorem made_no {o n : Nat} (h : ∀ y, y < n → ¬ (tb o y = true ∧ tb o (n - y) = true)) : made o n = false := by
  by_cases q : made o n = true
  · obtain ⟨x, h1, h2, h3⟩ := (made_iff o n).mp q
    exact absurd ⟨h2, h3⟩ (h x h1)
  · simpa using q
theorem cm_isMade (hg : zGA g) {h k m o n : Nat} (hh : mHr σ h k m o) (hn : n < 1000) (h1n : 1 ≤ n) (h0 : made o n = false → K 0 σ) (h1 : made o n = true → K 1 σ) : zCI mX8_isMade (d + 3) [.ref 57, .int (nI h), .int (nI n)] g σ K := by
  refine s_X8_isMade hg ?_
  have key : ∀ (r x : Nat), x ≤ n → n ≤ x + r → (∀ y, y < x → ¬ (tb o y = true ∧ tb o (n - y) = true)) → p_X8_isMade_2 (d + 2) g K σ (nI h) (nI n) (nI x) := by
    intro r
    induction r with
    | zero =>
      intro x hx hr hy
      refine s_X8_isMade_2 hg ?_
      exact i_le n x rfl rfl (by omega) (by omega) (fun q => h0 (made_no (fun y hy2 => hy y (by omega)))) (fun q => by omega)
    | succ r ih =>
      intro x hx hr hy
      refine s_X8_isMade_2 hg ?_
      refine i_le n x rfl rfl (by omega) (by omega) (fun q => h0 (made_no (fun y hy2 => hy y (by omega)))) (fun q => ?_)
      have nxt : (¬ (tb o x = true ∧ tb o (n - x) = true)) → p_X8_isMade_2 (d + 2) g K σ (nI h) (nI n) (nI x + 1) := fun hno => by
        rw [nI_1 x]
        refine ih (x + 1) (by omega) (by omega) (fun y hy2 => ?_)
        by_cases e : y = x
        · subst e; exact hno
        · exact hy y (by omega)
      refine cm_isOwn hg hh (by omega) (fun q2 => z0 (nxt (by simp [q2]))) (fun q2 => z1 ?_)
      rw [pk_sub (by omega)]
      exact cm_isOwn hg hh (by omega) (fun q3 => z0 (nxt (by simp [q3]))) (fun q3 => z1 (h1 ((made_iff o n).mpr ⟨x, by omega, q2, q3⟩)))
  exact key n 1 h1n (by omega) (fun y hy => by have : y = 0 := by omega
                                               subst this; simp [tb])
theorem cm_isSaid (hg : zGA g) {h k m o n : Nat} (hh : mHr σ h k m o) (hn : n ≤ 30) (h1n : 1 ≤ n) (h0 : said k m o n = false → K 0 σ) (h1 : said k m o n = true → K 1 σ) : zCI mX8_isSaid (d + 4) [.ref 57, .int (nI h), .int (nI n)] g σ K := by
  have hh2 := hh
  obtain ⟨e1, e2, e3, e4, e5, e6, e7⟩ := hh2
  refine s_X8_isSaid hg (cm_isOwn hg hh (by omega) (fun q => z0 ⟨v_in e1 (by omega), ?_⟩) (fun q => z1 (h1 (by simp [said, q]))))
  rw [c_nI (by omega), e2, e3]
  refine i_eq k 1 rfl rfl (by omega) (by omega) (fun c1 => ?_) (fun c1 => i_eq k 2 rfl rfl (by omega) (by omega) (fun c2 => ?_) (fun c2 => i_eq k 3 rfl rfl (by omega) (by omega) (fun c3 => ?_) (fun c3 => i_eq k 4 rfl rfl (by omega) (by omega) (fun c4 => ?_) (fun c4 => i_eq k 5 rfl rfl (by omega) (by omega) (fun c5 => ?_) (fun c5 => ?_)))))
  · exact cm_isMade hg hh (by omega) h1n (fun q2 => ⟨Or.inl rfl, h0 (by simp [said, q, c1, q2])⟩) (fun q2 => ⟨Or.inr rfl, h1 (by simp [said, c1, q2])⟩)
  · rw [show (2 : Int32) * nI n = nI (2 * n) from pk_mul 2 n]
    exact cm_isOwn hg hh (by omega) (fun q2 => ⟨Or.inl rfl, h0 (by simp [said, q, c2, q2])⟩) (fun q2 => ⟨Or.inr rfl, h1 (by simp [said, c2, q2])⟩)
  · have fin : ∀ is : Int32, (is = 0 ∨ is = 1) → (is = 1 → rest o n = true) → (is = 0 → rest o n = false) → (if is = 0 then zCI mX8_isMade (d + 3) [.ref 57, .int (nI h), .int (nI n)] g σ (fun v1 σ1 => (if v1 = 0 then K 0 σ1 else K 1 σ1)) else K 1 σ) := by
      intro is hz r1 r0
      rcases hz with rfl | rfl
      · refine z0 (cm_isMade hg hh (by omega) h1n (fun q2 => z0 (h0 ?_)) (fun q2 => z1 (h1 ?_)))
        · simp [said, q, c3, q2, r0 rfl]
        · simp [said, c3, q2]
      · exact z1 (h1 (by simp [said, c3, r1 rfl]))
    have key : ∀ (r x : Nat) (is : Int32), n < x → x ≤ 31 → 31 ≤ x + r → (is = 0 ∨ is = 1) → (is = 1 ↔ ∃ y, y < x ∧ n < y ∧ tb o y = true ∧ tb o (y - n) = true) → p_X8_isSaid_57 (d + 3) g K σ (nI h) (nI n) is (nI x) := by
      intro r
      induction r with
      | zero =>
        intro x is hx1 hx hr hz hi
        refine s_X8_isSaid_57 hg (i_le 31 x rfl rfl (by omega) (by omega) (fun q2 => fin is hz (fun e => (rest_iff o n).mpr ?_) (fun e => ?_)) (fun q2 => by omega))
        · obtain ⟨y, y1, y2, y3⟩ := hi.mp e
          exact ⟨y, by omega, y2, y3⟩
        · by_cases w : rest o n = true
          · obtain ⟨y, y1, y2, y3⟩ := (rest_iff o n).mp w
            have := hi.mpr ⟨y, by omega, y2, y3⟩
            rw [e] at this
            exact absurd this (by decide)
          · simpa using w
      | succ r ih =>
        intro x is hx1 hx hr hz hi
        refine s_X8_isSaid_57 hg (i_le 31 x rfl rfl (by omega) (by omega) (fun q2 => fin is hz (fun e => (rest_iff o n).mpr ?_) (fun e => ?_)) (fun q2 => ?_))
        · obtain ⟨y, y1, y2, y3⟩ := hi.mp e
          exact ⟨y, by omega, y2, y3⟩
        · by_cases w : rest o n = true
          · obtain ⟨y, y1, y2, y3⟩ := (rest_iff o n).mp w
            have := hi.mpr ⟨y, by omega, y2, y3⟩
            rw [e] at this
            exact absurd this (by decide)
          · simpa using w
        · have nxt : (¬ (tb o x = true ∧ tb o (x - n) = true)) → p_X8_isSaid_57 (d + 3) g K σ (nI h) (nI n) is (nI x + 1) := fun hno => by
            rw [nI_1 x]
            refine ih (x + 1) is (by omega) (by omega) (by omega) hz (hi.trans ⟨fun ⟨y, y1, y2⟩ => ⟨y, by omega, y2⟩, fun ⟨y, y1, y2, y3⟩ => ?_⟩)
            by_cases e : y = x
            · subst e; exact absurd y3 hno
            · exact ⟨y, by omega, y2, y3⟩
          refine cm_isOwn hg hh (by omega) (fun q3 => z0 (nxt (by simp [q3]))) (fun q3 => z1 ?_)
          rw [pk_sub (by omega)]
          refine cm_isOwn hg hh (by omega) (fun q4 => z0 (nxt (by simp [q4]))) (fun q4 => z1 ?_)
          rw [nI_1 x]
          exact ih (x + 1) 1 (by omega) (by omega) (by omega) (Or.inr rfl) ⟨fun _ => ⟨x, by omega, by omega, q3, q4⟩, fun _ => rfl⟩
    rw [nI_1 n]
    exact key 31 (n + 1) 0 (by omega) (by omega) (by omega) (Or.inl rfl) ⟨fun e => absurd e (by decide), fun ⟨y, y1, y2, _⟩ => by omega⟩
  · refine ⟨v_in e1 (by omega), i_eq n m rfl rfl (by omega) (by omega) (fun q2 => h1 (by simp [said, c4, q2])) (fun q2 => ?_)⟩
    rw [show (2 : Int32) * nI n = nI (2 * n) from pk_mul 2 n]
    exact cm_isOwn hg hh (by omega) (fun q3 => z0 (h0 (by simp [said, q, c4, q2, q3]))) (fun q3 => z1 (h1 (by simp [said, c4, q3])))
  · refine ⟨v_in e1 (by omega), ?_⟩
    rw [show (20 : Int32) + nI m = nI (20 + m) from nI_add 20 m]
    exact i_le n (20 + m) rfl rfl (by omega) (by omega) (fun q2 => h0 (by simp [said, q, c5]; omega)) (fun q2 => h1 (by simp [said, c5]; omega))
  · exact h0 (by simp [said, q, c1, c2, c3, c4, c5])
theorem cm_sayable (hg : zGA g) {h k m o : Nat} (hh : mHr σ h k m o) (h1 : K (nI (sy k m o)) σ) : zCI mX8_sayable (d + 5) [.ref 57, .int (nI h)] g σ K := by
  refine s_X8_sayable hg ?_
  have key : ∀ (r x : Nat), x ≤ 30 → 30 ≤ x + r → p_X8_sayable_4 (d + 4) g K σ (nI h) (nI (mk (fun i => said k m o (i + 1)) x)) (nI (x + 1)) := by
    intro r
    induction r with
    | zero =>
      intro x hx hr
      have e : x = 30 := by omega
      subst e
      exact s_X8_sayable_4 hg (i_le 31 31 rfl rfl (by omega) (by omega) (fun _ => h1) (fun q => by omega))
    | succ r ih =>
      intro x hx hr
      refine s_X8_sayable_4 hg (i_le 31 (x + 1) rfl rfl (by omega) (by omega) (fun q => ?_) (fun q => ?_))
      · have e : x = 30 := by omega
        subst e
        exact h1
      · refine cm_isSaid hg hh (by omega) (by omega) (fun q2 => z0 ?_) (fun q2 => z1 ?_)
        · have := ih (x + 1) (by omega) (by omega)
          rw [show mk (fun i => said k m o (i + 1)) (x + 1) = mk (fun i => said k m o (i + 1)) x by simp [mk, q2]] at this
          rw [nI_1]
          exact this
        · have := ih (x + 1) (by omega) (by omega)
          rw [show mk (fun i => said k m o (i + 1)) (x + 1) = mk (fun i => said k m o (i + 1)) x ||| 2 ^ x by simp [mk, q2]] at this
          rw [nI_1, b_one (by omega) (by omega), fa_or]
          exact this
  exact key 30 0 (by omega) (by omega)
end
