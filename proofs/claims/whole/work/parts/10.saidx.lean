/-! the class's answer to what one can say -/
theorem sy_ext {x k m o : Nat} (hx : x < 1073741824) (h : ∀ i, i < 30 → x.testBit i = said k m o (i + 1)) : x = sy k m o := by
  apply Nat.eq_of_testBit_eq
  intro i
  by_cases hi : i < 30
  · rw [h i hi]
    have := sy_bit k m o (i + 1) (by omega) (by omega)
    rw [← this]
    rfl
  · rw [bit_ge hx (by omega), bit_ge (sy_lt k m o) (by omega)]
theorem or_lt30 {a b : Nat} (ha : a < 1073741824) (hb : b < 1073741824) : a ||| b < 1073741824 := Nat.or_lt_two_pow (n := 30) ha hb
def sacc (o : Nat) : Nat → Nat
  | 0 => 0
  | j + 1 => sacc o j ||| (if o.testBit j then o * 2 ^ (j + 1) else 0)
def racc (o : Nat) : Nat → Nat
  | 0 => 0
  | j + 1 => racc o j ||| (if o.testBit j then o / 2 ^ (j + 1) else 0)
theorem sacc_bit (o : Nat) : ∀ j i, (sacc o j).testBit i = true ↔ ∃ x, x < j ∧ o.testBit x = true ∧ x + 1 ≤ i ∧ o.testBit (i - (x + 1)) = true
  | 0, i => by simp [sacc]
  | j + 1, i => by
    unfold sacc
    rw [Nat.testBit_or, Bool.or_eq_true, sacc_bit o j i]
    constructor
    · rintro (⟨x, h1, h2⟩ | h)
      · exact ⟨x, by omega, h2⟩
      · by_cases q : o.testBit j = true
        · rw [if_pos q, ← Nat.shiftLeft_eq, Nat.testBit_shiftLeft, Bool.and_eq_true, decide_eq_true_eq] at h
          exact ⟨j, by omega, q, h.1, h.2⟩
        · rw [if_neg q] at h
          simp at h
    · rintro ⟨x, h1, h2, h3, h4⟩
      by_cases e : x = j
      · subst e
        right
        rw [if_pos h2, ← Nat.shiftLeft_eq, Nat.testBit_shiftLeft, Bool.and_eq_true, decide_eq_true_eq]
        exact ⟨h3, h4⟩
      · exact Or.inl ⟨x, by omega, h2, h3, h4⟩
theorem racc_bit (o : Nat) : ∀ j i, (racc o j).testBit i = true ↔ ∃ x, x < j ∧ o.testBit x = true ∧ o.testBit (x + 1 + i) = true
  | 0, i => by simp [racc]
  | j + 1, i => by
    unfold racc
    rw [Nat.testBit_or, Bool.or_eq_true, racc_bit o j i]
    constructor
    · rintro (⟨x, h1, h2⟩ | h)
      · exact ⟨x, by omega, h2⟩
      · by_cases q : o.testBit j = true
        · rw [if_pos q, Nat.testBit_div_two_pow, Nat.add_comm i] at h
          exact ⟨j, by omega, q, h⟩
        · rw [if_neg q] at h
          simp at h
    · rintro ⟨x, h1, h2, h3⟩
      by_cases e : x = j
      · subst e
        right
        rw [if_pos h2, Nat.testBit_div_two_pow, Nat.add_comm i]
        exact h3
      · exact Or.inl ⟨x, by omega, h2, h3⟩
theorem bool_ext {a b : Bool} (h : a = true ↔ b = true) : a = b := by cases a <;> cases b <;> simp_all
theorem sums_ok {o : Nat} (ho : o < 1073741824) {i : Nat} (hi : i < 30) : (sacc o 30 &&& 1073741823).testBit i = made o (i + 1) := by
  apply bool_ext
  rw [show (1073741823 : Nat) = 2 ^ 30 - 1 from rfl, Nat.testBit_and, Nat.testBit_two_pow_sub_one, decide_eq_true hi, Bool.and_true, sacc_bit, made_iff]
  constructor
  · rintro ⟨x, h1, h2, h3, h4⟩
    refine ⟨x + 1, by omega, by rw [tb_bit h1]; exact h2, ?_⟩
    rw [show i + 1 - (x + 1) = i - (x + 1) + 1 by omega, tb_bit (by omega)]
    exact h4
  · rintro ⟨x, h1, h2, h3⟩
    have hx : 1 ≤ x := by
      by_cases e : x = 0
      · subst e; simp [tb] at h2
      · omega
    rw [show x = x - 1 + 1 by omega, tb_bit (by omega)] at h2
    rw [show i + 1 - x = i - x + 1 by omega, tb_bit (by omega)] at h3
    exact ⟨x - 1, by omega, h2, by omega, by rw [show x - 1 + 1 = x by omega]; exact h3⟩
theorem rests_ok {o : Nat} (ho : o < 1073741824) {i : Nat} (hi : i < 30) : (racc o 30).testBit i = rest o (i + 1) := by
  apply bool_ext
  rw [racc_bit, rest_iff]
  constructor
  · rintro ⟨x, h1, h2, h3⟩
    have hlt : x + 1 + i < 30 := by
      by_cases q : x + 1 + i < 30
      · exact q
      · rw [bit_ge ho (by omega)] at h3; cases h3
    refine ⟨x + 1 + i + 1, by omega, by omega, by rw [tb_bit hlt]; exact h3, ?_⟩
    rw [show x + 1 + i + 1 - (i + 1) = x + 1 by omega, tb_bit (by omega)]
    exact h2
  · rintro ⟨y, h1, h2, h3, h4⟩
    rw [show y = y - 1 + 1 by omega, tb_bit (by omega)] at h3
    rw [show y - (i + 1) = y - i - 2 + 1 by omega, tb_bit (by omega)] at h4
    exact ⟨y - i - 2, by omega, h4, by rw [show y - i - 2 + 1 + i = y - 1 by omega]; exact h3⟩
theorem racc_lt {o : Nat} (ho : o < 1073741824) : ∀ j, racc o j < 1073741824
  | 0 => by simp [racc]
  | j + 1 => by
    unfold racc
    refine or_lt30 (racc_lt ho j) ?_
    by_cases q : o.testBit j = true
    · rw [if_pos q]; exact Nat.lt_of_le_of_lt (Nat.div_le_self _ _) ho
    · rw [if_neg q]; omega
section
variable {d : Nat} {g : zG} {σ : zI} {K : Int32 → zI → Prop}
/-- what the class's heir at a is -/
def xHr (σ : zI) (a h k m o : Nat) : Prop := σ a 0 = nI h ∧ σ a 1 = nI k ∧ σ a 2 = nI m ∧ σ a 3 = nI o ∧ h < 6 ∧ k ≤ 5 ∧ m ≤ 9 ∧ o < 1073741824
theorem cx_bit (hg : zGA g) {n : Nat} (h1n : 1 ≤ n) (hn : n ≤ 32) (h : K (nI (2 ^ (n - 1))) σ) : zCI mX7_bit d [.int (nI n)] g σ K :=
  s_X7_bit hg (by rw [b_one h1n hn]; exact h)
theorem cx_has (hg : zGA g) {o n : Nat} (h1n : 1 ≤ n) (hn : n ≤ 31) (h0 : o.testBit (n - 1) = false → K 0 σ) (h1 : o.testBit (n - 1) = true → K 1 σ) : zCI mX7_has (d + 1) [.int (nI o), .int (nI n)] g σ K := by
  refine s_X7_has hg (cx_bit hg h1n (by omega) ?_)
  exact t_eq (fun q => h0 ((b_at (by omega)).mp q)) (fun q => h1 (by
    by_cases w : o.testBit (n - 1) = true
    · exact w
    · exact absurd ((b_at (by omega)).mpr (by simpa using w)) q))
theorem cx_isNumber (hg : zGA g) {v : Int32} (h0 : v.toInt < 1 ∨ 30 < v.toInt → K 0 σ) (h1 : 1 ≤ v.toInt → v.toInt ≤ 30 → K 1 σ) : zCI mX7_isNumber d [.int v] g σ K :=
  s_X7_isNumber hg (t_lt (fun q => h0 (Or.inl q)) (fun q => t_lt (fun q2 => h0 (Or.inr q2)) (fun q2 => h1 q q2)))
theorem cx_isSum (hg : zGA g) {v : Int32} (h0 : v.toInt < 0 ∨ 99 < v.toInt → K 0 σ) (h1 : 0 ≤ v.toInt → v.toInt ≤ 99 → K 1 σ) : zCI mX7_isSum d [.int v] g σ K :=
  s_X7_isSum hg (t_lt (fun q => h0 (Or.inl q)) (fun q => t_lt (fun q2 => h0 (Or.inr q2)) (fun q2 => h1 q q2)))
theorem cx_truth (hg : zGA g) {v : Int32} (h0 : v = 0 → K 0 σ) (h1 : ¬ v = 0 → K 1 σ) : zCI mX7_truth d [.int v] g σ K := s_X7_truth hg (t_eq h0 h1)
theorem cx_sums (hg : zGA g) {a h k m o : Nat} (ho : zOb g a 0) (hh : xHr σ a h k m o) (h1 : K (nI (sacc o 30 &&& 1073741823)) σ) : zCI mX0_sums (d + 2) [.ref a] g σ K := by
  have hh2 := hh
  obtain ⟨e0, e1, e2, e3, e4, e5, e6, e7⟩ := hh2
  refine s_X0_sums hg ho ?_
  have key : ∀ (r x : Nat), x ≤ 30 → 30 ≤ x + r → p_X0_sums_4 (d + 1) g K σ a (nI (sacc o x)) (nI (x + 1)) := by
    intro r
    induction r with
    | zero =>
      intro x hx hr
      have e : x = 30 := by omega
      subst e
      refine s_X0_sums_4 hg ho (i_lt 30 31 rfl rfl (by omega) (by omega) (fun _ => ?_) (fun q => by omega))
      rw [show (1073741823 : Int32) = nI 1073741823 from rfl, fa_and]
      exact h1
    | succ r ih =>
      intro x hx hr
      refine s_X0_sums_4 hg ho (i_lt 30 (x + 1) rfl rfl (by omega) (by omega) (fun q => ?_) (fun q => ?_))
      · have e : x = 30 := by omega
        subst e
        rw [show (1073741823 : Int32) = nI 1073741823 from rfl, fa_and]
        exact h1
      · have hi := ih (x + 1) (by omega) (by omega)
        rw [e3]
        refine cx_has hg (by omega) (by omega) (fun q2 => z0 ?_) (fun q2 => z1 ?_)
        · rw [nI_1, show (0 : Int32) = nI 0 from rfl, fa_or]
          rw [show x + 1 - 1 = x by omega] at q2
          rw [show sacc o (x + 1) = sacc o x ||| 0 by simp [sacc, q2]] at hi
          exact hi
        · rw [nI_1, e3, nI_shl o (x + 1) (by omega), fa_or]
          rw [show x + 1 - 1 = x by omega] at q2
          rw [show sacc o (x + 1) = sacc o x ||| (o * 2 ^ (x + 1)) by simp [sacc, q2]] at hi
          exact hi
  exact key 30 0 (by omega) (by omega)
theorem cx_rests (hg : zGA g) {a h k m o : Nat} (ho : zOb g a 0) (hh : xHr σ a h k m o) (h1 : K (nI (racc o 30)) σ) : zCI mX0_rests (d + 2) [.ref a] g σ K := by
  have hh2 := hh
  obtain ⟨e0, e1, e2, e3, e4, e5, e6, e7⟩ := hh2
  refine s_X0_rests hg ho ?_
  have key : ∀ (r x : Nat), x ≤ 30 → 30 ≤ x + r → p_X0_rests_4 (d + 1) g K σ a (nI (racc o x)) (nI (x + 1)) := by
    intro r
    induction r with
    | zero =>
      intro x hx hr
      have e : x = 30 := by omega
      subst e
      exact s_X0_rests_4 hg ho (i_lt 30 31 rfl rfl (by omega) (by omega) (fun _ => h1) (fun q => by omega))
    | succ r ih =>
      intro x hx hr
      refine s_X0_rests_4 hg ho (i_lt 30 (x + 1) rfl rfl (by omega) (by omega) (fun q => ?_) (fun q => ?_))
      · have e : x = 30 := by omega
        subst e
        exact h1
      · have hi := ih (x + 1) (by omega) (by omega)
        rw [e3]
        refine cx_has hg (by omega) (by omega) (fun q2 => z0 ?_) (fun q2 => z1 ?_)
        · rw [nI_1, show (0 : Int32) = nI 0 from rfl, fa_or]
          rw [show x + 1 - 1 = x by omega] at q2
          rw [show racc o (x + 1) = racc o x ||| 0 by simp [racc, q2]] at hi
          exact hi
        · rw [nI_1, e3, nI_shr (x + 1) (by omega) (by omega), fa_or]
          rw [show x + 1 - 1 = x by omega] at q2
          rw [show racc o (x + 1) = racc o x ||| (o / 2 ^ (x + 1)) by simp [racc, q2]] at hi
          exact hi
  exact key 30 0 (by omega) (by omega)
theorem cx_halves (hg : zGA g) {a h k m o : Nat} (ho : zOb g a 0) (hh : xHr σ a h k m o) (h1 : K (nI (mk (fun i => tb o (2 * (i + 1))) 15)) σ) : zCI mX0_halves (d + 2) [.ref a] g σ K := by
  have hh2 := hh
  obtain ⟨e0, e1, e2, e3, e4, e5, e6, e7⟩ := hh2
  refine s_X0_halves hg ho ?_
  have key : ∀ (r x : Nat), x ≤ 15 → 15 ≤ x + r → p_X0_halves_4 (d + 1) g K σ a (nI (mk (fun i => tb o (2 * (i + 1))) x)) (nI (x + 1)) := by
    intro r
    induction r with
    | zero =>
      intro x hx hr
      have e : x = 15 := by omega
      subst e
      exact s_X0_halves_4 hg ho (i_lt 30 32 rfl (pk_mul 2 16) (by omega) (by omega) (fun _ => h1) (fun q => by omega))
    | succ r ih =>
      intro x hx hr
      refine s_X0_halves_4 hg ho (i_lt 30 (2 * (x + 1)) rfl (pk_mul 2 (x + 1)) (by omega) (by omega) (fun q => ?_) (fun q => ?_))
      · have e : x = 15 := by omega
        subst e
        exact h1
      · have hi := ih (x + 1) (by omega) (by omega)
        rw [e3, show (2 : Int32) * nI (x + 1) = nI (2 * (x + 1)) from pk_mul 2 (x + 1)]
        have et : tb o (2 * (x + 1)) = o.testBit (2 * (x + 1) - 1) := tb_eq (by omega) (by omega)
        refine cx_has hg (by omega) (by omega) (fun q2 => z0 ?_) (fun q2 => z1 ?_)
        · rw [nI_1, show (0 : Int32) = nI 0 from rfl, fa_or]
          rw [show mk (fun i => tb o (2 * (i + 1))) (x + 1) = mk (fun i => tb o (2 * (i + 1))) x ||| 0 by simp [mk, et, q2]] at hi
          exact hi
        · refine cx_bit hg (by omega) (by omega) ?_
          rw [nI_1, fa_or]
          rw [show mk (fun i => tb o (2 * (i + 1))) (x + 1) = mk (fun i => tb o (2 * (i + 1))) x ||| 2 ^ x by simp [mk, et, q2]] at hi
          exact hi
  exact key 15 0 (by omega) (by omega)
theorem cx_above (hg : zGA g) {b : Nat} (hb : b ≤ 29) (h1 : K (nI (mk (fun i => decide (b < i + 1)) 30)) σ) : zCI mX0_above (d + 1) [.int (nI b)] g σ K := by
  refine s_X0_above hg ?_
  have key : ∀ (r x : Nat), b ≤ x → x ≤ 30 → 30 ≤ x + r → p_X0_above_6 d g K σ (nI (mk (fun i => decide (b < i + 1)) x)) (nI (x + 1)) := by
    intro r
    induction r with
    | zero =>
      intro x hbx hx hr
      have e : x = 30 := by omega
      subst e
      exact s_X0_above_6 hg (i_lt 30 31 rfl rfl (by omega) (by omega) (fun _ => h1) (fun q => by omega))
    | succ r ih =>
      intro x hbx hx hr
      refine s_X0_above_6 hg (i_lt 30 (x + 1) rfl rfl (by omega) (by omega) (fun q => ?_) (fun q => ?_))
      · have e : x = 30 := by omega
        subst e
        exact h1
      · have hi := ih (x + 1) (by omega) (by omega) (by omega)
        refine cx_bit hg (by omega) (by omega) ?_
        rw [nI_1, fa_or]
        rw [show mk (fun i => decide (b < i + 1)) (x + 1) = mk (fun i => decide (b < i + 1)) x ||| 2 ^ x by simp [mk]; omega] at hi
        exact hi
  have z : ∀ x, x ≤ b → mk (fun i => decide (b < i + 1)) x = 0 := by
    intro x
    induction x with
    | zero => intro _; rfl
    | succ x ih =>
      intro hx
      simp only [mk]
      rw [if_neg (by simp; omega)]
      exact ih (by omega)
  have := key 30 b (by omega) (by omega) (by omega)
  rw [z b (by omega)] at this
  rw [nI_1]
  exact this
theorem cx_sayable (hg : zGA g) {a h k m o : Nat} (ho : zOb g a 0) (hh : xHr σ a h k m o) (h1 : K (nI (sy k m o)) σ) : zCI mX0_sayable (d + 3) [.ref a] g σ K := by
  have hh2 := hh
  obtain ⟨e0, e1, e2, e3, e4, e5, e6, e7⟩ := hh2
  have lts : sacc o 30 &&& 1073741823 < 1073741824 := Nat.lt_of_le_of_lt Nat.and_le_right (by omega)
  have own : ∀ i, i < 30 → o.testBit i = tb o (i + 1) := fun i hi => (tb_bit hi).symm
  have hlv : ∀ i, i < 30 → (mk (fun i => tb o (2 * (i + 1))) 15).testBit i = tb o (2 * (i + 1)) := fun i hi => by
    rw [mk_bit]
    by_cases q : i < 15
    · simp [q]
    · have : tb o (2 * (i + 1)) = false := by simp [tb]; omega
      simp [q, this]
  have hll : mk (fun i => tb o (2 * (i + 1))) 15 < 1073741824 := Nat.lt_of_lt_of_le (mk_lt _ 15) (by decide)
  refine s_X0_sayable hg ho ?_
  rw [e1, e2, e3]
  refine i_eq k 1 rfl rfl (by omega) (by omega) (fun c1 => ?_) (fun c1 => i_eq k 2 rfl rfl (by omega) (by omega) (fun c2 => ?_) (fun c2 => i_eq k 3 rfl rfl (by omega) (by omega) (fun c3 => ?_) (fun c3 => i_eq k 4 rfl rfl (by omega) (by omega) (fun c4 => ?_) (fun c4 => i_eq k 5 rfl rfl (by omega) (by omega) (fun c5 => ?_) (fun c5 => ?_)))))
  · refine cx_sums hg ho hh ?_
    rw [fa_or, sy_ext (k := k) (m := m) (o := o) (or_lt30 e7 lts) (fun i hi => by rw [Nat.testBit_or, own i hi, sums_ok e7 hi]; simp [said, c1])]
    exact h1
  · refine cx_halves hg ho hh ?_
    rw [fa_or, sy_ext (k := k) (m := m) (o := o) (or_lt30 e7 hll) (fun i hi => by rw [Nat.testBit_or, own i hi, hlv i hi]; simp [said, c2])]
    exact h1
  · refine cx_sums hg ho hh (cx_rests hg ho hh ?_)
    rw [fa_or, fa_or, sy_ext (k := k) (m := m) (o := o) (or_lt30 (or_lt30 e7 lts) (racc_lt e7 30)) (fun i hi => by rw [Nat.testBit_or, Nat.testBit_or, own i hi, sums_ok e7 hi, rests_ok e7 hi]; simp [said, c3, Bool.or_assoc, Bool.or_comm (made o (i + 1))])]
    exact h1
  · refine cx_halves hg ho hh (cx_isNumber hg (fun q => z0 ?_) (fun q r => z1 ?_))
    · rw [e2] at q
      rw [nI_toInt' (by omega)] at q
      have hm0 : m = 0 := by omega
      rw [fa_or, show (0 : Int32) = nI 0 from rfl, fa_or, Nat.or_zero, sy_ext (k := k) (m := m) (o := o) (or_lt30 e7 hll) (fun i hi => by rw [Nat.testBit_or, own i hi, hlv i hi]; simp [said, c4, hm0])]
      exact h1
    · rw [e2] at q r
      rw [nI_toInt' (by omega)] at q r
      rw [e2]
      refine cx_bit hg (by omega) (by omega) ?_
      have hp : 2 ^ (m - 1) < 1073741824 := Nat.lt_of_lt_of_le (Nat.pow_lt_pow_right (by omega) (by omega : m - 1 < 30)) (by decide)
      rw [fa_or, fa_or, sy_ext (k := k) (m := m) (o := o) (or_lt30 (or_lt30 e7 hll) hp) (fun i hi => by
        rw [Nat.testBit_or, Nat.testBit_or, own i hi, hlv i hi, Nat.testBit_two_pow]
        have : decide (m - 1 = i) = decide (i + 1 = m) := by apply decide_eq_decide.mpr; omega
        rw [this]
        simp [said, c4, Bool.or_assoc, Bool.or_comm (tb o (2 * (i + 1)))])]
      exact h1
  · rw [show (20 : Int32) + nI m = nI (20 + m) from nI_add 20 m]
    refine cx_above hg (by omega) ?_
    rw [fa_or, sy_ext (k := k) (m := m) (o := o) (or_lt30 e7 (mk_lt _ 30)) (fun i hi => by rw [Nat.testBit_or, own i hi, mk_bit]; simp [said, c5, hi])]
    exact h1
  · have e : o = sy k m o := sy_ext e7 (fun i hi => by rw [own i hi]; simp [said, c1, c2, c3, c4, c5])
    rw [← e] at h1
    exact h1
end
