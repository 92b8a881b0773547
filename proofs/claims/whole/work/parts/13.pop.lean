/-! Integer.bitCount counts bits -/
theorem and_split (i : Nat) {x y m k : Nat} (hx : x < 2 ^ i) (hm : m < 2 ^ i) : (2 ^ i * y + x) &&& (2 ^ i * k + m) = 2 ^ i * (y &&& k) + (x &&& m) := by
  apply Nat.eq_of_testBit_eq
  intro j
  rw [Nat.testBit_and, Nat.testBit_two_pow_mul_add _ hx, Nat.testBit_two_pow_mul_add _ hm, Nat.testBit_two_pow_mul_add _ (Nat.lt_of_le_of_lt Nat.and_le_left hx)]
  by_cases h : j < i
  · rw [if_pos h, if_pos h, if_pos h, Nat.testBit_and]
  · rw [if_neg h, if_neg h, if_neg h, Nat.testBit_and]
theorem and_low (i : Nat) {x m : Nat} (hm : m < 2 ^ i) : x &&& m = (x % 2 ^ i) &&& m := by
  have h := and_split i (x := x % 2 ^ i) (y := x / 2 ^ i) (m := m) (k := 0) (Nat.mod_lt _ (Nat.two_pow_pos i)) hm
  rw [Nat.div_add_mod, Nat.mul_zero, Nat.zero_add, Nat.and_zero, Nat.mul_zero, Nat.zero_add] at h
  exact h
def l1 (a : Nat) : Nat := a - (a / 2 &&& 21845)
def l2 (a : Nat) : Nat := (l1 a &&& 13107) + (l1 a / 4 &&& 13107)
def l3 (a : Nat) : Nat := (l2 a + l2 a / 16) &&& 3855
theorem lane_all : ∀ y, y < 256 → ∀ x, x < 256 → (l1 (256 * y + x) < 65536 ∧ l2 (256 * y + x) ≤ 17476 ∧ l3 (256 * y + x) % 256 ≤ 8 ∧ l3 (256 * y + x) / 256 ≤ 8 ∧ l3 (256 * y + x) % 256 + l3 (256 * y + x) / 256 = pcn (256 * y + x) 16) := by decide +kernel
theorem lane {a : Nat} (ha : a < 65536) : l1 a < 65536 ∧ l2 a ≤ 17476 ∧ l3 a % 256 ≤ 8 ∧ l3 a / 256 ≤ 8 ∧ l3 a % 256 + l3 a / 256 = pcn a 16 := by
  have h := lane_all (a / 256) (by omega) (a % 256) (by omega)
  rw [show 256 * (a / 256) + a % 256 = a by omega] at h
  exact h
theorem pcn_add (a b : Nat) (ha : a < 65536) : ∀ j, pcn (65536 * b + a) (16 + j) = pcn a 16 + pcn b j := by
  have hb : ∀ i, (65536 * b + a).testBit i = if i < 16 then a.testBit i else b.testBit (i - 16) := fun i => Nat.testBit_two_pow_mul_add (i := 16) b ha i
  have h16 : ∀ j, j ≤ 16 → pcn (65536 * b + a) j = pcn a j := by
    intro j
    induction j with
    | zero => intro _; rfl
    | succ j ih =>
      intro h
      unfold pcn
      rw [ih (by omega), hb j, if_pos (by omega)]
  intro j
  induction j with
  | zero => exact h16 16 (Nat.le_refl _)
  | succ j ih =>
    show pcn (65536 * b + a) (16 + j) + (if (65536 * b + a).testBit (16 + j) then 1 else 0) = pcn a 16 + (pcn b j + (if b.testBit j then 1 else 0))
    rw [ih, hb (16 + j), if_neg (by omega), show 16 + j - 16 = j by omega]
    omega
theorem swar {o : Nat} (ho : o < 1073741824) (s1 s2 s3 s4 s5 : Nat) (h1 : s1 = o - (o / 2 &&& 1431655765)) (h2 : s2 = (s1 &&& 858993459) + (s1 / 4 &&& 858993459)) (h3 : s3 = (s2 + s2 / 16) &&& 252645135) (h4 : s4 = s3 + s3 / 256) (h5 : s5 = s4 + s4 / 65536) : s5 &&& 63 = pcn o 30 ∧ s1 < 4294967296 ∧ s2 < 4294967296 ∧ s3 < 4294967296 ∧ s4 < 4294967296 ∧ s5 < 4294967296 ∧ (o / 2 &&& 1431655765) ≤ o := by
  obtain ⟨a, b, ha, hb, rfl⟩ : ∃ a b, a < 65536 ∧ b < 16384 ∧ o = 65536 * b + a := ⟨o % 65536, o / 65536, by omega, by omega, by omega⟩
  obtain ⟨a1, a2, a3, a4, a5⟩ := lane ha
  obtain ⟨b1, b2, b3, b4, b5⟩ := lane (a := b) (by omega)
  have e1 : (65536 * b + a) / 2 &&& 1431655765 = 65536 * (b / 2 &&& 21845) + (a / 2 &&& 21845) := by
    rw [show (65536 * b + a) / 2 = 2 ^ 16 * (b / 2) + (32768 * (b % 2) + a / 2) by omega, show 1431655765 = 2 ^ 16 * 21845 + 21845 by rfl, and_split 16 (by omega) (by omega), and_low 15 (x := 32768 * (b % 2) + a / 2) (m := 21845) (by omega), and_low 15 (x := a / 2) (m := 21845) (by omega), show (32768 * (b % 2) + a / 2) % 2 ^ 15 = a / 2 % 2 ^ 15 by omega]
  have ia : (a / 2 &&& 21845) ≤ a := Nat.le_trans Nat.and_le_left (Nat.div_le_self _ _)
  have ib : (b / 2 &&& 21845) ≤ b := Nat.le_trans Nat.and_le_left (Nat.div_le_self _ _)
  have f1 : s1 = 65536 * l1 b + l1 a := by
    rw [h1, e1]
    unfold l1
    omega
  have e2 : s1 &&& 858993459 = 65536 * (l1 b &&& 13107) + (l1 a &&& 13107) := by
    rw [f1, show 65536 = 2 ^ 16 by rfl, show 858993459 = 2 ^ 16 * 13107 + 13107 by rfl, and_split 16 a1 (by omega)]
  have e3 : s1 / 4 &&& 858993459 = 65536 * (l1 b / 4 &&& 13107) + (l1 a / 4 &&& 13107) := by
    rw [f1, show (65536 * l1 b + l1 a) / 4 = 2 ^ 16 * (l1 b / 4) + (16384 * (l1 b % 4) + l1 a / 4) by omega, show 858993459 = 2 ^ 16 * 13107 + 13107 by rfl, and_split 16 (by omega) (by omega), and_low 14 (x := 16384 * (l1 b % 4) + l1 a / 4) (m := 13107) (by omega), and_low 14 (x := l1 a / 4) (m := 13107) (by omega), show (16384 * (l1 b % 4) + l1 a / 4) % 2 ^ 14 = l1 a / 4 % 2 ^ 14 by omega]
  have f2 : s2 = 65536 * l2 b + l2 a := by
    rw [h2, e2, e3]
    unfold l2
    omega
  have f3 : s3 = 65536 * l3 b + l3 a := by
    rw [h3, f2, show 65536 * l2 b + l2 a + (65536 * l2 b + l2 a) / 16 = 2 ^ 16 * (l2 b + l2 b / 16) + (4096 * (l2 b % 16) + l2 a + l2 a / 16) by omega, show 252645135 = 2 ^ 16 * 3855 + 3855 by rfl, and_split 16 (by omega) (by omega), and_low 12 (x := 4096 * (l2 b % 16) + l2 a + l2 a / 16) (m := 3855) (by omega), show (4096 * (l2 b % 16) + l2 a + l2 a / 16) % 2 ^ 12 = (l2 a + l2 a / 16) % 2 ^ 12 by omega, ← and_low 12 (x := l2 a + l2 a / 16) (m := 3855) (by omega)]
    rfl
  have hp : pcn (65536 * b + a) 30 = pcn a 16 + pcn b 16 := by
    rw [show 30 = 16 + 14 by rfl, pcn_add a b ha 14]
    have z : ∀ i, 14 ≤ i → b.testBit i = false := fun i hi => Nat.testBit_lt_two_pow (Nat.lt_of_lt_of_le hb (Nat.pow_le_pow_right (by omega) hi : 2 ^ 14 ≤ 2 ^ i))
    have z2 : pcn b 16 = pcn b 14 := by simp [pcn, z 14, z 15]
    omega
  have f4 : s5 % 64 = (l3 a % 256 + l3 a / 256 + (l3 b % 256 + l3 b / 256)) ∧ s3 < 4294967296 ∧ s4 < 4294967296 ∧ s5 < 4294967296 := by
    generalize l3 a = u at *
    generalize l3 b = v at *
    omega
  refine ⟨?_, by omega, by omega, f4.2.1, f4.2.2.1, f4.2.2.2, by omega⟩
  rw [show (63 : Nat) = 2 ^ 6 - 1 by rfl, Nat.and_two_pow_sub_one_eq_mod, show 2 ^ 6 = 64 by rfl, f4.1, hp, a5, b5]
section
variable {d : Nat} {g : zG} {σ : zI} {K : Int32 → zI → Prop}
theorem ush (n k : Nat) (hn : n < 4294967296) (s : Int32) (hs : ((s.toUInt32 &&& Int32.toUInt32 31).toBitVec % 32).toNat = k) : ((nI n).toUInt32 >>> (s.toUInt32 &&& Int32.toUInt32 31)).toInt32 = nI (n / 2 ^ k) := pk_ushrN (by omega) s k hs
theorem cx_bitCount (hg : zGL g) {o : Nat} (ho : o < 1073741824) (h1 : K (nI (pcn o 30)) σ) : zCI mJ6_bitCount_0f7a4 d [.int (nI o)] g σ K := by
  obtain ⟨r, q1, q2, q3, q4, q5, q6⟩ := swar ho _ _ _ _ _ rfl rfl rfl rfl rfl
  have a1 := ush o 1 (by omega) 1 rfl
  have x1 : nI o - (((nI o).toUInt32 >>> ((1 : Int32).toUInt32 &&& Int32.toUInt32 31)).toInt32 &&& 1431655765) = nI (o - (o / 2 &&& 1431655765)) := by
    rw [a1, show (1431655765 : Int32) = nI 1431655765 from rfl, fa_and]
    exact pk_sub q6
  refine s_J6_bitCount_0f7a4 hg ?_
  rw [x1]
  generalize o - (o / 2 &&& 1431655765) = s1 at *
  have x2 : (nI s1 &&& 858993459) + (((nI s1).toUInt32 >>> ((2 : Int32).toUInt32 &&& Int32.toUInt32 31)).toInt32 &&& 858993459) = nI ((s1 &&& 858993459) + (s1 / 4 &&& 858993459)) := by
    rw [ush s1 2 q1 2 rfl, show (858993459 : Int32) = nI 858993459 from rfl, fa_and, fa_and, nI_add]
  rw [x2]
  generalize (s1 &&& 858993459) + (s1 / 4 &&& 858993459) = s2 at *
  have x3 : (nI s2 + ((nI s2).toUInt32 >>> ((4 : Int32).toUInt32 &&& Int32.toUInt32 31)).toInt32) &&& 252645135 = nI ((s2 + s2 / 16) &&& 252645135) := by
    rw [ush s2 4 q2 4 rfl, show (252645135 : Int32) = nI 252645135 from rfl, nI_add, fa_and]
  rw [x3]
  generalize (s2 + s2 / 16) &&& 252645135 = s3 at *
  have x4 : nI s3 + ((nI s3).toUInt32 >>> ((8 : Int32).toUInt32 &&& Int32.toUInt32 31)).toInt32 = nI (s3 + s3 / 256) := by
    rw [ush s3 8 q3 8 rfl, nI_add]
  rw [x4]
  generalize s3 + s3 / 256 = s4 at *
  have x5 : nI s4 + ((nI s4).toUInt32 >>> ((16 : Int32).toUInt32 &&& Int32.toUInt32 31)).toInt32 = nI (s4 + s4 / 65536) := by
    rw [ush s4 16 q4 16 rfl, nI_add]
  rw [x5, show (63 : Int32) = nI 63 from rfl, fa_and, r]
  exact h1
end
