/-! Integer.bitCount counts bits -/
theorem and_split (i : Nat) {x y m k : Nat} (hx : x < 2 ^ i) (hm : m < 2 ^ i) : (2 ^ i * y + x) &&& (2 ^ i * k + m) = 2 ^ i * (y &&& k) + (x &&& m) := by
  apply Nat.eq_of_testBit_eq
  intro j
  rw [Nat.testBit_and, Nat.testBit_two_pow_mul_add _ hx, Nat.testBit_two_pow_mul_add _ hm, Nat.testBit_two_pow_mul_add _ (Nat.lt_of_le_of_lt Nat.and_le_left hx)]
  by_cases h : j < i
  · rw [if_pos h, if_pos h, if_pos h, Nat.testBit_and]
  · rw [if_neg h, if_neg h, if_neg h, Nat.testBit_and]
theorem and_low (i : Nat) {x m : Nat} (hm : m < 2 ^ i) : x &&& m = (x % 2 ^ i) &&& m := by
  have h := and_split i (x := x % 2 ^ i) (y := x / 2 ^ i) (m := m) (k := 0) (Nat.mod_lt _ (Nat.two_pow_pos i)) hm
  rw [Nat.div_add_mod, Nat.mul_zero, Nat.zero_add, Nat.and_zero, Nat.mul_zero, Nat.zero_add] at h
  exact h
theorem pcn_add (W a b : Nat) (ha : a < 2 ^ W) : ∀ j, pcn (2 ^ W * b + a) (W + j) = pcn a W + pcn b j := by
  have hb : ∀ i, (2 ^ W * b + a).testBit i = if i < W then a.testBit i else b.testBit (i - W) := fun i => Nat.testBit_two_pow_mul_add (i := W) b ha i
  have h16 : ∀ j, j ≤ W → pcn (2 ^ W * b + a) j = pcn a j := by
    intro j
    induction j with
    | zero => intro _; rfl
    | succ j ih =>
      intro h
      have e := hb j
      rw [if_pos (show j < W by omega)] at e
      unfold pcn
      rw [ih (by omega), e]
  intro j
  induction j with
  | zero => exact h16 W (Nat.le_refl _)
  | succ j ih =>
    have e := hb (W + j)
    rw [if_neg (show ¬ W + j < W by omega), show W + j - W = j by omega] at e
    show pcn (2 ^ W * b + a) (W + j) + (if (2 ^ W * b + a).testBit (W + j) then 1 else 0) = pcn a W + (pcn b j + (if b.testBit j then 1 else 0))
    rw [ih, e]
    omega
def k1 (a : Nat) : Nat := a - (a / 2 &&& 85)
def k2 (a : Nat) : Nat := (k1 a &&& 51) + (k1 a / 4 &&& 51)
def k3 (a : Nat) : Nat := (k2 a + k2 a / 16) &&& 15
theorem lane8_all : ∀ x, x < 256 → (k1 x < 256 ∧ k2 x ≤ 68 ∧ k2 x % 16 ≤ 4 ∧ k3 x = pcn x 8) := by decide +kernel
theorem lane8 {a : Nat} (ha : a < 256) : k1 a < 2 ^ 8 ∧ k2 a ≤ 68 ∧ k2 a % 16 ≤ 4 ∧ k3 a = pcn a 8 := lane8_all a ha
def l1 (a : Nat) : Nat := a - (a / 2 &&& 21845)
def l2 (a : Nat) : Nat := (l1 a &&& 13107) + (l1 a / 4 &&& 13107)
def l3 (a : Nat) : Nat := (l2 a + l2 a / 16) &&& 3855
theorem lane_of {a b : Nat} (ha : a < 256) (hb : b < 256) (s1 s2 s3 : Nat) (h1 : s1 = (256 * b + a) - ((256 * b + a) / 2 &&& 21845)) (h2 : s2 = (s1 &&& 13107) + (s1 / 4 &&& 13107)) (h3 : s3 = (s2 + s2 / 16) &&& 3855) : s1 < 65536 ∧ s2 ≤ 17476 ∧ s2 % 16 ≤ 4 ∧ s3 = 256 * pcn b 8 + pcn a 8 := by
  obtain ⟨a1, a2, a2m, a3⟩ := lane8 ha
  obtain ⟨b1, b2, b2m, b3⟩ := lane8 (a := b) (by omega)
  have e1 : (256 * b + a) / 2 &&& 21845 = 256 * (b / 2 &&& 85) + (a / 2 &&& 85) := by
    rw [show (256 * b + a) / 2 = 2 ^ 8 * (b / 2) + (128 * (b % 2) + a / 2) by omega, show 21845 = 2 ^ 8 * 85 + 85 by rfl, and_split 8 (by omega) (by omega), and_low 7 (x := 128 * (b % 2) + a / 2) (m := 85) (by omega), and_low 7 (x := a / 2) (m := 85) (by omega), show (128 * (b % 2) + a / 2) % 2 ^ 7 = a / 2 % 2 ^ 7 by omega]
  have ia : (a / 2 &&& 85) ≤ a := Nat.le_trans Nat.and_le_left (Nat.div_le_self _ _)
  have ib : (b / 2 &&& 85) ≤ b := Nat.le_trans Nat.and_le_left (Nat.div_le_self _ _)
  have f1 : s1 = 256 * k1 b + k1 a := by
    rw [h1, e1]
    unfold k1
    omega
  have e2 : s1 &&& 13107 = 256 * (k1 b &&& 51) + (k1 a &&& 51) := by
    rw [f1, show 256 = 2 ^ 8 by rfl, show 13107 = 2 ^ 8 * 51 + 51 by rfl, and_split 8 a1 (by omega)]
  have e3 : s1 / 4 &&& 13107 = 256 * (k1 b / 4 &&& 51) + (k1 a / 4 &&& 51) := by
    rw [f1, show (256 * k1 b + k1 a) / 4 = 2 ^ 8 * (k1 b / 4) + (64 * (k1 b % 4) + k1 a / 4) by omega, show 13107 = 2 ^ 8 * 51 + 51 by rfl, and_split 8 (by omega) (by omega), and_low 6 (x := 64 * (k1 b % 4) + k1 a / 4) (m := 51) (by omega), and_low 6 (x := k1 a / 4) (m := 51) (by omega), show (64 * (k1 b % 4) + k1 a / 4) % 2 ^ 6 = k1 a / 4 % 2 ^ 6 by omega]
  have f2 : s2 = 256 * k2 b + k2 a := by
    rw [h2, e2, e3]
    unfold k2
    omega
  have f3 : s3 = 256 * k3 b + k3 a := by
    rw [h3, f2, show 256 * k2 b + k2 a + (256 * k2 b + k2 a) / 16 = 2 ^ 8 * (k2 b + k2 b / 16) + (16 * (k2 b % 16) + k2 a + k2 a / 16) by omega, show 3855 = 2 ^ 8 * 15 + 15 by rfl, and_split 8 (by omega) (by omega), and_low 4 (x := 16 * (k2 b % 16) + k2 a + k2 a / 16) (m := 15) (by omega), show (16 * (k2 b % 16) + k2 a + k2 a / 16) % 2 ^ 4 = (k2 a + k2 a / 16) % 2 ^ 4 by omega, ← and_low 4 (x := k2 a + k2 a / 16) (m := 15) (by omega)]
    rfl
  refine ⟨by omega, by omega, by omega, by rw [f3, a3, b3]⟩
theorem lane {a : Nat} (ha : a < 65536) : l1 a < 2 ^ 16 ∧ l2 a ≤ 17476 ∧ l2 a % 16 ≤ 4 ∧ l3 a = 256 * pcn (a / 256) 8 + pcn (a % 256) 8 := by
  have h := lane_of (a := a % 256) (b := a / 256) (by omega) (by omega) _ _ _ rfl rfl rfl
  rw [show 256 * (a / 256) + a % 256 = a by omega] at h
  exact h
theorem swar {o : Nat} (ho : o < 1073741824) (s1 s2 s3 s4 s5 : Nat) (h1 : s1 = o - (o / 2 &&& 1431655765)) (h2 : s2 = (s1 &&& 858993459) + (s1 / 4 &&& 858993459)) (h3 : s3 = (s2 + s2 / 16) &&& 252645135) (h4 : s4 = s3 + s3 / 256) (h5 : s5 = s4 + s4 / 65536) : s5 &&& 63 = pcn o 30 ∧ s1 < 4294967296 ∧ s2 < 4294967296 ∧ s3 < 4294967296 ∧ s4 < 4294967296 ∧ s5 < 4294967296 ∧ (o / 2 &&& 1431655765) ≤ o := by
  obtain ⟨a, b, ha, hb, rfl⟩ : ∃ a b, a < 65536 ∧ b < 16384 ∧ o = 65536 * b + a := ⟨o % 65536, o / 65536, by omega, by omega, by omega⟩
  obtain ⟨a1, a2, a2m, a3⟩ := lane ha
  obtain ⟨b1, b2, b2m, b3⟩ := lane (a := b) (by omega)
  have e1 : (65536 * b + a) / 2 &&& 1431655765 = 65536 * (b / 2 &&& 21845) + (a / 2 &&& 21845) := by
    rw [show (65536 * b + a) / 2 = 2 ^ 16 * (b / 2) + (32768 * (b % 2) + a / 2) by omega, show 1431655765 = 2 ^ 16 * 21845 + 21845 by rfl, and_split 16 (by omega) (by omega), and_low 15 (x := 32768 * (b % 2) + a / 2) (m := 21845) (by omega), and_low 15 (x := a / 2) (m := 21845) (by omega), show (32768 * (b % 2) + a / 2) % 2 ^ 15 = a / 2 % 2 ^ 15 by omega]
  have ia : (a / 2 &&& 21845) ≤ a := Nat.le_trans Nat.and_le_left (Nat.div_le_self _ _)
  have ib : (b / 2 &&& 21845) ≤ b := Nat.le_trans Nat.and_le_left (Nat.div_le_self _ _)
  have f1 : s1 = 65536 * l1 b + l1 a := by
    rw [h1, e1]
    unfold l1
    omega
  have e2 : s1 &&& 858993459 = 65536 * (l1 b &&& 13107) + (l1 a &&& 13107) := by
    rw [f1, show 65536 = 2 ^ 16 by rfl, show 858993459 = 2 ^ 16 * 13107 + 13107 by rfl, and_split 16 a1 (by omega)]
  have e3 : s1 / 4 &&& 858993459 = 65536 * (l1 b / 4 &&& 13107) + (l1 a / 4 &&& 13107) := by
    rw [f1, show (65536 * l1 b + l1 a) / 4 = 2 ^ 16 * (l1 b / 4) + (16384 * (l1 b % 4) + l1 a / 4) by omega, show 858993459 = 2 ^ 16 * 13107 + 13107 by rfl, and_split 16 (by omega) (by omega), and_low 14 (x := 16384 * (l1 b % 4) + l1 a / 4) (m := 13107) (by omega), and_low 14 (x := l1 a / 4) (m := 13107) (by omega), show (16384 * (l1 b % 4) + l1 a / 4) % 2 ^ 14 = l1 a / 4 % 2 ^ 14 by omega]
  have f2 : s2 = 65536 * l2 b + l2 a := by
    rw [h2, e2, e3]
    unfold l2
    omega
  have f3 : s3 = 65536 * l3 b + l3 a := by
    rw [h3, f2, show 65536 * l2 b + l2 a + (65536 * l2 b + l2 a) / 16 = 2 ^ 16 * (l2 b + l2 b / 16) + (4096 * (l2 b % 16) + l2 a + l2 a / 16) by omega, show 252645135 = 2 ^ 16 * 3855 + 3855 by rfl, and_split 16 (by omega) (by omega), and_low 12 (x := 4096 * (l2 b % 16) + l2 a + l2 a / 16) (m := 3855) (by omega), show (4096 * (l2 b % 16) + l2 a + l2 a / 16) % 2 ^ 12 = (l2 a + l2 a / 16) % 2 ^ 12 by omega, ← and_low 12 (x := l2 a + l2 a / 16) (m := 3855) (by omega)]
    rfl
  have hp : pcn (65536 * b + a) 30 = pcn a 16 + pcn b 16 := by
    rw [show 65536 = 2 ^ 16 by rfl, show 30 = 16 + 14 by rfl, pcn_add 16 a b ha 14]
    have z : ∀ i, 14 ≤ i → b.testBit i = false := fun i hi => Nat.testBit_lt_two_pow (Nat.lt_of_lt_of_le hb (Nat.pow_le_pow_right (by omega) hi : 2 ^ 14 ≤ 2 ^ i))
    have z2 : pcn b 16 = pcn b 14 := by simp [pcn, z 14, z 15]
    omega
  have pa : pcn a 16 = pcn (a % 256) 8 + pcn (a / 256) 8 := by
    have := pcn_add 8 (a % 256) (a / 256) (by omega) 8
    rw [show 2 ^ 8 * (a / 256) + a % 256 = a by omega] at this
    exact this
  have pb : pcn b 16 = pcn (b % 256) 8 + pcn (b / 256) 8 := by
    have := pcn_add 8 (b % 256) (b / 256) (by omega) 8
    rw [show 2 ^ 8 * (b / 256) + b % 256 = b by omega] at this
    exact this
  have u1 := pcn_le (a % 256) 8
  have u2 := pcn_le (a / 256) 8
  have u3 := pcn_le (b % 256) 8
  have u4 := pcn_le (b / 256) 8
  generalize pcn (a % 256) 8 = p1 at *
  generalize pcn (a / 256) 8 = p2 at *
  generalize pcn (b % 256) 8 = p3 at *
  generalize pcn (b / 256) 8 = p4 at *
  have f4 : s5 % 64 = p1 + p2 + p3 + p4 ∧ s3 < 4294967296 ∧ s4 < 4294967296 ∧ s5 < 4294967296 := by
    rw [a3, b3] at f3
    have t1 : s3 / 256 = 65536 * p4 + 256 * p3 + p2 := by omega
    have t2 : s4 = 16777216 * p4 + 65536 * (p3 + p4) + 256 * (p2 + p3) + (p1 + p2) := by omega
    have t3 : s4 / 65536 = 256 * p4 + (p3 + p4) := by omega
    have t4 : s5 = 64 * (262144 * p4 + 1024 * (p3 + p4) + 4 * (p2 + p3) + 4 * p4) + (p1 + p2 + (p3 + p4)) := by omega
    clear h1 h2 h3 h4 h5 e1 e2 e3 f1 f2
    omega
  refine ⟨?_, by omega, by omega, f4.2.1, f4.2.2.1, f4.2.2.2, by omega⟩
  rw [show (63 : Nat) = 2 ^ 6 - 1 by rfl, Nat.and_two_pow_sub_one_eq_mod, show 2 ^ 6 = 64 by rfl, f4.1, hp, pa, pb]
  omega
section
variable {d : Nat} {g : zG} {σ : zI} {K : Int32 → zI → Prop}
theorem ush (n k : Nat) (hn : n < 4294967296) (s : Int32) (hs : ((s.toUInt32 &&& Int32.toUInt32 31).toBitVec % 32).toNat = k) : ((nI n).toUInt32 >>> (s.toUInt32 &&& Int32.toUInt32 31)).toInt32 = nI (n / 2 ^ k) := pk_ushrN (by omega) s k hs
theorem cx_bitCount (hg : zGL g) {o : Nat} (ho : o < 1073741824) (h1 : K (nI (pcn o 30)) σ) : zCI mJ6_bitCount_0f7a4 d [.int (nI o)] g σ K := by
  obtain ⟨r, q1, q2, q3, q4, q5, q6⟩ := swar ho _ _ _ _ _ rfl rfl rfl rfl rfl
  have a1 := ush o 1 (by omega) 1 rfl
  have x1 : nI o - (((nI o).toUInt32 >>> ((1 : Int32).toUInt32 &&& Int32.toUInt32 31)).toInt32 &&& 1431655765) = nI (o - (o / 2 &&& 1431655765)) := by
    rw [a1, show (1431655765 : Int32) = nI 1431655765 from rfl, fa_and]
    exact pk_sub q6
  refine s_J6_bitCount_0f7a4 hg ?_
  rw [x1]
  generalize o - (o / 2 &&& 1431655765) = s1 at *
  have x2 : (nI s1 &&& 858993459) + (((nI s1).toUInt32 >>> ((2 : Int32).toUInt32 &&& Int32.toUInt32 31)).toInt32 &&& 858993459) = nI ((s1 &&& 858993459) + (s1 / 4 &&& 858993459)) := by
    rw [ush s1 2 q1 2 rfl, show (858993459 : Int32) = nI 858993459 from rfl, fa_and, fa_and, nI_add]
  rw [x2]
  generalize (s1 &&& 858993459) + (s1 / 4 &&& 858993459) = s2 at *
  have x3 : (nI s2 + ((nI s2).toUInt32 >>> ((4 : Int32).toUInt32 &&& Int32.toUInt32 31)).toInt32) &&& 252645135 = nI ((s2 + s2 / 16) &&& 252645135) := by
    rw [ush s2 4 q2 4 rfl, show (252645135 : Int32) = nI 252645135 from rfl, nI_add, fa_and]
  rw [x3]
  generalize (s2 + s2 / 16) &&& 252645135 = s3 at *
  have x4 : nI s3 + ((nI s3).toUInt32 >>> ((8 : Int32).toUInt32 &&& Int32.toUInt32 31)).toInt32 = nI (s3 + s3 / 256) := by
    rw [ush s3 8 q3 8 rfl, nI_add]
  rw [x4]
  generalize s3 + s3 / 256 = s4 at *
  have x5 : nI s4 + ((nI s4).toUInt32 >>> ((16 : Int32).toUInt32 &&& Int32.toUInt32 31)).toInt32 = nI (s4 + s4 / 65536) := by
    rw [ush s4 16 q4 16 rfl, nI_add]
  rw [x5, show (63 : Int32) = nI 63 from rfl, fa_and, r]
  exact h1
end
