/-! what the branches, numbers and frames of the segment lemmas need -/
theorem z0 {A B : Prop} (h : A) : if (0 : Int32) = 0 then A else B := by rw [if_pos rfl]; exact h
theorem z1 {A B : Prop} (h : B) : if (1 : Int32) = 0 then A else B := by rw [if_neg (by decide)]; exact h
theorem i_le {A B : Prop} {x y : Int32} (a b : Nat) (hx : x = nI a) (hy : y = nI b) (ha : a < 2147483648) (hb : b < 2147483648) (f : a ≤ b → A) (g : b < a → B) : if x ≤ y then A else B := by
  subst hx; subst hy
  by_cases q : a ≤ b
  · rw [if_pos ((nI_leI (by omega) (by omega)).mpr q)]; exact f q
  · rw [if_neg (fun h => q ((nI_leI (by omega) (by omega)).mp h))]; exact g (by omega)
theorem i_lt {A B : Prop} {x y : Int32} (a b : Nat) (hx : x = nI a) (hy : y = nI b) (ha : a < 2147483648) (hb : b < 2147483648) (f : a < b → A) (g : b ≤ a → B) : if x < y then A else B := by
  subst hx; subst hy
  by_cases q : a < b
  · rw [if_pos ((nI_ltI (by omega) (by omega)).mpr q)]; exact f q
  · rw [if_neg (fun h => q ((nI_ltI (by omega) (by omega)).mp h))]; exact g (by omega)
theorem i_eq {A B : Prop} {x y : Int32} (a b : Nat) (hx : x = nI a) (hy : y = nI b) (ha : a < 2147483648) (hb : b < 2147483648) (f : a = b → A) (g : a ≠ b → B) : if x = y then A else B := by
  subst hx; subst hy
  by_cases q : a = b
  · rw [if_pos ((nI_eq (by omega) (by omega)).mpr q)]; exact f q
  · rw [if_neg (fun h => q ((nI_eq (by omega) (by omega)).mp h))]; exact g q
theorem t_lt {A B : Prop} {x y : Int32} (f : x.toInt < y.toInt → A) (g : y.toInt ≤ x.toInt → B) : if x < y then A else B := by
  by_cases q : x < y
  · rw [if_pos q]; exact f (Int32.lt_iff_toInt_lt.mp q)
  · rw [if_neg q]; exact g (by have := mt Int32.lt_iff_toInt_lt.mpr q; omega)
theorem t_le {A B : Prop} {x y : Int32} (f : x.toInt ≤ y.toInt → A) (g : y.toInt < x.toInt → B) : if x ≤ y then A else B := by
  by_cases q : x ≤ y
  · rw [if_pos q]; exact f (Int32.le_iff_toInt_le.mp q)
  · rw [if_neg q]; exact g (by have := mt Int32.le_iff_toInt_le.mpr q; omega)
theorem t_eq {A B : Prop} {x y : Int32} (f : x = y → A) (g : ¬ x = y → B) : if x = y then A else B := by
  by_cases q : x = y
  · rw [if_pos q]; exact f q
  · rw [if_neg q]; exact g q
theorem t_n {A B : Prop} {x y : Nat} (f : x = y → A) (g : ¬ x = y → B) : if x = y then A else B := by
  by_cases q : x = y
  · rw [if_pos q]; exact f q
  · rw [if_neg q]; exact g q
theorem nI_toInt' {n : Nat} (h : n < 2147483648) : (nI n).toInt = (n : Int) := nI_toInt (by omega)
theorem zNat {v : Int32} {n : Nat} (h0 : 0 ≤ v.toInt) (h1 : v.toInt ≤ n) (hn : n < 2147483648) : ∃ k, k ≤ n ∧ v = nI k := by
  refine ⟨v.toInt.toNat, by omega, ?_⟩
  apply Int32.toInt_inj.mp
  rw [nI_toInt' (by omega)]
  omega
theorem v_in {n N : Nat} (h : n < N) (hN : N < 2147483648) : vp_in (nI n) N := vp_in_nI h (by omega)
theorem c_nI {n : Nat} (h : n < 2147483648) : (nI n).toNatClampNeg = n := nI_clamp (by omega)
theorem v_of {x : Int32} {N : Nat} (h : vp_in x N) (hN : N < 2147483648) : ∃ j, j < N ∧ x = nI j := vp_in_of h (by omega)
/-- what isn't among these objects is as it was -/
def zfr (l : List Nat) (σ σ' : zI) : Prop := ∀ a, a ∉ l → σ' a = σ a
theorem zfr_rf (l : List Nat) (σ : zI) : zfr l σ σ := fun _ _ => rfl
theorem zfr_tr {l : List Nat} {σ σ1 σ2 : zI} (h : zfr l σ σ1) (h2 : zfr l σ1 σ2) : zfr l σ σ2 := fun a ha => (h2 a ha).trans (h a ha)
theorem zfr_I {l : List Nat} {σ : zI} {i k : Nat} {x : Int32} (h : i ∈ l) : zfr l σ (zsI σ i k x) := fun a ha => zsI_ne (fun q => ha (q ▸ h))
theorem zfr_put {l : List Nat} {σ σ1 : zI} {i k : Nat} {x : Int32} (h : zfr l σ σ1) (hi : i ∈ l) : zfr l σ (zsI σ1 i k x) := zfr_tr h (zfr_I hi)
theorem zfr_up {l m : List Nat} {σ σ1 : zI} (h : zfr l σ σ1) (hs : ∀ a, a ∈ l → a ∈ m) : zfr m σ σ1 := fun a ha => h a (fun q => ha (hs a q))
/-- bits -/
theorem fa_and (a b : Nat) : nI a &&& nI b = nI (a &&& b) := by
  apply Int32.toBitVec_inj.mp
  show BitVec.ofNat 32 a &&& BitVec.ofNat 32 b = BitVec.ofNat 32 (a &&& b)
  apply BitVec.eq_of_toNat_eq
  simp [BitVec.toNat_ofNat, Nat.and_mod_two_pow]
theorem fa_or (a b : Nat) : nI a ||| nI b = nI (a ||| b) := by
  apply Int32.toBitVec_inj.mp
  show BitVec.ofNat 32 a ||| BitVec.ofNat 32 b = BitVec.ofNat 32 (a ||| b)
  apply BitVec.eq_of_toNat_eq
  simp [BitVec.toNat_ofNat, Nat.or_mod_two_pow]
theorem fa_xor (a b : Nat) : nI a ^^^ nI b = nI (a ^^^ b) := by
  apply Int32.toBitVec_inj.mp
  show BitVec.ofNat 32 a ^^^ BitVec.ofNat 32 b = BitVec.ofNat 32 (a ^^^ b)
  apply BitVec.eq_of_toNat_eq
  simp [BitVec.toNat_ofNat, Nat.xor_mod_two_pow]
theorem s_l : ∀ n, n < 32 → ((nI n &&& 31).toBitVec.smod 32).toNat = n := by decide +kernel
theorem nI_mod (a b : Nat) (h : a % 4294967296 = b % 4294967296) : nI a = nI b := by
  apply Int32.toBitVec_inj.mp
  show BitVec.ofNat 32 a = BitVec.ofNat 32 b
  apply BitVec.eq_of_toNat_eq
  simpa [BitVec.toNat_ofNat] using h
theorem nI_shl (o n : Nat) (hn : n < 32) : nI o <<< (nI n &&& 31) = nI (o * 2 ^ n) := by
  apply Int32.toBitVec_inj.mp
  apply BitVec.eq_of_toNat_eq
  rw [pk_shl (nI o) (nI n &&& 31) n (s_l n hn)]
  show (BitVec.ofNat 32 o).toNat * 2 ^ n % 2 ^ 32 = (BitVec.ofNat 32 (o * 2 ^ n)).toNat
  simp [BitVec.toNat_ofNat, Nat.mod_mul_mod]
theorem nI_shr {o : Nat} (n : Nat) (ho : o < 2147483648) (hn : n < 32) : nI o >>> (nI n &&& 31) = nI (o / 2 ^ n) := pk_shrN (by omega) (nI n &&& 31) n (s_l n hn)
theorem b_has {o i : Nat} (ho : o < 2147483648) (hi : i < 32) : ((nI o >>> (nI i &&& 31)) &&& 1) = nI (if o.testBit i then 1 else 0) := by
  rw [nI_shr i ho hi, show (1 : Int32) = nI 1 from rfl, fa_and, Nat.and_one_is_mod, Nat.testBit_eq_decide_div_mod_eq]
  by_cases h : o / 2 ^ i % 2 = 1
  · simp [h]
  · have h2 : o / 2 ^ i % 2 = 0 := by omega
    simp [h2]
theorem b_one {n : Nat} (h1 : 1 ≤ n) (hn : n ≤ 32) : (1 : Int32) <<< ((nI n - 1) &&& 31) = nI (2 ^ (n - 1)) := by
  rw [show (1 : Int32) = nI 1 from rfl, pk_sub h1, nI_shl 1 (n - 1) (by omega), Nat.one_mul]
theorem b_at {o j : Nat} (hj : j < 31) : (nI o &&& nI (2 ^ j) = 0) ↔ o.testBit j = false := by
  rw [fa_and]
  have hlt : o &&& 2 ^ j < 2147483648 := Nat.lt_of_le_of_lt Nat.and_le_right (Nat.lt_of_lt_of_le (Nat.pow_lt_pow_right (by omega) hj) (by decide))
  rw [show (0 : Int32) = nI 0 from rfl, nI_eq (by omega) (by omega)]
  constructor
  · intro h
    have := congrArg (fun x => x.testBit j) h
    simpa [Nat.testBit_and, Nat.testBit_two_pow] using this
  · intro h
    apply Nat.eq_of_testBit_eq
    intro i
    rw [Nat.testBit_and, Nat.testBit_two_pow, Nat.zero_testBit]
    by_cases e : j = i
    · subst e; simp [h]
    · simp [e]
theorem nI_nle' {a b : Nat} (h : b < a) (ha : a < 2147483648) : ¬ nI a ≤ nI b := nI_ge h (by omega)
