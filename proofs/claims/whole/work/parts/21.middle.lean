/-! whom a SUM can reach, and who is in the MIDDLE: both sides -/
def pwo (A : Nat → Nat → Bool) (n h : Nat) : Nat := t1 (prt A n h) n n
def mdl (A : Nat → Nat → Bool) (n : Nat) : Nat → Int32 × Nat
  | 0 => (-1, 0)
  | i + 1 => if (mdl A n i).2 < pwo A n i then (nI i, pwo A n i) else mdl A n i
theorem sR_le {f : Nat → Nat} {a : Nat} (hf : ∀ i, f i ≤ 1) : ∀ r, sR f a r ≤ r
  | 0 => Nat.le_refl _
  | r + 1 => by
    have := sR_le (a := a) hf r
    have := hf (a + r)
    unfold sR
    omega
theorem prt_le (A : Nat → Nat → Bool) (n h i j : Nat) : prt A n h i j ≤ 1 := by
  unfold prt
  split
  · omega
  · split <;> omega
theorem t1_le (A : Nat → Nat → Bool) (n h : Nat) : ∀ i, t1 (prt A n h) n i ≤ n * i
  | 0 => Nat.le_refl _
  | i + 1 => by
    have h1 := t1_le A n h i
    have h2 := sR_le (f := prt A n h i) (a := i + 1) (prt_le A n h i) (n - (i + 1))
    have h3 : n * (i + 1) = n * i + n := Nat.mul_succ n i
    show t1 (prt A n h) n i + sR (prt A n h i) (i + 1) (n - (i + 1)) ≤ n * (i + 1)
    omega
theorem t2_le (A : Nat → Nat → Bool) (n h : Nat) : ∀ i, i ≤ n → t2 (prt A n h) i ≤ n * i
  | 0, _ => Nat.le_refl _
  | i + 1, hi => by
    have h1 := t2_le A n h i (by omega)
    have h2 := sR_le (f := fun a => prt A n h a i) (a := 0) (fun a => prt_le A n h a i) i
    have h3 : n * (i + 1) = n * i + n := Nat.mul_succ n i
    show t2 (prt A n h) i + sR (fun a => prt A n h a i) 0 i ≤ n * (i + 1)
    omega
theorem pwo_le (A : Nat → Nat → Bool) {n : Nat} (hn : n ≤ 6) (h : Nat) : pwo A n h ≤ 36 := by
  have h1 := t1_le A n h n
  have h2 : n * n ≤ 6 * 6 := Nat.mul_le_mul hn hn
  unfold pwo
  omega
theorem sh1 {j : Nat} (hj : j < 32) : (1 : Int32) <<< (nI j &&& 31) = nI (2 ^ j) := by
  rw [show (1 : Int32) = nI 1 from rfl, nI_shl 1 j hj, Nat.one_mul]
section
variable {d : Nat} {g : zG} {σ : zI}
theorem cx_reached {K : Int32 → zI → Prop} (hg : zGA g) {A : Nat → Nat → Bool} {n f h : Nat} {hv : Int32} (hn : n ≤ 6) (hf : f < n) (hh : ∀ j, j < 6 → (nI j = hv ↔ j = h)) (h4 : σ 28 4 = nI n)
    (hA : ∀ a b, a < n → b < n → (σ (30 + a) b = -1 ↔ A a b = false)) (h1 : K (nI (rch A h n f)) σ) : zCI mX6_reached d [.ref 28, .int (nI f), .int hv] g σ K := by
  have keyJ : ∀ (i x kr : Nat), i < n → (∀ y, y = rJ A h i n x → p_X6_reached_19 d g K σ hv (nI y) (nI kr) (nI (i + 1))) → x < 64 → ∀ (r j : Nat), j + r = n → p_X6_reached_31 d g K σ hv (nI (rJ A h i j x)) (nI kr) (nI i) (nI j) := by
    intro i x kr hi hk hx r
    induction r with
    | zero =>
      intro j hr
      have e : j = n := by omega
      subst e
      refine s_X6_reached_31 hg ?_
      rw [h4, nI_1 i]
      exact i_le j j rfl rfl (by omega) (by omega) (fun _ => hk _ rfl) (fun q => by omega)
    | succ r ih =>
      intro j hr
      have nx := ih (j + 1) (by omega)
      have hlt := rJ_lt A h i hx j (by omega)
      have eJ : rJ A h i (j + 1) x = if (rJ A h i j x).testBit i = true ∧ j ≠ h ∧ A i j = true then rJ A h i j x ||| 2 ^ j else rJ A h i j x := rfl
      refine s_X6_reached_31 hg ?_
      rw [h4, nI_1 j, b_has (by omega) (by omega), c_nI (n := i) (by omega), c_nI (n := j) (by omega), sh1 (by omega), fa_or]
      refine i_le n j rfl rfl (by omega) (by omega) (fun q => by omega) (fun _ => t_eq (fun q => ?_) (fun q => t_eq (fun q2 => ?_) (fun q2 => ⟨v_in (by omega) (by omega), v_in (by omega) (by omega), t_eq (fun q3 => ?_) (fun q3 => ?_)⟩)))
      · rw [eJ, if_neg (fun u => by rw [u.1] at q; exact absurd q (by decide))] at nx; exact nx
      · rw [eJ, if_neg (fun u => u.2.1 ((hh j (by omega)).mp q2))] at nx; exact nx
      · rw [eJ, if_neg (fun u => by rw [(hA i j hi (by omega)).mp q3] at u; exact absurd u.2.2 (by decide))] at nx; exact nx
      · have t1 : (rJ A h i j x).testBit i = true := by
          cases w : (rJ A h i j x).testBit i with
          | true => rfl
          | false => rw [w] at q; exact absurd rfl q
        have t2 : A i j = true := by
          cases w : A i j with
          | true => rfl
          | false => exact absurd ((hA i j hi (by omega)).mpr w) q3
        rw [eJ, if_pos ⟨t1, fun u => q2 ((hh j (by omega)).mpr u), t2⟩] at nx; exact nx
  have keyI : ∀ (x kr : Nat), (∀ y, y = rI A h n n x → p_X6_reached_7 d g K σ hv (nI y) (nI (kr + 1))) → x < 64 → ∀ (r i : Nat), i + r = n → p_X6_reached_19 d g K σ hv (nI (rI A h n i x)) (nI kr) (nI i) := by
    intro x kr hk hx r
    induction r with
    | zero =>
      intro i hr
      have e : i = n := by omega
      subst e
      refine s_X6_reached_19 hg ?_
      rw [h4, nI_1 kr]
      exact i_le i i rfl rfl (by omega) (by omega) (fun _ => hk _ rfl) (fun q => by omega)
    | succ r ih =>
      intro i hr
      refine s_X6_reached_19 hg ?_
      rw [h4]
      refine i_le n i rfl rfl (by omega) (by omega) (fun q => by omega) (fun _ => ?_)
      exact keyJ i _ kr (by omega) (fun y hy => by rw [hy]; exact ih (i + 1) (by omega)) (rI_lt A h hn hx i) n 0 (by omega)
  have keyR : ∀ (r k : Nat), k + r = n - 1 → p_X6_reached_7 d g K σ hv (nI (rR A h n k (2 ^ f))) (nI (k + 1)) := by
    intro r
    induction r with
    | zero =>
      intro k hr
      have e : k = n - 1 := by omega
      subst e
      refine s_X6_reached_7 hg ?_
      rw [h4]
      exact i_le n (n - 1 + 1) rfl rfl (by omega) (by omega) (fun _ => h1) (fun q => by omega)
    | succ r ih =>
      intro k hr
      refine s_X6_reached_7 hg ?_
      rw [h4]
      refine i_le n (k + 1) rfl rfl (by omega) (by omega) (fun q => by omega) (fun _ => ?_)
      exact keyI _ (k + 1) (fun y hy => by rw [hy]; exact ih (k + 1) (by omega)) (rR_lt A h hn (Nat.pow_lt_pow_right (by omega) (by omega) : 2 ^ f < 2 ^ 6) k) n 0 (by omega)
  refine s_X6_reached hg ?_
  rw [sh1 (by omega)]
  exact keyR (n - 1) 0 (by omega)
theorem cm_reached {K : Int32 → zI → Prop} (hg : zGA g) {A : Nat → Nat → Bool} {n f h : Nat} {hv : Int32} (hn : n ≤ 6) (hf : f < n) (hh : ∀ j, j < 6 → (nI j = hv ↔ j = h)) (h4 : σ 57 1 = nI n)
    (hA : ∀ a b, a < n → b < n → a ≠ b → (σ 71 (6 * a + b) = -1 ↔ A a b = false)) (hd : ∀ a, A a a = false) (h1 : K (nI (rch A h n f)) σ) : zCI mX8_reached (d + 1) [.ref 57, .int (nI f), .int hv] g σ K := by
  rw [← rch_6 A h hf hn] at h1
  have m6 : ∀ a b : Nat, (6 : Int32) * nI a + nI b = nI (6 * a + b) := fun a b => by rw [show (6 : Int32) * nI a = nI (6 * a) from pk_mul 6 a, nI_add]
  have keyJ : ∀ (i x kr : Nat), i < n → (∀ y, y = rJ A h i n x → p_X8_reached_17 d g K σ hv (nI y) (nI kr) (nI (i + 1))) → x < 64 → ∀ (r j : Nat), j + r = n → p_X8_reached_29 d g K σ hv (nI (rJ A h i j x)) (nI kr) (nI i) (nI j) := by
    intro i x kr hi hk hx r
    induction r with
    | zero =>
      intro j hr
      have e : j = n := by omega
      subst e
      refine s_X8_reached_29 hg ?_
      rw [h4, nI_1 i]
      exact i_le j j rfl rfl (by omega) (by omega) (fun _ => hk _ rfl) (fun q => by omega)
    | succ r ih =>
      intro j hr
      have nx := ih (j + 1) (by omega)
      have hlt := rJ_lt A h i hx j (by omega)
      have eJ : rJ A h i (j + 1) x = if (rJ A h i j x).testBit i = true ∧ j ≠ h ∧ A i j = true then rJ A h i j x ||| 2 ^ j else rJ A h i j x := rfl
      refine s_X8_reached_29 hg ?_
      rw [h4, nI_1 j, m6, c_nI (n := 6 * i + j) (by omega), sh1 (by omega), fa_or]
      refine i_le n j rfl rfl (by omega) (by omega) (fun q => by omega) (fun _ => cm_has hg (by omega) (by omega) (fun q => z0 ?_) (fun q => z1 (i_eq i j rfl rfl (by omega) (by omega) (fun q1 => ?_) (fun q1 => t_eq (fun q2 => ?_) (fun q2 => ⟨v_in (by omega) (by omega), t_eq (fun q3 => ?_) (fun q3 => ?_)⟩)))))
      · rw [eJ, if_neg (fun u => by rw [u.1] at q; exact absurd q (by decide))] at nx; exact nx
      · subst q1
        rw [eJ, if_neg (fun u => by rw [hd] at u; exact absurd u.2.2 (by decide))] at nx; exact nx
      · rw [eJ, if_neg (fun u => u.2.1 ((hh j (by omega)).mp q2))] at nx; exact nx
      · rw [eJ, if_neg (fun u => by rw [(hA i j hi (by omega) q1).mp q3] at u; exact absurd u.2.2 (by decide))] at nx; exact nx
      · have t2 : A i j = true := by
          cases w : A i j with
          | true => rfl
          | false => exact absurd ((hA i j hi (by omega) q1).mpr w) q3
        rw [eJ, if_pos ⟨q, fun u => q2 ((hh j (by omega)).mpr u), t2⟩] at nx; exact nx
  have keyI : ∀ (x kr : Nat), (∀ y, y = rI A h n n x → p_X8_reached_7 d g K σ hv (nI y) (nI (kr + 1))) → x < 64 → ∀ (r i : Nat), i + r = n → p_X8_reached_17 d g K σ hv (nI (rI A h n i x)) (nI kr) (nI i) := by
    intro x kr hk hx r
    induction r with
    | zero =>
      intro i hr
      have e : i = n := by omega
      subst e
      refine s_X8_reached_17 hg ?_
      rw [h4, nI_1 kr]
      exact i_le i i rfl rfl (by omega) (by omega) (fun _ => hk _ rfl) (fun q => by omega)
    | succ r ih =>
      intro i hr
      refine s_X8_reached_17 hg ?_
      rw [h4]
      refine i_le n i rfl rfl (by omega) (by omega) (fun q => by omega) (fun _ => ?_)
      exact keyJ i _ kr (by omega) (fun y hy => by rw [hy]; exact ih (i + 1) (by omega)) (rI_lt A h hn hx i) n 0 (by omega)
  have keyR : ∀ (r k : Nat), k + r = 6 → p_X8_reached_7 d g K σ hv (nI (rR A h n k (2 ^ f))) (nI k) := by
    intro r
    induction r with
    | zero =>
      intro k hr
      have e : k = 6 := by omega
      subst e
      exact s_X8_reached_7 hg (i_le 6 6 rfl rfl (by omega) (by omega) (fun _ => h1) (fun q => by omega))
    | succ r ih =>
      intro k hr
      refine s_X8_reached_7 hg (i_le 6 k rfl rfl (by omega) (by omega) (fun q => by omega) (fun _ => ?_))
      exact keyI _ k (fun y hy => by rw [hy]; exact ih (k + 1) (by omega)) (rR_lt A h hn (Nat.pow_lt_pow_right (by omega) (by omega) : 2 ^ f < 2 ^ 6) k) n 0 (by omega)
  refine s_X8_reached hg ?_
  rw [sh1 (by omega)]
  exact keyR 6 0 (by omega)
theorem h_none : ∀ j, j < 6 → (nI j = -1 ↔ j = 7) := by
  intro j hj
  constructor
  · intro e
    have := congrArg Int32.toInt e
    rw [nI_toInt' (by omega)] at this
    have e1 : (-1 : Int32).toInt = -1 := rfl
    omega
  · intro e; omega
theorem h_some {h : Nat} (hh : h < 6) : ∀ j, j < 6 → (nI j = nI h ↔ j = h) := fun j hj => nI_eq (by omega) (by omega)
end
