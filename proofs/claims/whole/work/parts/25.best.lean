/-! buy, pawn: both sides -/
theorem set_add {y j : Nat} (h : y.testBit j = false) : y ||| 2 ^ j = y + 2 ^ j := by
  have hr : y / 2 ^ j % 2 = 0 := by
    rw [Nat.testBit_eq_decide_div_mod_eq] at h
    have := of_decide_eq_false h
    omega
  have e1 : y = 2 ^ (j + 1) * (y / 2 ^ (j + 1)) + y % 2 ^ j := by
    have a1 := (Nat.div_add_mod y (2 ^ (j + 1))).symm
    have a2 : y % 2 ^ (j + 1) = y % 2 ^ j + 2 ^ j * (y / 2 ^ j % 2) := Nat.mod_pow_succ
    rw [hr, Nat.mul_zero, Nat.add_zero] at a2
    rw [a2] at a1
    exact a1
  have hlt : y % 2 ^ j < 2 ^ j := Nat.mod_lt _ (Nat.two_pow_pos j)
  generalize y % 2 ^ j = r at *
  generalize y / 2 ^ (j + 1) = q at *
  have p2 : 2 ^ (j + 1) = 2 ^ j + 2 ^ j := by rw [Nat.pow_succ]; omega
  have e2 : y + 2 ^ j = 2 ^ (j + 1) * q + (2 ^ j * 1 + r) := by rw [e1, Nat.mul_one]; omega
  have b1 : r < 2 ^ (j + 1) := by omega
  have b2 : 2 ^ j * 1 + r < 2 ^ (j + 1) := by omega
  apply Nat.eq_of_testBit_eq
  intro i
  rw [set_bit, e2, Nat.testBit_two_pow_mul_add _ b2, Nat.testBit_two_pow_mul_add _ hlt, e1, Nat.testBit_two_pow_mul_add _ b1]
  by_cases c : i < j + 1
  · rw [if_pos c, if_pos c]
    by_cases c2 : i < j
    · rw [if_pos c2]; simp; omega
    · have : i = j := by omega
      subst this
      simp
  · rw [if_neg c, if_neg c]
    simp; omega
theorem clr {o j : Nat} (h : o.testBit j = true) (ho : o < 1073741824) (hj : j < 32) : o &&& (2 ^ j ^^^ (2 ^ 32 - 1)) = o - 2 ^ j ∧ 2 ^ j ≤ o := by
  have hm : (o &&& (2 ^ j ^^^ (2 ^ 32 - 1))).testBit j = false := by
    rw [Nat.testBit_and, Nat.testBit_xor, Nat.testBit_two_pow, Nat.testBit_two_pow_sub_one, decide_eq_true hj]
    simp
  have e : (o &&& (2 ^ j ^^^ (2 ^ 32 - 1))) ||| 2 ^ j = o := by
    apply Nat.eq_of_testBit_eq
    intro i
    rw [set_bit, Nat.testBit_and, Nat.testBit_xor, Nat.testBit_two_pow, Nat.testBit_two_pow_sub_one]
    by_cases c : j = i
    · subst c; rw [h]; simp
    · by_cases c2 : i < 32
      · simp [c, c2]
      · rw [bit_ge ho (by omega)]; simp [c]
  rw [set_add hm] at e
  omega
theorem nI_andnot (a b : Nat) : nI a &&& (nI b ^^^ (-1)) = nI (a &&& (b ^^^ (2 ^ 32 - 1))) := by
  rw [show (-1 : Int32) = nI (2 ^ 32 - 1) from rfl, fa_xor, fa_and]
def wOwn (x : zH) (o : Nat) : zH := (x.1, x.2.1, x.2.2.1, o)
def bo (f : Nat → Option Int32) : Nat → Int32 × Int32
  | 0 => (-1, -1)
  | n + 1 => match f (n + 1) with
    | none => bo f n
    | some v => if (bo f n).1 = -1 then (nI (n + 1), v) else if v < (bo f n).2 then (nI (n + 1), v) else bo f n
def fBuy (E : zE) (x y : zH) (n : Nat) : Option Int32 := some (hq E (wOwn x (x.2.2.2 ||| 2 ^ (n - 1))) (prc E (wOwn x (x.2.2.2 ||| 2 ^ (n - 1))) y) 0)
def fPawn (E : zE) (x y : zH) (n : Nat) : Option Int32 := if x.2.2.2.testBit (n - 1) then some (nI (99 - npay (prc E (wOwn x (x.2.2.2 - 2 ^ (n - 1))) y) 99)) else none
def aBest (f : zH → zH → Nat → Option Int32) (fam : Nat → zH) (n : Nat) (a b w : Int32) : Int32 := match two n a b with
  | none => -2
  | some (i, j) => if 0 ≤ w.toInt ∧ w.toInt ≤ 1 then (if w = 0 then (bo (f (fam i) (fam j)) 30).1 else (bo (f (fam i) (fam j)) 30).2) else -2
section
variable {d : Nat} {g : zG} {σ : zI}
theorem cx_become {K : zI → Prop} (hg : zGA g) {a b : Nat} {x : zH} (ha : zOb g a 0) (hb : zOb g b 0) (hab : b ≠ a) (hx : xH σ b x) (h1 : ∀ σ', zfr [a] σ σ' → xH σ' a x → K σ') : zCV mX0_become d [.ref a, .ref b] g σ K := by
  obtain ⟨e0, e1, e2, e3, e4⟩ := hx
  refine s_X0_become hg ha hb ?_
  simp only [zsI_ne hab]
  rw [e0, e1, e2, e3]
  have i1 : a ∈ [a] := List.mem_singleton.mpr rfl
  refine h1 _ (zfr_put (zfr_put (zfr_put (zfr_put (zfr_rf _ _) i1) i1) i1) i1) ⟨?_, ?_, ?_, ?_, e4⟩
  · rw [zsI_no (by omega), zsI_no (by omega), zsI_no (by omega), zsI_at]
  · rw [zsI_no (by omega), zsI_no (by omega), zsI_at]
  · rw [zsI_no (by omega), zsI_at]
  · rw [zsI_at]
theorem xH_own {a : Nat} {x : zH} {o o' : Nat} (hx : xH σ a (wOwn x o)) (ho : o' < 1073741824) : xH (zsI σ a 3 (nI o')) a (wOwn x o') := by
  obtain ⟨e0, e1, e2, e3, e4, e5, e6, e7⟩ := hx
  refine ⟨?_, ?_, ?_, zsI_at, e4, e5, e6, ho⟩
  · rw [zsI_no (by omega)]; exact e0
  · rw [zsI_no (by omega)]; exact e1
  · rw [zsI_no (by omega)]; exact e2
theorem nlt_le {x y : Int32} (h : x.toInt ≤ y.toInt) : ¬ y < x := fun u => by have := Int32.lt_iff_toInt_lt.mp u; omega
theorem bo_some {f : Nat → Option Int32} {n : Nat} {v : Int32} (h : f (n + 1) = some v) : bo f (n + 1) = if (bo f n).1 = -1 then (nI (n + 1), v) else if v < (bo f n).2 then (nI (n + 1), v) else bo f n := by
  show (match f (n + 1) with | none => bo f n | some v => if (bo f n).1 = -1 then (nI (n + 1), v) else if v < (bo f n).2 then (nI (n + 1), v) else bo f n) = _
  rw [h]
theorem bo_none {f : Nat → Option Int32} {n : Nat} (h : f (n + 1) = none) : bo f (n + 1) = bo f n := by
  show (match f (n + 1) with | none => bo f n | some v => if (bo f n).1 = -1 then (nI (n + 1), v) else if v < (bo f n).2 then (nI (n + 1), v) else bo f n) = _
  rw [h]
theorem cx_buy {K : Int32 → zI → Prop} (hg : zGA g) {E : zE} {T n : Nat} {fam : Nat → zH} (ht : xTx σ T E.1 E.2.1 E.2.2) (hF : xF σ n fam) {a b w : Int32} (h1 : ∀ σ', zfr [20, 21, 26, 41] σ σ' → K (aBest (fBuy E) fam n a b w) σ') : zCI mX7_buy (d + 6) [.ref 0, .int a, .int b, .int w] g σ K := by
  have n6 := hF.1
  have e0 : (0 : Int32).toInt = 0 := rfl
  have e1 : (1 : Int32).toInt = 1 := rfl
  unfold aBest at h1
  refine s_X7_buy hg (cx_two hg hF (fun q => ?_) (fun i j q => ?_))
  · rw [q] at h1; exact h1 σ (zfr_rf _ _)
  · rw [q] at h1
    obtain ⟨hi, hj, hij, rfl, rfl⟩ := two_some n6 q
    have h1 : ∀ σ', zfr [20, 21, 26, 41] σ σ' → K (if 0 ≤ w.toInt ∧ w.toInt ≤ 1 then (if w = 0 then (bo (fBuy E (fam i) (fam j)) 30).1 else (bo (fBuy E (fam i) (fam j)) 30).2) else -2) σ' := h1
    have bad : ¬ (0 ≤ w.toInt ∧ w.toInt ≤ 1) → K (-2) σ := fun c => by
      have := h1 σ (zfr_rf _ _)
      rw [if_neg c] at this
      exact this
    refine t_lt (fun q => bad (by omega)) (fun q => t_le (fun q2 => ?_) (fun q2 => bad (by omega)))
    rw [if_pos ⟨by omega, by omega⟩] at h1
    have hoi := (gr_family_n hg i (by omega)).2
    have hoj := (gr_family_n hg j (by omega)).2
    have hx := (hF.2.2 i hi).2
    have hy := (hF.2.2 j hj).2
    refine cx_become hg (gA_41 hg) hoi (by omega) hx (fun σ0 hf0 hx0 => ?_)
    generalize fam i = x at *
    generalize fam j = y at *
    have hob : x.2.2.2 < 1073741824 := hx.2.2.2.2.2.2.2
    have key : ∀ (r n : Nat) (σ1 : zI) (o : Nat), n + r = 30 → zfr [20, 21, 26, 41] σ σ1 → xH σ1 41 (wOwn x o) → p_X7_buy_61 (d + 5) g K σ1 w (43 + i) (43 + j) (bo (fBuy E x y) n).1 (bo (fBuy E x y) n).2 (nI (n + 1)) := by
      intro r
      induction r with
      | zero =>
        intro n σ1 o hr hf hx1
        have e : n = 30 := by omega
        subst e
        have hk := h1 σ1 hf
        refine s_X7_buy_61 hg hoi hoj (i_lt 30 31 rfl rfl (by omega) (by omega) (fun _ => t_eq (fun z => ?_) (fun z => ?_)) (fun q => by omega))
        · rw [if_pos z] at hk; exact hk
        · rw [if_neg z] at hk; exact hk
      | succ r ih =>
        intro n σ1 o hr hf hx1
        have fi := hf (43 + i) (by simp; omega)
        have ei : σ1 (43 + i) 3 = nI x.2.2.2 := by rw [fi]; exact hx.2.2.2.1
        refine s_X7_buy_61 hg hoi hoj (i_lt 30 (n + 1) rfl rfl (by omega) (by omega) (fun q => by omega) (fun _ => cx_bit hg (by omega) (by omega) ?_))
        rw [show n + 1 - 1 = n by omega, ei, fa_or, nI_1 (n + 1)]
        have hlt : x.2.2.2 ||| 2 ^ n < 1073741824 := or_lt30 hob (Nat.pow_lt_pow_right (by omega) (by omega) : 2 ^ n < 2 ^ 30)
        have hx2 := xH_own hx1 hlt
        have hf2 : zfr [20, 21, 26, 41] σ (zsI σ1 41 3 (nI (x.2.2.2 ||| 2 ^ n))) := zfr_put hf (by decide)
        refine cx_hindered (w := 0) hg (xTx_fr ht hf2 (by decide) (by decide)) (gA_41 hg) hoj hx2 (xHr_fr hy hf2 (by simp; omega)) (prc_some E (wOwn x (x.2.2.2 ||| 2 ^ n)) y) (by omega) (fun σ2 hf3 => ?_)
        have nx := ih (n + 1) σ2 (x.2.2.2 ||| 2 ^ n) (by omega) (zfr_tr hf2 (zfr_up hf3 (by decide))) (xHr_fr hx2 hf3 (by decide))
        have eb : fBuy E x y (n + 1) = some (hq E (wOwn x (x.2.2.2 ||| 2 ^ n)) (prc E (wOwn x (x.2.2.2 ||| 2 ^ n)) y) 0) := rfl
        rw [bo_some eb] at nx
        refine t_eq (fun z => ?_) (fun z => t_le (fun z2 => ?_) (fun z2 => ?_))
        · rw [if_pos z] at nx; exact nx
        · rw [if_neg z, if_neg (nlt_le z2)] at nx; exact nx
        · rw [if_neg z, if_pos (Int32.lt_iff_toInt_lt.mpr z2)] at nx; exact nx
    exact key 30 0 σ0 x.2.2.2 (by omega) (zfr_up hf0 (by decide)) hx0
theorem cx_pawn {K : Int32 → zI → Prop} (hg : zGA g) {E : zE} {n : Nat} {fam : Nat → zH} (hF : xF σ n fam) {a b w : Int32} (h1 : ∀ σ', zfr [26, 41] σ σ' → K (aBest (fPawn E) fam n a b w) σ') : zCI mX7_pawn (d + 6) [.ref 0, .int a, .int b, .int w] g σ K := by
  have n6 := hF.1
  have e0 : (0 : Int32).toInt = 0 := rfl
  have e1 : (1 : Int32).toInt = 1 := rfl
  unfold aBest at h1
  refine s_X7_pawn hg (cx_two hg hF (fun q => ?_) (fun i j q => ?_))
  · rw [q] at h1; exact h1 σ (zfr_rf _ _)
  · rw [q] at h1
    obtain ⟨hi, hj, hij, rfl, rfl⟩ := two_some n6 q
    have h1 : ∀ σ', zfr [26, 41] σ σ' → K (if 0 ≤ w.toInt ∧ w.toInt ≤ 1 then (if w = 0 then (bo (fPawn E (fam i) (fam j)) 30).1 else (bo (fPawn E (fam i) (fam j)) 30).2) else -2) σ' := h1
    have bad : ¬ (0 ≤ w.toInt ∧ w.toInt ≤ 1) → K (-2) σ := fun c => by
      have := h1 σ (zfr_rf _ _)
      rw [if_neg c] at this
      exact this
    refine t_lt (fun q => bad (by omega)) (fun q => t_le (fun q2 => ?_) (fun q2 => bad (by omega)))
    rw [if_pos ⟨by omega, by omega⟩] at h1
    have hoi := (gr_family_n hg i (by omega)).2
    have hoj := (gr_family_n hg j (by omega)).2
    have hx := (hF.2.2 i hi).2
    have hy := (hF.2.2 j hj).2
    refine cx_become hg (gA_41 hg) hoi (by omega) hx (fun σ0 hf0 hx0 => ?_)
    generalize fam i = x at *
    generalize fam j = y at *
    have hob : x.2.2.2 < 1073741824 := hx.2.2.2.2.2.2.2
    have key : ∀ (r n : Nat) (σ1 : zI) (o : Nat), n + r = 30 → zfr [26, 41] σ σ1 → xH σ1 41 (wOwn x o) → p_X7_pawn_61 (d + 5) g K σ1 w (43 + i) (43 + j) (bo (fPawn E x y) n).1 (bo (fPawn E x y) n).2 (nI (n + 1)) := by
      intro r
      induction r with
      | zero =>
        intro n σ1 o hr hf hx1
        have e : n = 30 := by omega
        subst e
        have hk := h1 σ1 hf
        refine s_X7_pawn_61 hg hoi hoj (i_lt 30 31 rfl rfl (by omega) (by omega) (fun _ => t_eq (fun z => ?_) (fun z => ?_)) (fun q => by omega))
        · rw [if_pos z] at hk; exact hk
        · rw [if_neg z] at hk; exact hk
      | succ r ih =>
        intro n σ1 o hr hf hx1
        have fi := hf (43 + i) (by simp; omega)
        have ei : σ1 (43 + i) 3 = nI x.2.2.2 := by rw [fi]; exact hx.2.2.2.1
        refine s_X7_pawn_61 hg hoi hoj (i_lt 30 (n + 1) rfl rfl (by omega) (by omega) (fun q => by omega) (fun _ => ?_))
        rw [ei, nI_1 (n + 1)]
        refine cx_has (d := d + 4) hg (by omega) (by omega) (fun z => z0 ?_) (fun z => z1 (cx_bit hg (by omega) (by omega) ?_))
        · have nx := ih (n + 1) σ1 o (by omega) hf hx1
          have eb : fPawn E x y (n + 1) = none := by unfold fPawn; rw [z]; rfl
          rw [bo_none eb] at nx
          exact nx
        · rw [show n + 1 - 1 = n by omega] at z ⊢
          obtain ⟨c1, c2⟩ := clr z hob (by omega)
          rw [ei, nI_andnot, c1]
          have hx2 := xH_own hx1 (Nat.lt_of_le_of_lt (Nat.sub_le _ _) hob : x.2.2.2 - 2 ^ n < 1073741824)
          have hf2 : zfr [26, 41] σ (zsI σ1 41 3 (nI (x.2.2.2 - 2 ^ n))) := zfr_put hf (by decide)
          refine cx_payable hg (gA_41 hg) hoj hx2 (xHr_fr hy hf2 (by simp; omega)) (prc_some E (wOwn x (x.2.2.2 - 2 ^ n)) y) (fun σ2 hf3 => ?_)
          have nx := ih (n + 1) σ2 (x.2.2.2 - 2 ^ n) (by omega) (zfr_tr hf2 (zfr_up hf3 (by decide))) (xHr_fr hx2 hf3 (by decide))
          have eb : fPawn E x y (n + 1) = some (nI (99 - npay (prc E (wOwn x (x.2.2.2 - 2 ^ n)) y) 99)) := by
            unfold fPawn
            rw [show n + 1 - 1 = n by omega, z]; rfl
          rw [bo_some eb] at nx
          rw [show (99 : Int32) = nI 99 from rfl, pk_sub (npay_le _ 99)]
          refine t_eq (fun z => ?_) (fun z => t_le (fun z2 => ?_) (fun z2 => ?_))
          · rw [if_pos z] at nx; exact nx
          · rw [if_neg z, if_neg (nlt_le z2)] at nx; exact nx
          · rw [if_neg z, if_pos (Int32.lt_iff_toInt_lt.mpr z2)] at nx; exact nx
    exact key 30 0 σ0 x.2.2.2 (by omega) (zfr_up hf0 (by decide)) hx0
end
