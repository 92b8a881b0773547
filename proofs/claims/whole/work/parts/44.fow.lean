/-! firstOtherwise, tellsSums: both sides -/
def fow (L : Nat → Option Nat) (C : Nat → Int32) : Nat → Nat → Int32
  | _, 0 => -1
  | i, r + 1 => if on (L (C (2 * i)).toInt.toNat) = C (2 * i + 1) then fow L C (i + 1) r else nI i
def tsm (C : Nat → Int32) : Nat → Nat → Bool
  | _, 0 => true
  | i, r + 1 => decide (0 ≤ (C (2 * i)).toInt ∧ (C (2 * i)).toInt ≤ 99) && tsm C (i + 1) r
def fo (E : zE) (x y : zH) (C : Nat → Int32) (m : Nat) : Int32 := fow (ls (prc E x y)) C 0 m
theorem tsm_1 {C : Nat → Int32} {i r : Nat} (h : tsm C i (r + 1) = true) : (0 ≤ (C (2 * i)).toInt ∧ (C (2 * i)).toInt ≤ 99) ∧ tsm C (i + 1) r = true := by
  have h : (decide (0 ≤ (C (2 * i)).toInt ∧ (C (2 * i)).toInt ≤ 99) && tsm C (i + 1) r) = true := h
  rw [Bool.and_eq_true] at h
  exact ⟨of_decide_eq_true h.1, h.2⟩
theorem tsm_2 {C : Nat → Int32} {i r : Nat} (h : 0 ≤ (C (2 * i)).toInt ∧ (C (2 * i)).toInt ≤ 99) : tsm C i (r + 1) = tsm C (i + 1) r := by
  show (decide (0 ≤ (C (2 * i)).toInt ∧ (C (2 * i)).toInt ≤ 99) && tsm C (i + 1) r) = _
  rw [decide_eq_true h]
  rfl
theorem tsm_3 {C : Nat → Int32} {i r : Nat} (h : ¬ (0 ≤ (C (2 * i)).toInt ∧ (C (2 * i)).toInt ≤ 99)) : tsm C i (r + 1) = false := by
  show (decide (0 ≤ (C (2 * i)).toInt ∧ (C (2 * i)).toInt ≤ 99) && tsm C (i + 1) r) = _
  rw [decide_eq_false h]
  rfl
theorem xS_fr {σ σ1 : zI} {a sz : Nat} {so : Int32} {C : Nat → Int32} {l : List Nat} (h : xS σ a so sz C) (ha : a < 4) (hf : zfr l σ σ1) (hl : ∀ x, x ∈ l → x < 49 ∨ 57 ≤ x) : xS σ1 a so sz C := by
  obtain ⟨p0, p1, p2, p3⟩ := h
  have n1 : 49 + 2 * a ∉ l := fun q => by have := hl _ q; omega
  have n2 : 49 + 2 * a + 1 ∉ l := fun q => by have := hl _ q; omega
  exact ⟨p0, by rw [hf _ n1]; exact p1, by rw [hf _ n1]; exact p2, fun k hk => by rw [hf _ n2]; exact p3 k hk⟩
theorem mS_fr {σ σ1 : zI} {a sz : Nat} {so : Int32} {C : Nat → Int32} {l : List Nat} (h : mS σ a so sz C) (hf : zfr l σ σ1) (hl : 75 ∉ l ∧ 76 ∉ l ∧ 77 ∉ l) : mS σ1 a so sz C := by
  obtain ⟨p0, p1, p2, p3⟩ := h
  exact ⟨p0, by rw [hf _ hl.1]; exact p1, by rw [hf _ hl.2.1]; exact p2, fun k hk => by rw [hf _ hl.2.2]; exact p3 k hk⟩
section
variable {d : Nat} {g : zG} {σ : zI} {K : Int32 → zI → Prop}
theorem cx_tells (hg : zGA g) {a sz : Nat} {so : Int32} {C : Nat → Int32} (ha : a < 4) (hS : xS σ a so sz C) (h0 : ¬ (sz = 2 * (sz / 2) ∧ tsm C 0 (sz / 2) = true) → K 0 σ) (h1 : sz = 2 * (sz / 2) → tsm C 0 (sz / 2) = true → K 1 σ) : zCI mX5_tellsSums (d + 2) [.ref (49 + 2 * a)] g σ K := by
  have hz := hS.1
  refine s_X5_tellsSums hg (gr_sheets_n hg a ha).2 ?_
  rw [hS.2.2.1, show nI sz - nI sz / 2 * 2 = nI (sz % 2) from pk_rem (d := 2) (by omega) (by omega) (by omega)]
  refine i_eq (sz % 2) 0 rfl rfl (by omega) (by omega) (fun q => ?_) (fun q => h0 (fun u => by omega))
  have ez : sz = 2 * (sz / 2) := by omega
  generalize sz / 2 = m at *
  subst ez
  have key : ∀ (r i : Nat), i + r = m → (tsm C i r = false → K 0 σ) → (tsm C i r = true → K 1 σ) → p_X5_tellsSums_13 (d + 1) g K σ (49 + 2 * a) (nI (2 * i)) := by
    intro r
    induction r with
    | zero =>
      intro i hr k0 k1
      refine s_X5_tellsSums_13 hg (gr_sheets_n hg a ha).2 ?_
      rw [hS.2.2.1]
      exact i_le (2 * m) (2 * i) rfl rfl (by omega) (by omega) (fun _ => k1 rfl) (fun q => by omega)
    | succ r ih =>
      intro i hr k0 k1
      refine s_X5_tellsSums_13 hg (gr_sheets_n hg a ha).2 ?_
      rw [hS.2.2.1]
      refine i_le (2 * m) (2 * i) rfl rfl (by omega) (by omega) (fun q => by omega) (fun _ => cx_at (d := d) hg ha hS (by omega) (cx_isSum hg (fun u => z0 (k0 (tsm_3 (by omega)))) (fun u u2 => z1 ?_)))
      rw [tsm_2 ⟨u, u2⟩] at k0 k1
      rw [show nI (2 * i) + 2 = nI (2 * (i + 1)) from nI_add (2 * i) 2]
      exact ih (i + 1) (by omega) k0 k1
  exact key m 0 (by omega) (fun u => h0 (fun w => by rw [w.2] at u; cases u)) (fun u => h1 rfl u)
theorem cx_fo (hg : zGA g) {E : zE} {T a p q m : Nat} {x y : zH} {so : Int32} {C : Nat → Int32} (ht : xTx σ T E.1 E.2.1 E.2.2) (ha : a < 4) (hS : xS σ a so (2 * m) C) (htk : tsm C 0 m = true) (hp : zOb g p 0) (hq : zOb g q 0) (hx : xH σ p x) (hy : xH σ q y)
    (h1 : ∀ σ', zfr [20, 21, 23, 24, 25] σ σ' → K (fo E x y C m) σ') : zCI mX3_firstOtherwise (d + 6) [.ref 22, .ref (49 + 2 * a), .ref p, .ref q] g σ K := by
  have hz := hS.1
  refine s_X3_firstOtherwise hg (gr_sheets_n hg a ha).2 hp hq (cx_fillPrice (l := 99) hg ht hp hq hx hy (by omega) (fun σ1 hf h25 => ?_))
  have hS1 := xS_fr hS ha hf (by decide)
  have key : ∀ (r i : Nat), i + r = m → tsm C i r = true → K (fow (ls (prc E x y)) C i r) σ1 → p_X3_firstOtherwise_12 (d + 5) g K σ1 (49 + 2 * a) (nI (2 * i)) := by
    intro r
    induction r with
    | zero =>
      intro i hr _ hK
      refine s_X3_firstOtherwise_12 hg (gr_sheets_n hg a ha).2 ?_
      rw [hS1.2.2.1, nI_1]
      exact i_le (2 * m) (2 * i + 1) rfl rfl (by omega) (by omega) (fun _ => hK) (fun q => by omega)
    | succ r ih =>
      intro i hr htm hK
      obtain ⟨b, hrest⟩ := tsm_1 htm
      refine s_X3_firstOtherwise_12 hg (gr_sheets_n hg a ha).2 ?_
      rw [hS1.2.2.1, nI_1]
      refine i_le (2 * m) (2 * i + 1) rfl rfl (by omega) (by omega) (fun q => by omega) (fun _ => cx_at (d := d + 4) hg ha hS1 (by omega) ?_)
      have et : fow (ls (prc E x y)) C i (r + 1) = if on (ls (prc E x y) (C (2 * i)).toInt.toNat) = C (2 * i + 1) then fow (ls (prc E x y)) C (i + 1) r else nI i := rfl
      rw [et] at hK
      obtain ⟨t, ht99, e⟩ := zNat (v := C (2 * i)) (n := 99) b.1 (by omega) (by omega)
      rw [e, nI_toInt' (by omega), Int.toNat_natCast] at hK
      rw [e]
      refine cx_leastOf (d := d + 4) hg ht99 (cx_at (d := d + 4) hg ha hS1 (by omega) ?_)
      rw [h25 t ht99]
      refine t_eq (fun z => ?_) (fun z => ?_)
      · rw [if_pos z] at hK
        rw [show nI (2 * i) + 2 = nI (2 * (i + 1)) from nI_add (2 * i) 2]
        exact ih (i + 1) (by omega) hrest hK
      · rw [if_neg z] at hK
        rw [show nI (2 * i) / 2 = nI (2 * i / 2) from pk_div (d := 2) (by omega) (by omega) (by omega), show 2 * i / 2 = i by omega]
        exact hK
  exact key m 0 (by omega) htk (h1 σ1 hf)
theorem cm_fo (hg : zGA g) {E : zE} {T a i j m : Nat} {x y : zH} {so : Int32} {C : Nat → Int32} (ea : x.1 = i) (eb : y.1 = j) (ht : mTx σ T E.1 E.2.1 E.2.2) (ha : a < 4) (hS : mS σ a so (2 * m) C) (htk : tsm C 0 m = true) (hx : mH σ x) (hy : mH σ y) (h68 : σ 68 0 = 0) (h69 : σ 69 0 = 0)
    (h1 : ∀ σ', zfr [66, 67, 68, 69] σ σ' → σ' 68 0 = 0 → σ' 69 0 = 0 → K (fo E x y C m) σ') : zCI mX8_otherwise (d + 6) [.ref 57, .int (nI a), .int (nI i), .int (nI j)] g σ K := by
  have hz := hS.1
  refine s_X8_otherwise hg (cm_sums' hg ea eb ht hx hy h68 h69 (fun σ1 hf hv => ?_))
  obtain ⟨r0, r1, r2, r3⟩ := mS_fr hS hf (by decide)
  have m40 : ∀ a b : Nat, (40 : Int32) * nI a + nI b = nI (40 * a + b) := fun a b => by rw [show (40 : Int32) * nI a = nI (40 * a) from pk_mul 40 a, nI_add]
  have key : ∀ (r i : Nat), i + r = m → tsm C i r = true → K (fow (ls (prc E x y)) C i r) σ1 → p_X8_otherwise_9 (d + 5) g K σ1 (nI a) (nI (2 * i)) := by
    intro r
    induction r with
    | zero =>
      intro i hr _ hK
      refine s_X8_otherwise_9 hg ?_
      rw [c_nI (n := a) (by omega), r2]
      exact ⟨v_in ha (by omega), i_le (2 * m) (2 * i) rfl rfl (by omega) (by omega) (fun _ => hK) (fun q => by omega)⟩
    | succ r ih =>
      intro i hr htm hK
      obtain ⟨b, hrest⟩ := tsm_1 htm
      refine s_X8_otherwise_9 hg ?_
      have et : fow (ls (prc E x y)) C i (r + 1) = if on (ls (prc E x y) (C (2 * i)).toInt.toNat) = C (2 * i + 1) then fow (ls (prc E x y)) C (i + 1) r else nI i := rfl
      rw [et] at hK
      obtain ⟨t, ht99, e⟩ := zNat (v := C (2 * i)) (n := 99) b.1 (by omega) (by omega)
      rw [e, nI_toInt' (by omega), Int.toNat_natCast] at hK
      rw [c_nI (n := a) (by omega), r2, m40, nI_1 (40 * a + 2 * i), c_nI (n := 40 * a + 2 * i) (by omega), c_nI (n := 40 * a + 2 * i + 1) (by omega), r3 (2 * i) (by omega), show 40 * a + 2 * i + 1 = 40 * a + (2 * i + 1) by omega, r3 (2 * i + 1) (by omega), e, c_nI (n := t) (by omega), (hv t (by omega)).1]
      refine ⟨v_in ha (by omega), i_le (2 * m) (2 * i) rfl rfl (by omega) (by omega) (fun q => by omega) (fun _ => ⟨v_in (by omega) (by omega), v_in (by omega) (by omega), v_in (by omega) (by omega), t_eq (fun z => ?_) (fun z => ?_)⟩)⟩
      · rw [if_pos z.symm] at hK
        rw [show nI (2 * i) + 2 = nI (2 * (i + 1)) from nI_add (2 * i) 2]
        exact ih (i + 1) (by omega) hrest hK
      · rw [if_neg (fun u => z u.symm)] at hK
        rw [show nI (2 * i) / 2 = nI (2 * i / 2) from pk_div (d := 2) (by omega) (by omega) (by omega), show 2 * i / 2 = i by omega]
        exact hK
  exact key m 0 (by omega) htk (h1 σ1 hf (by rw [(hv 0 (by omega)).1, ls_0]; rfl) (by rw [(hv 0 (by omega)).2, ls_0]; rfl))
theorem cm_isSo (hg : zGA g) {E : zE} {T a i j m : Nat} {x y : zH} {so : Int32} {C : Nat → Int32} (ea : x.1 = i) (eb : y.1 = j) (ht : mTx σ T E.1 E.2.1 E.2.2) (ha : a < 4) (hS : mS σ a so (2 * m) C) (htk : tsm C 0 m = true) (hx : mH σ x) (hy : mH σ y) (h68 : σ 68 0 = 0) (h69 : σ 69 0 = 0)
    (h1 : ∀ σ', zfr [66, 67, 68, 69] σ σ' → σ' 68 0 = 0 → σ' 69 0 = 0 → (fo E x y C m = -1 → K 1 σ') ∧ (¬ fo E x y C m = -1 → K 0 σ')) : zCI mX8_isSo (d + 7) [.ref 57, .int (nI a), .int (nI i), .int (nI j)] g σ K :=
  s_X8_isSo hg (cm_fo hg ea eb ht ha hS htk hx hy h68 h69 (fun σ' hf z8 z9 => t_eq (fun q => (h1 σ' hf z8 z9).1 q) (fun q => (h1 σ' hf z8 z9).2 q)))
end
