/-! the class reads the next TOKEN -/
def xK (σ : zI) (k : zTk) : Prop := σ 4 4 = nI k.1 ∧ σ 4 2 = nI k.2.1 ∧ σ 4 3 = nI k.2.2.1 ∧ (k.2.2.1 = 2 → σ 4 5 = nI k.2.2.2)
theorem zlen_le : ∀ l, l < 14 → zlen.getD l 0 ≤ 28 := by decide
theorem WX_lt : ∀ l, l < 14 → ∀ i, i < 28 → (WX.getD l []).getD i 0 < 128 := by decide +kernel
theorem sg_ok : ∀ c, c < 256 → ∀ i, i < 8 → ((zbyt.getD 13 []).getD i 0 = (nI c).toInt8.toInt32 ↔ c = (WX.getD 13 []).getD i 0) := by decide +kernel
theorem sg_in : ∀ i, i < 8 → isSg ((WX.getD 13 []).getD i 0) = true := by decide
theorem sg_of {c : Nat} (h : isSg c = true) : ∃ i, i < 8 ∧ c = (WX.getD 13 []).getD i 0 := by
  rcases of_decide_eq_true h with q | q | q | q | q | q | q | q
  · exact ⟨0, by omega, q⟩
  · exact ⟨1, by omega, q⟩
  · exact ⟨2, by omega, q⟩
  · exact ⟨3, by omega, q⟩
  · exact ⟨4, by omega, q⟩
  · exact ⟨5, by omega, q⟩
  · exact ⟨6, by omega, q⟩
  · exact ⟨7, by omega, q⟩
section
variable {d : Nat} {g : zG} {σ : zI}
theorem cx_len {K : Int32 → zI → Prop} (hg : zGL g) {l : Nat} (hl : l < 14) (h1 : K (nI (zlen.getD l 0)) σ) : zCI mJ0_length_8abf5 (d + 1) [.ref (1000 + l)] g σ K := by
  have lz := zlen_le l hl
  refine s_J0_length_8abf5 hg hl (s_J0_coder_7d493 hg hl ?_)
  have e := nI_shr (o := zlen.getD l 0) 0 (by omega) (by omega)
  rw [show nI 0 = (0 : Int32) from rfl, Nat.pow_zero, Nat.div_one] at e
  rw [e]
  exact h1
theorem cx_chr {K : Int32 → zI → Prop} (hg : zGL g) {l i : Nat} (hl : l < 14) (hi : i < zlen.getD l 0) (h1 : K (nI ((WX.getD l []).getD i 0)) σ) : zCI mJ0_charAt_5068e (d + 4) [.ref (1000 + l), .int (nI i)] g σ K := by
  have lz := zlen_le l hl
  have ec := (chr_ok l hl i hi).1
  have wl := WX_lt l hl i (by omega)
  refine s_J0_charAt_5068e hg hl (s_J0_isLatin1_aae02 hg hl (z1 (s_J1_charAt_3b067 hg hl (s_J0_checkIndex_df160 hg (fun f1 hf1 => s_J3_checkIndex_8e157 hg hf1 ?_)))))
  rw [if_neg (nI_pos (by omega)), if_pos (nI_lt hi (by omega)), c_nI (by omega), ec]
  exact ⟨v_in hi (by omega), (pk_charN (by omega)).1, (pk_charN (by omega)).1, h1⟩
theorem cx_stands {K : Int32 → zI → Prop} (hg : zGL g) {z : Nat} {B : Nat → Nat} (hP : xP σ z B) {b e i : Nat} (hb : σ 4 4 = nI b) (he : σ 4 2 = nI e) (hbe : b < e) (hez : e ≤ z) (hi : i < 12) (hl : ∀ j, j < e - b → isLt (B (b + j)) = true)
    (h0 : wsX B b (e - b) i = false → K 0 σ) (h1 : wsX B b (e - b) i = true → K 1 σ) : zCI mX4_stands (d + 5) [.ref 4, .ref (1000 + (i + 1))] g σ K := by
  obtain ⟨q1, q2, q3⟩ := hP
  have lz := zlen_le (i + 1) (by omega)
  have we := word_eq hi hl (by omega)
  have no : ¬ (e - b = zlen.getD (i + 1) 0 ∧ ∀ j, j < e - b → B (b + j) = (WX.getD (i + 1) []).getD j 0) → K 0 σ := fun u => h0 (by
    cases h : wsX B b (e - b) i with
    | false => rfl
    | true => exact absurd (we.mp h) u)
  refine s_X4_stands hg (show i + 1 < 14 by omega) (cx_len (d := d + 3) hg (by omega) ?_)
  rw [hb, he, pk_sub (by omega)]
  refine i_eq (zlen.getD (i + 1) 0) (e - b) rfl rfl (by omega) (by omega) (fun c => ?_) (fun c => no (fun u => c u.1.symm))
  have key : ∀ (r j : Nat), j + r = e - b → (∀ u, u < j → B (b + u) = (WX.getD (i + 1) []).getD u 0) → p_X4_stands_20 (d + 4) g K σ (i + 1) (nI j) := by
    intro r
    induction r with
    | zero =>
      intro j hr hv
      exact s_X4_stands_20 hg (show i + 1 < 14 by omega) (cx_len (d := d + 3) hg (by omega) (i_le (zlen.getD (i + 1) 0) j rfl rfl (by omega) (by omega) (fun _ => h1 (we.mpr ⟨c.symm, fun u hu => hv u (by omega)⟩)) (fun q => by omega)))
    | succ r ih =>
      intro j hr hv
      refine s_X4_stands_20 hg (show i + 1 < 14 by omega) (cx_len (d := d + 3) hg (by omega) (i_le (zlen.getD (i + 1) 0) j rfl rfl (by omega) (by omega) (fun q => by omega) (fun _ => cx_chr (d := d) hg (by omega) (by omega) ?_)))
      rw [hb, nI_add, c_nI (by omega), (q3 (b + j) (by omega)).1, nI_1 j]
      have wl := WX_lt (i + 1) (by omega) j (by omega)
      have bl := (q3 (b + j) (by omega)).2
      refine ⟨v_in (by omega) (by omega), i_eq ((WX.getD (i + 1) []).getD j 0) (B (b + j)) rfl rfl (by omega) (by omega) (fun c2 => ih (j + 1) (by omega) (fun u hu => ?_)) (fun c2 => no (fun u => c2 (u.2 j (by omega)).symm))⟩
      by_cases z : u = j
      · subst z; exact c2.symm
      · exact hv u (by omega)
  exact key (e - b) 0 (by omega) (fun u hu => by omega)
theorem cx_word {K : Option Nat → zI → Prop} (hg : zGL g) {i : Nat} (hi : i < 12) (h1 : K (some (1000 + (i + 1))) σ) : zCR mX4_word d [.int (nI i)] g σ K := by
  refine s_X4_word hg (i_eq i 0 rfl rfl (by omega) (by omega) (fun q => by subst q; exact h1) (fun q0 => i_eq i 1 rfl rfl (by omega) (by omega) (fun q => by subst q; exact h1) (fun q1 => i_eq i 2 rfl rfl (by omega) (by omega) (fun q => by subst q; exact h1) (fun q2 => i_eq i 3 rfl rfl (by omega) (by omega) (fun q => by subst q; exact h1) (fun q3 => i_eq i 4 rfl rfl (by omega) (by omega) (fun q => by subst q; exact h1) (fun q4 => i_eq i 5 rfl rfl (by omega) (by omega) (fun q => by subst q; exact h1) (fun q5 => i_eq i 6 rfl rfl (by omega) (by omega) (fun q => by subst q; exact h1) (fun q6 => i_eq i 7 rfl rfl (by omega) (by omega) (fun q => by subst q; exact h1) (fun q7 => i_eq i 8 rfl rfl (by omega) (by omega) (fun q => by subst q; exact h1) (fun q8 => i_eq i 9 rfl rfl (by omega) (by omega) (fun q => by subst q; exact h1) (fun q9 => i_eq i 10 rfl rfl (by omega) (by omega) (fun q => by subst q; exact h1) (fun q10 => ?_))))))))))))
  have q : i = 11 := by omega
  subst q
  exact h1
theorem cx_isLt {K : Int32 → zI → Prop} (hg : zGL g) {c : Nat} (hc : c ≤ 255) (h0 : isLt c = false → K 0 σ) (h1 : isLt c = true → K 1 σ) : zCI mX4_isLetter d [.int (nI c)] g σ K :=
  s_X4_isLetter hg (i_lt c 97 rfl rfl (by omega) (by omega) (fun q => h0 (decide_eq_false (by omega))) (fun q => i_lt 122 c rfl rfl (by omega) (by omega) (fun q2 => h0 (decide_eq_false (by omega))) (fun q2 => h1 (decide_eq_true (by omega)))))
theorem cx_isDg {K : Int32 → zI → Prop} (hg : zGL g) {c : Nat} (hc : c ≤ 255) (h0 : isDg c = false → K 0 σ) (h1 : isDg c = true → K 1 σ) : zCI mX4_isDigit d [.int (nI c)] g σ K :=
  s_X4_isDigit hg (i_lt c 48 rfl rfl (by omega) (by omega) (fun q => h0 (decide_eq_false (by omega))) (fun q => i_lt 57 c rfl rfl (by omega) (by omega) (fun q2 => h0 (decide_eq_false (by omega))) (fun q2 => h1 (decide_eq_true (by omega)))))
theorem cx_isSg {K : Int32 → zI → Prop} (hg : zGL g) {c : Nat} (hc : c ≤ 255) (h0 : isSg c = false → K 0 σ) (h1 : isSg c = true → K 1 σ) : zCI mX4_isSign (d + 4) [.int (nI c)] g σ K := by
  have hl : 13 < 14 := by omega
  refine s_X4_isSign hg ?_
  rw [lg_i2c_word (by rw [nI_toInt' (by omega)]; omega) (by rw [nI_toInt' (by omega)]; omega)]
  refine s_J0_indexOf_0f7a4 hg (l0 := 13) hl (s_J0_indexOf_7cf53 hg hl (s_J0_isLatin1_aae02 hg hl (z1 (cx_len hg hl (s_J1_indexOf_4cfef hg hl (s_J1_canEncode_9a6ad hg (i_lt c 0 rfl rfl (by omega) (by omega) (fun q => by omega) (fun _ => i_lt 255 c rfl rfl (by omega) (by omega) (fun q => by omega) (fun _ => z1 ?_)))))))))
  have e1 : (if (0 : Int32) < 0 then (0 : Int32) else 0) = nI 0 := rfl
  have e2 : (if nI (zlen.getD 13 0) < nI (zlen.getD 13 0) then nI (zlen.getD 13 0) else nI (zlen.getD 13 0)) = nI 8 := rfl
  rw [e1, e2, if_pos (show nI 0 < nI 8 by decide)]
  refine s_J1_indexOfChar_4cfef hg hl ?_
  have key : ∀ (r i : Nat), i + r = 8 → (∀ u, u < i → c ≠ (WX.getD 13 []).getD u 0) → p_J1_indexOfChar_4cfef_7 d g (fun v2 σ2 => (if v2 < 0 then K 0 σ2 else K 1 σ2)) σ 13 (nI 8) ((nI c).toInt8.toInt32) (nI i) := by
    intro r
    induction r with
    | zero =>
      intro i hr hv
      refine s_J1_indexOfChar_4cfef_7 hg hl (i_le 8 i rfl rfl (by omega) (by omega) (fun _ => ?_) (fun q => by omega))
      rw [if_pos (show (-1 : Int32) < 0 by decide)]
      refine h0 ?_
      cases h : isSg c with
      | false => rfl
      | true =>
        obtain ⟨u, hu, e⟩ := sg_of h
        exact absurd e (hv u (by omega))
    | succ r ih =>
      intro i hr hv
      refine s_J1_indexOfChar_4cfef_7 hg hl (i_le 8 i rfl rfl (by omega) (by omega) (fun q => by omega) (fun _ => ⟨v_in (show i < zlen.getD 13 0 by show i < 8; omega) (by show 8 < 2147483648; omega), ?_⟩))
      rw [c_nI (by omega), nI_1 i]
      by_cases z : (zbyt.getD 13 []).getD i 0 = (nI c).toInt8.toInt32
      · rw [if_pos z, if_neg (nI_pos (by omega))]
        have e := (sg_ok c (by omega) i (by omega)).mp z
        exact h1 (by rw [e]; exact sg_in i (by omega))
      · rw [if_neg z]
        refine ih (i + 1) (by omega) (fun u hu => ?_)
        by_cases y : u = i
        · subst y; exact fun e => z ((sg_ok c (by omega) u (by omega)).mpr e)
        · exact hv u (by omega)
  exact key 8 0 (by omega) (fun u hu => by omega)
end
