/-! what it COSTS, what is MEANT, what is WORTH: both sides -/
theorem ne_oa {g : zG} {a i c t n : Nat} (h : zOb g a c) (h2 : zAr g i t n) (ht : t ≠ 0) : a ≠ i := by
  intro e
  subst e
  have := h.2.symm.trans h2.2
  exact ht (congrArg (fun p : Nat × Nat × Nat => p.1) this).symm
section
variable {d : Nat} {g : zG} {σ : zI} {K : Int32 → zI → Prop}
theorem mx1 {v : Nat} (hv : v < 2147483648) : (if (1 : Int32) < nI v then nI v else 1) = nI (max 1 v) := by
  by_cases q : 1 < v
  · rw [if_pos (show (1 : Int32) < nI v from (nI_ltI (a := 1) (by omega) (by omega)).mpr q), show max 1 v = v by omega]
  · rw [if_neg (show ¬ (1 : Int32) < nI v from fun h => q ((nI_ltI (a := 1) (by omega) (by omega)).mp h)), show max 1 v = 1 by omega]; rfl
theorem cm_one_ (hg : zGA g) {v : Nat} (hv : v < 2147483648) (h1 : K (nI (max 1 v)) σ) : zCI mX8_one_ d [.int (nI v)] g σ K := by
  refine s_X8_one_ hg (i_le 1 v rfl rfl (by omega) hv (fun q => ?_) (fun q => ?_))
  · rw [show max 1 v = v by omega] at h1; exact h1
  · rw [show max 1 v = 1 by omega] at h1; exact h1
theorem cm_costs (hg : zGA g) {T R dy : Nat} {P : Nat → Nat → List Nat} {h k m o n : Nat} (ht : mTx σ T R dy P) (hh : mHr σ h k m o) (h1n : 1 ≤ n) (hn : n ≤ 30)
    (h1 : ∀ σ', zfr [66] σ σ' → K (nI (cost P R dy h k m o n)) σ') : zCI mX8_costs (d + 3) [.ref 57, .int (nI h), .int (nI n)] g σ K := by
  refine s_X8_costs hg (cm_tells (q := 0) hg ht hh (by omega) (by omega) (fun _ => ⟨h1n, hn⟩) (fun σ' hf => cm_bound hg ?_))
  have hb := bd_le (evP (envN n (tb o n) m o h dy) (P R 0))
  have hk := h1 σ' hf
  unfold cost at hk
  have e0 : (decide (0 = 0) && tb o n) = tb o n := by simp
  rw [e0]
  generalize bd (evP (envN n (tb o n) m o h dy) (P R 0)) = b at *
  obtain ⟨e1, e2, e3, e4, e5, e6, e7⟩ := mHr_fr hh hf (by decide)
  unfold cN at hk
  refine ⟨v_in e1 (by omega), ?_⟩
  rw [c_nI (by omega), e2, e3]
  refine i_eq k 1 rfl rfl (by omega) (by omega) (fun c => ?_) (fun c1 => i_eq k 2 rfl rfl (by omega) (by omega) (fun c => ?_) (fun c2 => i_eq k 3 rfl rfl (by omega) (by omega) (fun c => ?_) (fun c3 => i_eq k 4 rfl rfl (by omega) (by omega) (fun c => ?_) (fun c4 => i_eq k 5 rfl rfl (by omega) (by omega) (fun c => ?_) (fun c5 => ?_)))))
  · rw [if_pos c] at hk
    rw [nI_1]; exact hk
  · rw [if_neg (by omega), if_pos (by omega)] at hk
    rw [nI_add]
    exact ⟨v_in e1 (by omega), cm_one_ hg (by omega) hk⟩
  · rw [if_neg (by omega), if_neg (by omega), if_pos (by omega)] at hk
    rw [nI_1, show (2 : Int32) = nI 2 from rfl, pk_div (by omega) (by omega) (by omega)]
    exact cm_one_ hg (by omega) hk
  · rw [if_neg (by omega), if_pos (by omega)] at hk
    rw [nI_add]
    exact ⟨v_in e1 (by omega), cm_one_ hg (by omega) hk⟩
  · rw [if_neg (by omega), if_neg (by omega), if_neg (by omega), if_pos (by omega)] at hk
    rw [show (2 : Int32) * nI b = nI (2 * b) from pk_mul 2 b]
    exact cm_one_ hg (by omega) hk
  · rw [if_neg (by omega), if_neg (by omega), if_neg (by omega), if_neg (by omega)] at hk
    exact cm_one_ hg (by omega) hk
theorem cm_isMeant (hg : zGA g) {T R dy : Nat} {P : Nat → Nat → List Nat} {h k m o n : Nat} (ht : mTx σ T R dy P) (hh : mHr σ h k m o) (hn : n ≤ 99)
    (h1 : ∀ σ', zfr [66] σ σ' → K (if meant P R dy h m o n then 1 else 0) σ') : zCI mX8_isMeant (d + 3) [.ref 57, .int (nI h), .int (nI n)] g σ K := by
  refine s_X8_isMeant hg (cm_tells (q := 1) hg ht hh (by omega) hn (by omega) (fun σ' hf => ?_))
  have hk := h1 σ' hf
  unfold meant at hk
  rw [show (decide (1 = 0) && tb o n) = false by simp]
  refine t_eq (fun q => ?_) (fun q => ?_)
  · rw [q] at hk; exact hk
  · rw [decide_eq_true q, if_pos rfl] at hk; exact hk
theorem cm_worthOf (hg : zGA g) {T R dy : Nat} {P : Nat → Nat → List Nat} {h k m o n : Nat} (ht : mTx σ T R dy P) (hh : mHr σ h k m o) (hn : n ≤ 99)
    (h1 : ∀ σ', zfr [66] σ σ' → K (nI (worth P R dy h m o n)) σ') : zCI mX8_worthOf (d + 3) [.ref 57, .int (nI h), .int (nI n)] g σ K := by
  refine s_X8_worthOf hg (cm_tells (q := 2) hg ht hh (by omega) hn (by omega) (fun σ' hf => cm_bound hg ?_))
  have hk := h1 σ' hf
  unfold worth at hk
  rw [show (decide (2 = 0) && tb o n) = false by simp]
  exact hk
theorem cx_bounded (hg : zGA g) {x : Int32} (h1 : K (nI (bd x)) σ) : zCI mX2_bounded (d + 1) [.int x] g σ K := by
  refine s_X2_bounded hg.L ?_
  have e : (if (0 : Int32) < (if x < 99 then x else 99) then (if x < 99 then x else 99) else 0) = nI (bd x) := by
    have e9 : (99 : Int32).toInt = 99 := rfl
    have e0 : (0 : Int32).toInt = 0 := rfl
    unfold bd
    by_cases q : x < 99
    · have q2 := Int32.lt_iff_toInt_lt.mp q
      rw [if_pos q]
      by_cases q3 : x < 0
      · have q4 := Int32.lt_iff_toInt_lt.mp q3
        rw [if_pos q3, if_neg (fun u => by have := Int32.lt_iff_toInt_lt.mp u; omega)]; rfl
      · have q4 : ¬ x.toInt < (0 : Int32).toInt := fun u => q3 (Int32.lt_iff_toInt_lt.mpr u)
        rw [if_neg q3, if_neg (show ¬ (99 : Int32) < x from fun u => by have := Int32.lt_iff_toInt_lt.mp u; omega)]
        obtain ⟨k, hk, rfl⟩ := zNat (v := x) (n := 99) (by omega) (by omega) (by omega)
        rw [c_nI (by omega)]
        by_cases q5 : (0 : Int32) < nI k
        · rw [if_pos q5]
        · rw [if_neg q5]
          have : ¬ 0 < k := fun u => q5 ((nI_ltI (a := 0) (by omega) (by omega)).mpr u)
          rw [show k = 0 by omega]; rfl
    · have q2 : ¬ x.toInt < (99 : Int32).toInt := fun u => q (Int32.lt_iff_toInt_lt.mpr u)
      rw [if_neg q, if_pos (by decide), if_neg (fun u => by have := Int32.lt_iff_toInt_lt.mp u; omega)]
      by_cases q3 : 99 < x
      · rw [if_pos q3]; rfl
      · have q4 : ¬ (99 : Int32).toInt < x.toInt := fun u => q3 (Int32.lt_iff_toInt_lt.mpr u)
        rw [if_neg q3]
        obtain ⟨k, hk, rfl⟩ := zNat (v := x) (n := 99) (by omega) (by omega) (by omega)
        rw [nI_toInt' (by omega)] at q2
        rw [c_nI (by omega), show k = 99 by omega]; rfl
  rw [e]
  exact h1
theorem cx_name {K : zI → Prop} (hg : zGA g) {a h k m o n dy : Nat} {own : Bool} {v : Int32} (ho : zOb g a 0) (hh : xHr σ a h k m o) (hd : σ 3 7 = nI dy) (hv : v = if own then 1 else 0)
    (h1 : ∀ σ', zfr [20] σ σ' → (∀ j, j < 6 → σ' 20 j = envN n own m o h dy j) → K σ') : zCV mX2_name (d + 1) [.ref 3, .ref a, .int (nI n), .int v] g σ K := by
  obtain ⟨e0, e1, e2, e3, e4, e5, e6, e7⟩ := hh
  have hne := ne_oa ho (gL_20 hg.L) (by decide)
  refine s_X2_name hg.L ho ?_
  simp only [zsI_ne hne, zsI_ne (show 3 ≠ 20 by decide)]
  rw [e3]
  refine cx_bitCount hg.L e7 ?_
  simp only [zsI_ne hne, zsI_ne (show 3 ≠ 20 by decide)]
  rw [e2, e0, hd]
  have i20 : 20 ∈ [20] := by decide
  refine h1 _ (zfr_put (zfr_put (zfr_put (zfr_put (zfr_put (zfr_put (zfr_rf _ _) i20) i20) i20) i20) i20) i20) (fun j hj => ?_)
  rcases (show j = 0 ∨ j = 1 ∨ j = 2 ∨ j = 3 ∨ j = 4 ∨ j = 5 by omega) with rfl | rfl | rfl | rfl | rfl | rfl <;> simp [zsI_row, upd, envN, hv]
theorem xTx_20 {σ1 : zI} {T R dy : Nat} {P : Nat → Nat → List Nat} (h : xTx σ T R dy P) (hf : zfr [20] σ σ1) : xTx σ1 T R dy P := by
  obtain ⟨h1, h2, h3, h4, h5, h6, h7⟩ := h
  have f3 := hf 3 (by decide)
  refine ⟨h1, h2, h3, by rw [f3]; exact h4, by rw [f3]; exact h5, by rw [f3]; exact h6, fun t ht q hq => ?_⟩
  rw [hf (14 + t) (by simp; omega), hf (7 + t) (by simp; omega)]
  exact h7 t ht q hq
theorem cx_costs (hg : zGA g) {T R dy : Nat} {P : Nat → Nat → List Nat} {a h k m o n : Nat} (ht : xTx σ T R dy P) (ho : zOb g a 0) (hh : xHr σ a h k m o) (h1n : 1 ≤ n) (hn : n ≤ 30)
    (h1 : ∀ σ', zfr [20, 21] σ σ' → K (nI (cost P R dy h k m o n)) σ') : zCI mX2_costs (d + 4) [.ref 3, .ref a, .int (nI n)] g σ K := by
  have hh' := hh
  obtain ⟨e0, e1, e2, e3, e4, e5, e6, e7⟩ := hh'
  have hne0 := ne_oa ho (gL_20 hg.L) (by decide)
  have hne1 := ne_oa ho (gL_21 hg.L) (by decide)
  have et : tb o n = o.testBit (n - 1) := tb_eq h1n hn
  refine s_X2_costs hg.L ho ?_
  rw [e3]
  have go : ∀ v : Int32, v = (if tb o n then 1 else 0) → zCV mX2_name (d + 3) [.ref 3, .ref a, .int (nI n), .int v] g σ (fun σ3 => zCI mX2_value (d + 3) [.ref 3, .int 0] g σ3 (fun v3 σ4 => zCI mX2_bounded (d + 3) [.int v3] g σ4 (fun v4 σ5 => zCI mX0_costsFor (d + 3) [.ref a, .int v4] g σ5 (fun v5 σ6 => K (if 1 < v5 then v5 else 1) σ6)))) := by
    intro v hv
    refine cx_name (n := n) (own := tb o n) hg ho hh ht.2.2.2.1 hv (fun σ1 hf henv => ?_)
    refine cx_value (q := 0) hg (xTx_20 ht hf) (by omega) henv (fun σ2 hf2 => cx_bounded hg ?_)
    have ff : zfr [20, 21] σ σ2 := zfr_tr (zfr_up hf (by decide)) (zfr_up hf2 (by decide))
    have hk := h1 σ2 ff
    unfold cost at hk
    have hb := bd_le (evP (envN n (tb o n) m o h dy) (P R 0))
    generalize bd (evP (envN n (tb o n) m o h dy) (P R 0)) = b at *
    have fa : σ2 a = σ a := ff a (by simp [hne0, hne1])
    unfold cN at hk
    refine s_X0_costsFor hg ho ?_
    rw [fa, e1, e2]
    refine i_eq k 1 rfl rfl (by omega) (by omega) (fun c => ?_) (fun c1 => i_eq k 2 rfl rfl (by omega) (by omega) (fun c => ?_) (fun c2 => i_eq k 3 rfl rfl (by omega) (by omega) (fun c => ?_) (fun c3 => i_eq k 4 rfl rfl (by omega) (by omega) (fun c => ?_) (fun c4 => i_eq k 5 rfl rfl (by omega) (by omega) (fun c => ?_) (fun c5 => ?_)))))
    · rw [if_pos c] at hk
      rw [nI_1, mx1 (by omega), show max 1 (b + 1) = b + 1 by omega]; exact hk
    · rw [if_neg (by omega), if_pos (by omega)] at hk
      rw [nI_add, mx1 (by omega)]; exact hk
    · rw [if_neg (by omega), if_neg (by omega), if_pos (by omega)] at hk
      rw [nI_1, show (2 : Int32) = nI 2 from rfl, pk_div (by omega) (by omega) (by omega), mx1 (by omega)]; exact hk
    · rw [if_neg (by omega), if_pos (by omega)] at hk
      rw [nI_add, mx1 (by omega)]; exact hk
    · rw [if_neg (by omega), if_neg (by omega), if_neg (by omega), if_pos (by omega)] at hk
      rw [show (2 : Int32) * nI b = nI (2 * b) from pk_mul 2 b, mx1 (by omega)]; exact hk
    · rw [if_neg (by omega), if_neg (by omega), if_neg (by omega), if_neg (by omega)] at hk
      rw [mx1 (by omega)]; exact hk
  refine cx_has (d := d + 2) hg h1n (by omega) (fun w => cx_truth hg (fun _ => go 0 ?_) (fun z => absurd rfl z)) (fun w => cx_truth hg (fun z => absurd z (by decide)) (fun _ => go 1 ?_))
  · rw [et, w]; rfl
  · rw [et, w]; rfl
theorem cx_isMeant (hg : zGA g) {T R dy : Nat} {P : Nat → Nat → List Nat} {a h k m o n : Nat} (ht : xTx σ T R dy P) (ho : zOb g a 0) (hh : xHr σ a h k m o)
    (h1 : ∀ σ', zfr [20, 21] σ σ' → K (if meant P R dy h m o n then 1 else 0) σ') : zCI mX2_isMeant (d + 4) [.ref 3, .ref a, .int (nI n)] g σ K := by
  refine s_X2_isMeant hg.L ho (cx_name (d := d + 2) (n := n) (own := false) hg ho hh ht.2.2.2.1 rfl (fun σ1 hf henv => cx_value (q := 1) hg (xTx_20 ht hf) (by omega) henv (fun σ2 hf2 => ?_)))
  have hk := h1 σ2 (zfr_tr (zfr_up hf (by decide)) (zfr_up hf2 (by decide)))
  unfold meant at hk
  refine t_eq (fun q => ?_) (fun q => ?_)
  · rw [q] at hk; exact hk
  · rw [decide_eq_true q, if_pos rfl] at hk; exact hk
theorem cx_worthOf (hg : zGA g) {T R dy : Nat} {P : Nat → Nat → List Nat} {a h k m o n : Nat} (ht : xTx σ T R dy P) (ho : zOb g a 0) (hh : xHr σ a h k m o)
    (h1 : ∀ σ', zfr [20, 21] σ σ' → K (nI (worth P R dy h m o n)) σ') : zCI mX2_worthOf (d + 4) [.ref 3, .ref a, .int (nI n)] g σ K := by
  refine s_X2_worthOf hg.L ho (cx_name (d := d + 2) (n := n) (own := false) hg ho hh ht.2.2.2.1 rfl (fun σ1 hf henv => cx_value (q := 2) hg (xTx_20 ht hf) (by omega) henv (fun σ2 hf2 => cx_bounded hg ?_)))
  exact h1 σ2 (zfr_tr (zfr_up hf (by decide)) (zfr_up hf2 (by decide)))
end
