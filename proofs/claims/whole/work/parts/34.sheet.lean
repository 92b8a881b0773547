/-! SHEETS: finding one, laying one anew; both sides -/
def xS (σ : zI) (i : Nat) (so : Int32) (sz : Nat) (C : Nat → Int32) : Prop := sz ≤ 40 ∧ σ (49 + 2 * i) 0 = so ∧ σ (49 + 2 * i) 1 = nI sz ∧ ∀ k, k < 40 → σ (49 + 2 * i + 1) k = C k
def mS (σ : zI) (i : Nat) (so : Int32) (sz : Nat) (C : Nat → Int32) : Prop := sz ≤ 40 ∧ σ 75 i = so ∧ σ 76 i = nI sz ∧ ∀ k, k < 40 → σ 77 (40 * i + k) = C k
section
variable {d : Nat} {g : zG} {σ : zI}
theorem cx_sheetAt {K : Option Nat → zI → Prop} (hg : zGA g) {v : Int32} (h0 : hA 4 v = none → K none σ) (h1 : ∀ i, hA 4 v = some i → i < 4 → v = nI i → K (some (49 + 2 * i)) σ) : zCR mX7_sheetAt d [.ref 0, .int v] g σ K := by
  have e0 : (0 : Int32).toInt = 0 := rfl
  have e4 : (nI 4).toInt = 4 := rfl
  refine s_X7_sheetAt hg (t_lt (fun q => h0 (hA_no (by omega))) (fun q => t_lt (fun q2 => ?_) (fun q2 => h0 (hA_no (by omega)))))
  have hs := hA_yes (n := 4) (v := v) (by omega) (by omega)
  obtain ⟨k1, k2⟩ := hA_some (by omega) hs
  have hk := h1 _ hs k1 k2
  generalize v.toInt.toNat = i at *
  subst k2
  rw [c_nI (by omega)]
  exact ⟨v_in (by omega) (by omega), hk⟩
theorem cm_isSheet {K : Int32 → zI → Prop} (hg : zGA g) {v : Int32} (h0 : hA 4 v = none → K 0 σ) (h1 : ∀ i, hA 4 v = some i → i < 4 → v = nI i → K 1 σ) : zCI mX8_isSheet (d + 1) [.int v] g σ K := by
  have e0 : (0 : Int32).toInt = 0 := rfl
  have e3 : (3 : Int32).toInt = 3 := rfl
  refine s_X8_isSheet hg (cm_within hg (fun q => ⟨Or.inl rfl, h0 (hA_no (by omega))⟩) (fun q q2 => ⟨Or.inr rfl, ?_⟩))
  have hs := hA_yes (n := 4) (v := v) (by omega) (by omega)
  obtain ⟨k1, k2⟩ := hA_some (by omega) hs
  exact h1 _ hs k1 k2
theorem cx_layS {K : zI → Prop} (hg : zGA g) {i sz : Nat} (hi : i < 4) (hz : sz ≤ 40) {so : Int32} (h1 : ∀ σ', zfr [49 + 2 * i, 49 + 2 * i + 1] σ σ' → xS σ' i so sz (fun _ => 0) → K σ') : zCV mX5_lay d [.ref (49 + 2 * i), .int so, .int (nI sz)] g σ K := by
  have ho := (gr_sheets_n hg i hi).2
  have i0 : 49 + 2 * i ∈ [49 + 2 * i, 49 + 2 * i + 1] := by simp
  have i1 : 49 + 2 * i + 1 ∈ [49 + 2 * i, 49 + 2 * i + 1] := by simp
  have key : ∀ (r k : Nat) (σ1 : zI), k + r = 40 → zfr [49 + 2 * i, 49 + 2 * i + 1] σ σ1 → σ1 (49 + 2 * i) 0 = so → σ1 (49 + 2 * i) 1 = nI sz → (∀ u, u < k → σ1 (49 + 2 * i + 1) u = 0) → p_X5_lay_12 d g K σ1 (49 + 2 * i) (nI k) := by
    intro r
    induction r with
    | zero =>
      intro k σ1 hr hf ha hb hv
      exact s_X5_lay_12 hg ho (i_le 40 k rfl rfl (by omega) (by omega) (fun _ => h1 σ1 hf ⟨hz, ha, hb, fun u hu => hv u (by omega)⟩) (fun q => by omega))
    | succ r ih =>
      intro k σ1 hr hf ha hb hv
      refine s_X5_lay_12 hg ho (i_le 40 k rfl rfl (by omega) (by omega) (fun q => by omega) (fun _ => ⟨v_in (by omega) (by omega), ?_⟩))
      rw [c_nI (by omega), nI_1 k]
      refine ih (k + 1) _ (by omega) (zfr_put hf i1) ?_ ?_ (fun u hu => ?_)
      · rw [zsI_no (by omega)]; exact ha
      · rw [zsI_no (by omega)]; exact hb
      · by_cases z : u = k
        · subst z; rw [zsI_at]
        · rw [zsI_no (Or.inr z)]; exact hv u (by omega)
  refine s_X5_lay hg ho (key 40 0 _ (by omega) (zfr_put (zfr_put (zfr_rf _ _) i0) i0) ?_ zsI_at (fun u hu => by omega))
  rw [zsI_no (by omega), zsI_at]
theorem cm_layS {K : Int32 → zI → Prop} (hg : zGA g) {i sz : Nat} (hi : i < 4) (hz : sz ≤ 40) {so : Int32} (ha : σ 75 i = so) (hb : σ 76 i = nI sz)
    (h1 : ∀ σ', zfr [77] σ σ' → (∀ k, k < 160 → (k < 40 * i ∨ 40 * i + 40 ≤ k) → σ' 77 k = σ 77 k) → mS σ' i so sz (fun _ => 0) → K 1 σ') : p_X8_sheet_68 d g K σ (nI i) 0 := by
  have m40 : ∀ a b : Nat, (40 : Int32) * nI a + nI b = nI (40 * a + b) := fun a b => by rw [show (40 : Int32) * nI a = nI (40 * a) from pk_mul 40 a, nI_add]
  have key : ∀ (r k : Nat) (σ1 : zI), k + r = 40 → zfr [77] σ σ1 → (∀ u, u < 160 → (u < 40 * i ∨ 40 * i + 40 ≤ u) → σ1 77 u = σ 77 u) → (∀ u, u < k → σ1 77 (40 * i + u) = 0) → p_X8_sheet_68 d g K σ1 (nI i) (nI k) := by
    intro r
    induction r with
    | zero =>
      intro k σ1 hr hf hc hv
      exact s_X8_sheet_68 hg (i_le 40 k rfl rfl (by omega) (by omega) (fun _ => h1 σ1 hf hc ⟨hz, by rw [hf 75 (by decide)]; exact ha, by rw [hf 76 (by decide)]; exact hb, fun u hu => hv u (by omega)⟩) (fun q => by omega))
    | succ r ih =>
      intro k σ1 hr hf hc hv
      refine s_X8_sheet_68 hg (i_le 40 k rfl rfl (by omega) (by omega) (fun q => by omega) (fun _ => ?_))
      rw [m40, c_nI (by omega), nI_1 k]
      refine ⟨v_in (by omega) (by omega), ih (k + 1) _ (by omega) (zfr_put hf (by decide)) (fun u hu hu2 => ?_) (fun u hu => ?_)⟩
      · rw [zsI_no (by omega)]; exact hc u hu hu2
      · by_cases z : u = k
        · subst z; rw [zsI_at]
        · rw [zsI_no (by omega)]; exact hv u (by omega)
  exact key 40 0 σ (by omega) (zfr_rf _ _) (fun _ _ _ => rfl) (fun u hu => by omega)
end
