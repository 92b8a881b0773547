/-! what each PAYMENT of a SUM COSTS between any two: both sides -/
theorem prc_comm (E : zE) (x y : zH) : prc E x y = prc E y x := by
  funext n
  unfold prc
  rw [Bool.and_comm, Nat.add_comm]
def tl (E : zE) (fam : Nat → zH) (s i j : Nat) : Option Nat := if i = j then none else ls (prc E (fam i) (fam j)) s
theorem tl_comm (E : zE) (fam : Nat → zH) (s i j : Nat) : tl E fam s i j = tl E fam s j i := by
  unfold tl
  rw [prc_comm]
  by_cases h : i = j
  · rw [if_pos h, if_pos h.symm]
  · rw [if_neg h, if_neg (fun e => h e.symm)]
def xF (σ : zI) (n : Nat) (fam : Nat → zH) : Prop := n ≤ 6 ∧ σ 0 8 = nI n ∧ ∀ i, i < n → (fam i).1 = i ∧ xH σ (43 + i) (fam i)
def mF (σ : zI) (n : Nat) (fam : Nat → zH) : Prop := n ≤ 6 ∧ σ 57 1 = nI n ∧ ∀ i, i < n → (fam i).1 = i ∧ mH σ (fam i)
theorem zsI_at {σ : zI} {i k : Nat} {x : Int32} : zsI σ i k x i k = x := by rw [zsI_row, u_eq]
theorem zsI_no {σ : zI} {i k a j : Nat} {x : Int32} (h : a ≠ i ∨ j ≠ k) : zsI σ i k x a j = σ a j := by
  by_cases e : a = i
  · subst e
    rw [zsI_row, u_ne (by omega)]
  · rw [zsI_ne e]
section
variable {d : Nat} {g : zG} {σ : zI}
theorem xF_fr {σ1 : zI} {n : Nat} {fam : Nat → zH} {l : List Nat} (h : xF σ n fam) (hf : zfr l σ σ1) (h0 : 0 ∉ l) (hl : ∀ i, i < 6 → 43 + i ∉ l) : xF σ1 n fam := by
  obtain ⟨h1, h2, h3⟩ := h
  exact ⟨h1, by rw [hf 0 h0]; exact h2, fun i hi => ⟨(h3 i hi).1, xHr_fr (h3 i hi).2 hf (hl i (by omega))⟩⟩
theorem mF_fr {σ1 : zI} {n : Nat} {fam : Nat → zH} {l : List Nat} (h : mF σ n fam) (hf : zfr l σ σ1) (hl : 57 ∉ l ∧ 58 ∉ l ∧ 59 ∉ l ∧ 60 ∉ l) : mF σ1 n fam := by
  obtain ⟨h1, h2, h3⟩ := h
  exact ⟨h1, by rw [hf _ hl.1]; exact h2, fun i hi => ⟨(h3 i hi).1, mHr_fr (h3 i hi).2 hf hl.2⟩⟩
theorem prc_c {E : zE} {x y : zH} {n w : Nat} (h : prc E x y n = some w) : w = cst E x n + cst E y n := by
  unfold prc at h
  split at h
  · simpa using h.symm
  · simp at h
theorem cx_fillPrice {K : zI → Prop} (hg : zGA g) {E : zE} {T a b : Nat} {x y : zH} (ht : xTx σ T E.1 E.2.1 E.2.2) (ha : zOb g a 0) (hb : zOb g b 0) (hx : xH σ a x) (hy : xH σ b y) {l : Nat} (hl : l ≤ 99)
    (h1 : ∀ σ', zfr [20, 21, 23, 24, 25] σ σ' → (∀ t, t ≤ l → σ' 25 t = on (ls (prc E x y) t)) → K σ') : zCV mX3_fillLeast (d + 5) [.ref 22, .ref a, .ref b, .int (nI l), .int 0] g σ K :=
  cx_fillLeast hg ht ha hb hx hy hl (prc_wgt E x y hx.2.2.2.2.2.2.1 hy.2.2.2.2.2.2.1) (prc_some E x y) (fun _ n w h => prc_c h) (fun h => absurd rfl h) h1
theorem cx_fillOne {K : zI → Prop} (hg : zGA g) {E : zE} {T a b : Nat} {x y : zH} (ht : xTx σ T E.1 E.2.1 E.2.2) (ha : zOb g a 0) (hb : zOb g b 0) (hx : xH σ a x) (hy : xH σ b y) {l : Nat} (hl : l ≤ 99)
    (h1 : ∀ σ', zfr [20, 21, 23, 24, 25] σ σ' → (∀ t, t ≤ l → σ' 25 t = on (ls (one1 x y) t)) → K σ') : zCV mX3_fillLeast (d + 5) [.ref 22, .ref a, .ref b, .int (nI l), .int 1] g σ K :=
  cx_fillLeast hg ht ha hb hx hy hl (one1_wgt x y) (one1_some x y) (fun h => absurd h (by decide)) (fun _ n w h => by
    unfold one1 at h
    split at h
    · simpa using h.symm
    · simp at h) h1
theorem cx_leastOf {K : Int32 → zI → Prop} (hg : zGA g) {t : Nat} (ht : t ≤ 99) (h1 : K (σ 25 t) σ) : zCI mX3_leastOf (d + 1) [.ref 22, .int (nI t)] g σ K := by
  refine s_X3_leastOf hg (cx_isSum hg (fun q => ?_) (fun _ _ => z1 ⟨v_in (by omega) (by omega), ?_⟩))
  · rw [nI_toInt' (by omega)] at q; omega
  · rw [c_nI (by omega)]; exact h1
theorem cx_lay {K : zI → Prop} (hg : zGA g) {E : zE} {T n s : Nat} {fam : Nat → zH} (ht : xTx σ T E.1 E.2.1 E.2.2) (hF : xF σ n fam) (hs : s ≤ 99)
    (h1 : ∀ σ', zfr [20, 21, 23, 24, 25, 28, 30, 31, 32, 33, 34, 35] σ σ' → σ' 28 4 = nI n → (∀ a b, a < n → b < n → σ' (30 + a) b = on (tl E fam s a b)) → K σ') : zCV mX6_lay (d + 6) [.ref 28, .ref 1, .int (nI n), .int (nI s)] g σ K := by
  have n6 : n ≤ 6 := hF.1
  have inL : ∀ i, i < 6 → 30 + i ∈ [20, 21, 23, 24, 25, 28, 30, 31, 32, 33, 34, 35] := by
    intro i hi
    rcases (show i = 0 ∨ i = 1 ∨ i = 2 ∨ i = 3 ∨ i = 4 ∨ i = 5 by omega) with rfl | rfl | rfl | rfl | rfl | rfl <;> decide
  have xFL : ∀ σ1, zfr [20, 21, 23, 24, 25, 28, 30, 31, 32, 33, 34, 35] σ σ1 → xF σ1 n fam := fun σ1 hf => xF_fr hF hf (by decide) (fun i hi => by simp; omega)
  have xTL : ∀ σ1, zfr [20, 21, 23, 24, 25, 28, 30, 31, 32, 33, 34, 35] σ σ1 → xTx σ1 T E.1 E.2.1 E.2.2 := fun σ1 hf => xTx_fr ht hf (by decide) (by decide)
  have key : ∀ (r i : Nat) (σ1 : zI), i + r = n → zfr [20, 21, 23, 24, 25, 28, 30, 31, 32, 33, 34, 35] σ σ1 → σ1 28 4 = nI n → (∀ a b, a < n → b < n → (a < i ∨ b < i) → σ1 (30 + a) b = on (tl E fam s a b)) → p_X6_lay_22 (d + 5) g K σ1 (nI s) (nI i) := by
    intro r
    induction r with
    | zero =>
      intro i σ1 hr hf h4 hv
      refine s_X6_lay_22 hg ?_
      rw [h4]
      exact i_le n i rfl rfl (by omega) (by omega) (fun _ => h1 σ1 hf h4 (fun a b ha hb => hv a b ha hb (by omega))) (fun q => by omega)
    | succ r ih =>
      intro i σ1 hr hf h4 hv
      refine s_X6_lay_22 hg ?_
      rw [h4, c_nI (n := i) (by omega), nI_1]
      refine i_le n i rfl rfl (by omega) (by omega) (fun q => by omega) (fun _ => ⟨v_in (by omega) (by omega), v_in (by omega) (by omega), ?_⟩)
      have key2 : ∀ (m j : Nat) (σ2 : zI), j + m = n → i + 1 ≤ j → zfr [20, 21, 23, 24, 25, 28, 30, 31, 32, 33, 34, 35] σ σ2 → σ2 28 4 = nI n →
          (∀ a b, a < n → b < n → ((a = b ∧ a ≤ i) ∨ (a < b ∧ (a < i ∨ (a = i ∧ b < j))) ∨ (b < a ∧ (b < i ∨ (b = i ∧ a < j)))) → σ2 (30 + a) b = on (tl E fam s a b)) → p_X6_lay_48 (d + 5) g K σ2 (nI s) (nI i) (nI j) := by
        intro m
        induction m with
        | zero =>
          intro j σ2 hm hj hf2 h42 hv2
          refine s_X6_lay_48 hg ?_
          rw [h42, nI_1 i]
          exact i_le n j rfl rfl (by omega) (by omega) (fun _ => ih (i + 1) σ2 (by omega) hf2 h42 (fun a b ha hb hd => hv2 a b ha hb (by omega))) (fun q => by omega)
        | succ m ih2 =>
          intro j σ2 hm hj hf2 h42 hv2
          refine s_X6_lay_48 hg ?_
          rw [h42, nI_1 j, c_nI (n := i) (by omega), c_nI (n := j) (by omega)]
          refine i_le n j rfl rfl (by omega) (by omega) (fun q => by omega) (fun _ => ⟨v_in (by omega) (by omega), v_in (by omega) (by omega), ?_⟩)
          have xf := xFL σ2 hf2
          refine cx_fillPrice hg (xTL σ2 hf2) (gr_family_n hg i (by omega)).2 (gr_family_n hg j (by omega)).2 (xf.2.2 i (by omega)).2 (xf.2.2 j (by omega)).2 hs (fun σ3 hf3 hv3 => ⟨v_in (by omega) (by omega), cx_leastOf (d := d + 4) hg hs ⟨v_in (by omega) (by omega), v_in (by omega) (by omega), v_in (by omega) (by omega), v_in (by omega) (by omega), v_in (by omega) (by omega), ?_⟩⟩)
          rw [hv3 s (Nat.le_refl _), zsI_at]
          have et : ls (prc E (fam i) (fam j)) s = tl E fam s i j := by unfold tl; rw [if_neg (by omega)]
          rw [et]
          have hf4 : zfr [20, 21, 23, 24, 25, 28, 30, 31, 32, 33, 34, 35] σ σ3 := zfr_tr hf2 (zfr_up hf3 (by decide))
          refine ih2 (j + 1) _ (by omega) (by omega) (zfr_put (zfr_put hf4 (inL i (by omega))) (inL j (by omega))) ?_ (fun a b ha hb hd => ?_)
          · rw [zsI_no (by omega), zsI_no (by omega), hf3 28 (by decide)]; exact h42
          · by_cases c1 : a = j ∧ b = i
            · rw [c1.1, c1.2, zsI_at, tl_comm]
            · rw [zsI_no (by omega)]
              by_cases c2 : a = i ∧ b = j
              · rw [c2.1, c2.2, zsI_at]
              · rw [zsI_no (by omega), hf3 (30 + a) (by simp; omega)]
                exact hv2 a b ha hb (by omega)
      refine key2 (n - (i + 1)) (i + 1) _ (by omega) (by omega) (zfr_put hf (inL i (by omega))) ?_ (fun a b ha hb hd => ?_)
      · rw [zsI_no (by omega)]; exact h4
      · by_cases c1 : a = i ∧ b = i
        · rw [c1.1, c1.2, zsI_at]
          unfold tl
          rw [if_pos rfl]; rfl
        · rw [zsI_no (by omega)]
          exact hv a b ha hb (by omega)
  have e6 : (if (0 : Int32) < (if (if nI 6 < 6 then nI 6 else 6) < nI n then (if nI 6 < 6 then nI 6 else 6) else nI n) then (if (if nI 6 < 6 then nI 6 else 6) < nI n then (if nI 6 < 6 then nI 6 else 6) else nI n) else 0) = nI n := by
    rcases (show n = 0 ∨ n = 1 ∨ n = 2 ∨ n = 3 ∨ n = 4 ∨ n = 5 ∨ n = 6 by omega) with rfl | rfl | rfl | rfl | rfl | rfl | rfl <;> decide
  refine s_X6_lay hg ?_
  rw [e6]
  exact key n 0 _ (by omega) (zfr_I (by decide)) zsI_at (fun a b ha hb hd => by omega)
theorem cm_sums' {K : zI → Prop} (hg : zGA g) {E : zE} {T a b : Nat} {x y : zH} (ea : x.1 = a) (eb : y.1 = b) (ht : mTx σ T E.1 E.2.1 E.2.2) (hx : mH σ x) (hy : mH σ y) (h68 : σ 68 0 = 0) (h69 : σ 69 0 = 0)
    (h1 : ∀ σ', zfr [66, 67, 68, 69] σ σ' → (∀ t, t < 100 → σ' 68 t = on (ls (prc E x y) t) ∧ σ' 69 t = on (ls (one1 x y) t)) → K σ') : zCV mX8_sums (d + 5) [.ref 57, .int (nI a), .int (nI b)] g σ K := by
  subst ea; subst eb
  exact cm_sums hg ht hx hy h68 h69 h1
theorem cm_legs {K : zI → Prop} (hg : zGA g) {E : zE} {T n s : Nat} {fam : Nat → zH} (ht : mTx σ T E.1 E.2.1 E.2.2) (hF : mF σ n fam) (hs : s ≤ 99) (h68 : σ 68 0 = 0) (h69 : σ 69 0 = 0)
    (h1 : ∀ σ', zfr [66, 67, 68, 69, 71] σ σ' → σ' 68 0 = 0 → σ' 69 0 = 0 → (∀ a b, a < n → b < n → a ≠ b → σ' 71 (6 * a + b) = on (tl E fam s a b)) → K σ') : zCV mX8_legs (d + 6) [.ref 57, .int (nI s)] g σ K := by
  have n6 : n ≤ 6 := hF.1
  have m6 : ∀ a b : Nat, (6 : Int32) * nI a + nI b = nI (6 * a + b) := fun a b => by rw [show (6 : Int32) * nI a = nI (6 * a) from pk_mul 6 a, nI_add]
  have key : ∀ (r u : Nat) (σ1 : zI), u + r = n → zfr [66, 67, 68, 69, 71] σ σ1 → σ1 68 0 = 0 → σ1 69 0 = 0 → (∀ a b, a < u → b < u → a ≠ b → σ1 71 (6 * a + b) = on (tl E fam s a b)) → p_X8_legs_2 (d + 5) g K σ1 (nI s) (nI u) := by
    intro r
    induction r with
    | zero =>
      intro u σ1 hr hf h8 h9 hv
      refine s_X8_legs_2 hg ?_
      rw [hf 57 (by decide), hF.2.1]
      exact i_le n u rfl rfl (by omega) (by omega) (fun _ => h1 σ1 hf h8 h9 (fun a b ha hb => hv a b (by omega) (by omega))) (fun q => by omega)
    | succ r ih =>
      intro u σ1 hr hf h8 h9 hv
      refine s_X8_legs_2 hg ?_
      rw [hf 57 (by decide), hF.2.1]
      refine i_le n u rfl rfl (by omega) (by omega) (fun q => by omega) (fun _ => ?_)
      have key2 : ∀ (m v : Nat) (σ2 : zI), v + m = u → zfr [66, 67, 68, 69, 71] σ σ2 → σ2 68 0 = 0 → σ2 69 0 = 0 → (∀ a b, a ≠ b → ((a < u ∧ b < u) ∨ (a = u ∧ b < v) ∨ (b = u ∧ a < v)) → σ2 71 (6 * a + b) = on (tl E fam s a b)) → p_X8_legs_12 (d + 5) g K σ2 (nI s) (nI u) (nI v) := by
        intro m
        induction m with
        | zero =>
          intro v σ2 hm hf2 h82 h92 hv2
          refine s_X8_legs_12 hg ?_
          rw [nI_1 u]
          exact i_le u v rfl rfl (by omega) (by omega) (fun _ => ih (u + 1) σ2 (by omega) hf2 h82 h92 (fun a b ha hb hab => hv2 a b hab (by omega))) (fun q => by omega)
        | succ m ih2 =>
          intro v σ2 hm hf2 h82 h92 hv2
          refine s_X8_legs_12 hg (i_le u v rfl rfl (by omega) (by omega) (fun q => by omega) (fun _ => ?_))
          have mf := mF_fr hF hf2 (by decide)
          refine cm_sums' hg (mf.2.2 u (by omega)).1 (mf.2.2 v (by omega)).1 (mTx_fr ht hf2 (by decide)) (mf.2.2 u (by omega)).2 (mf.2.2 v (by omega)).2 h82 h92 (fun σ3 hf3 hv3 => ?_)
          rw [m6, m6, c_nI (n := s) (by omega), c_nI (n := 6 * u + v) (by omega), c_nI (n := 6 * v + u) (by omega), nI_1 v, (hv3 s (by omega)).1]
          refine ⟨v_in (by omega) (by omega), v_in (by omega) (by omega), v_in (by omega) (by omega), v_in (by omega) (by omega), ?_⟩
          have et : ls (prc E (fam u) (fam v)) s = tl E fam s u v := by unfold tl; rw [if_neg (by omega)]
          rw [et]
          have z8 : σ3 68 0 = 0 := (hv3 0 (by omega)).1
          have z9 : σ3 69 0 = 0 := (hv3 0 (by omega)).2
          have hf4 : zfr [66, 67, 68, 69, 71] σ σ3 := zfr_tr hf2 (zfr_up hf3 (by decide))
          refine ih2 (v + 1) _ (by omega) (zfr_put (zfr_put hf4 (by decide)) (by decide)) ?_ ?_ (fun a b hab hd => ?_)
          · rw [zsI_no (by omega), zsI_no (by omega)]; exact z8
          · rw [zsI_no (by omega), zsI_no (by omega)]; exact z9
          · by_cases c1 : a = v ∧ b = u
            · rw [c1.1, c1.2, zsI_at, tl_comm]
            · rw [zsI_no (Or.inr (by omega))]
              by_cases c2 : a = u ∧ b = v
              · rw [c2.1, c2.2, zsI_at]
              · rw [zsI_no (Or.inr (by omega)), hf3 71 (by decide)]
                exact hv2 a b hab (by omega)
      exact key2 u 0 σ1 (by omega) hf h8 h9 (fun a b hab hd => hv a b (by omega) (by omega) hab)
  exact s_X8_legs hg (key n 0 σ (by omega) (zfr_rf _ _) h68 h69 (fun a b ha => by omega))
end
