/-! not, single, the levels: the class -/
section
variable {d : Nat} {g : zG} {σ : zI} {z : Nat} {B : Nat → Nat} {c : Nat}
theorem cI_not {o D D' : Nat} {cmp : zTk → zRs} {low : Option (zTk → zRs)} (hg : zGL g) (hc : 7 ≤ c ∧ c < 13) (ho : o ≤ 5) (hf : cI g z B c mX4_compared o D cmp) (hD : 7 ≤ D) (h5 : o = 5 → low = none)
    (h4 : o < 5 → ∃ n, low = some n ∧ cI g z B c mX4_not (o + 1) D n ∧ gd z D' n) : cI g z B c mX4_not o (D + 1) (ntR (nXT B z) cmp low) := by
  intro dd σ k w K hdd hS hw hs hfl
  obtain ⟨d, rfl⟩ : ∃ d, dd = d + 1 := ⟨dd - 1, by omega⟩
  have t2 := hS.2.2.1.2.2.2.2
  unfold ntR at hs hfl
  refine s_X4_not hg ?_
  rw [hS.2.1.2.2.1, nI_1 o]
  refine i_eq k.2.2.1 1011 rfl rfl (by omega) (by omega) (fun q => ?_) (fun q => ?_)
  · rw [if_pos q] at hs hfl
    refine i_lt o 5 rfl rfl (by omega) (by omega) (fun q5 => ?_) (fun q5 => ?_)
    · obtain ⟨n, hn, hI, hG⟩ := h4 q5
      subst hn
      have hs : (bnd2 (n (nXT B z k)) (fun k' o => (true, k', o ++ [13]))).1 = true → ∀ σ', cS σ' z B c (bnd2 (n (nXT B z k)) (fun k' o => (true, k', o ++ [13]))).2.1 (w + (bnd2 (n (nXT B z k)) (fun k' o => (true, k', o ++ [13]))).2.2.length) → cF c w σ σ' → sgC σ' c w (bnd2 (n (nXT B z k)) (fun k' o => (true, k', o ++ [13]))).2.2 → K 1 σ' := hs
      have hfl : (bnd2 (n (nXT B z k)) (fun k' o => (true, k', o ++ [13]))).1 = false → ∀ σ', cF c w σ σ' → σ' 4 4 = nI (bnd2 (n (nXT B z k)) (fun k' o => (true, k', o ++ [13]))).2.1.1 → K 0 σ' := hfl
      refine cI_step (x := 13) hg hc hI hG (by omega) (by omega) hS hw (by omega) (fun e2 σ5 hS5 hw5 hF5 hC5 => ?_) (fun e2 σ5 hF5 h5 => ?_)
      · rw [bnd2_t e2] at hs
        exact hs rfl σ5 hS5 hF5 hC5
      · rw [bnd2_f e2] at hfl
        exact hfl rfl σ5 hF5 h5
    · have e := h5 (by omega)
      subst e
      exact hfl rfl σ (cF_rf c w σ) hS.2.1.1
  · rw [if_neg q] at hs hfl
    exact hf d σ k w _ (by omega) hS hw (fun e σ1 hS1 hF1 hC1 => ⟨Or.inr rfl, hs e σ1 hS1 hF1 hC1⟩) (fun e σ1 hF1 h4 => ⟨Or.inl rfl, hfl e σ1 hF1 h4⟩)
theorem enc_va {v : Nat} : enc (15 + v) = nI v := by
  unfold enc
  rw [if_neg (by omega), if_pos (by omega), show 15 + v - 15 = v by omega]
theorem enc_na {n : Nat} (h : n ≤ 5) : enc n = (-1) - nI n := if_pos h
theorem cI_single {o D D' : Nat} {low : Option ((zTk → zRs) × (zTk → zRs))} (hg : zGL g) (hc : 7 ≤ c ∧ c < 13) (ho : o ≤ 5) (hD : 7 ≤ D) (h5 : o = 5 → low = none)
    (h4 : o < 5 → ∃ e s, low = some (e, s) ∧ cI g z B c mX4_either (o + 1) D e ∧ gd z D' e ∧ cI g z B c mX4_single (o + 1) D s ∧ gd z D' s) : cI g z B c mX4_single o (D + 2) (sgR (nXT B z) low) := by
  intro dd σ k w K hdd hS hw hs hfl
  obtain ⟨d, rfl⟩ : ∃ d, dd = d + 2 := ⟨dd - 2, by omega⟩
  have ok := hS.2.2.1
  have t2 := ok.2.2.2.2
  have t3 := hS.2.1.2.2.1
  have z160 := hS.1.1
  obtain ⟨n1, n2⟩ := gN_lx B z k ok
  have b1 := ok.1
  have b2 := ok.2.1
  unfold sgR at hs hfl
  have val : ∀ x, k.2.2.1 ≠ 1 → (∀ σ', cS σ' z B c (nXT B z k) (w + 1) → cF c w σ σ' → sgC σ' c w [x] → K 1 σ') → zCV mX4_write (d + 1) [.ref 4, .int (enc x)] g σ (fun σ1 => zCV mX4_next (d + 1) [.ref 4] g σ1 (fun σ2 => K 1 σ2)) := fun x ht kk => by
    have b3 := ok.2.2.1 ht
    refine cx_wr hg hc (by omega) hS.2.2.2.1 hS.2.2.2.2 (cx_nx hg hc (by omega) (cS_wr hc hS) (fun σ2 hf2 hS2 => kk σ2 hS2 (cF_tr (cF_wr (v := enc x) (x := nI (w + 1)) hc (Nat.le_refl w)) (cF_4 (w := w) hf2 (by omega)) (Nat.le_refl _)) (sgC_fr (sgC_wr hc) (cF_4 (w := w + 1) hf2 (by omega)) (by show w + 1 ≤ w + 1; omega))))
  have p62 : ¬ k.2.2.1 = 2 → ¬ (1000 ≤ k.2.2.1 ∧ k.2.2.1 < 1006) → p_X4_single_62 (d + 1) g K σ (nI o) := fun c1 c2 => by
    rw [if_neg c1, if_neg c2] at hs hfl
    refine s_X4_single_62 hg ?_
    rw [t3, nI_1 o]
    by_cases o5 : o < 5
    · obtain ⟨e, s, hl, hE, gE, hS1, gS⟩ := h4 o5
      subst hl
      have hs : (if k.2.2.1 = 40 then bnd2 (e (nXT B z k)) (fun k' o => if k'.2.2.1 = 41 then (true, nXT B z k', o) else (false, k', [])) else if k.2.2.1 = 45 then bnd2 (s (nXT B z k)) (fun k' o => (true, k', o ++ [14])) else (false, k, [])).1 = true → ∀ σ', cS σ' z B c (if k.2.2.1 = 40 then bnd2 (e (nXT B z k)) (fun k' o => if k'.2.2.1 = 41 then (true, nXT B z k', o) else (false, k', [])) else if k.2.2.1 = 45 then bnd2 (s (nXT B z k)) (fun k' o => (true, k', o ++ [14])) else (false, k, [])).2.1 (w + (if k.2.2.1 = 40 then bnd2 (e (nXT B z k)) (fun k' o => if k'.2.2.1 = 41 then (true, nXT B z k', o) else (false, k', [])) else if k.2.2.1 = 45 then bnd2 (s (nXT B z k)) (fun k' o => (true, k', o ++ [14])) else (false, k, [])).2.2.length) → cF c w σ σ' → sgC σ' c w (if k.2.2.1 = 40 then bnd2 (e (nXT B z k)) (fun k' o => if k'.2.2.1 = 41 then (true, nXT B z k', o) else (false, k', [])) else if k.2.2.1 = 45 then bnd2 (s (nXT B z k)) (fun k' o => (true, k', o ++ [14])) else (false, k, [])).2.2 → K 1 σ' := hs
      have hfl : (if k.2.2.1 = 40 then bnd2 (e (nXT B z k)) (fun k' o => if k'.2.2.1 = 41 then (true, nXT B z k', o) else (false, k', [])) else if k.2.2.1 = 45 then bnd2 (s (nXT B z k)) (fun k' o => (true, k', o ++ [14])) else (false, k, [])).1 = false → ∀ σ', cF c w σ σ' → σ' 4 4 = nI (if k.2.2.1 = 40 then bnd2 (e (nXT B z k)) (fun k' o => if k'.2.2.1 = 41 then (true, nXT B z k', o) else (false, k', [])) else if k.2.2.1 = 45 then bnd2 (s (nXT B z k)) (fun k' o => (true, k', o ++ [14])) else (false, k, [])).2.1.1 → K 0 σ' := hfl
      refine i_eq k.2.2.1 40 rfl rfl (by omega) (by omega) (fun q => ?_) (fun q => i_eq k.2.2.1 45 rfl rfl (by omega) (by omega) (fun q2 => ?_) (fun q2 => ?_))
      · rw [if_pos (show nI o < 5 from nI_lt (b := 5) o5 (by decide))]
        rw [q, if_pos (show nI 40 = 40 from rfl)]
        rw [if_pos q] at hs hfl
        refine s_X4_bracket hg (cx_nx hg hc (by omega) hS (fun σ3 hf3 hS3 => hE d σ3 (nXT B z k) w _ (by omega) hS3 (by omega) (fun e2 σ4 hS4 hF4 hC4 => z1 ?_) (fun e2 σ4 hF4 h4 => z0 ⟨Or.inl rfl, ?_⟩)))
        · rw [bnd2_t e2] at hs hfl
          have a1 := (gE _ n1 e2).1
          have t4 := a1.2.2.2.2
          rw [hS4.2.1.2.2.1]
          refine i_eq (e (nXT B z k)).2.1.2.2.1 41 rfl rfl (by omega) (by omega) (fun y => ?_) (fun y => ⟨Or.inl rfl, ?_⟩)
          · rw [if_pos y] at hs
            refine cx_nx hg hc (by omega) hS4 (fun σ5 hf5 hS5 => ⟨Or.inr rfl, hs rfl σ5 hS5 ?_ (sgC_fr hC4 (cF_4 (w := w + (e (nXT B z k)).2.2.length) hf5 (by omega)) (Nat.le_refl _))⟩)
            exact cF_tr (cF_tr (cF_4 hf3 (by omega)) hF4 (Nat.le_refl _)) (cF_4 (w := w) hf5 (by omega)) (Nat.le_refl _)
          · rw [if_neg y] at hfl
            exact hfl rfl σ4 (cF_tr (cF_4 hf3 (by omega)) hF4 (Nat.le_refl _)) hS4.2.1.1
        · rw [bnd2_f e2] at hfl
          exact hfl rfl σ4 (cF_tr (cF_4 hf3 (by omega)) hF4 (Nat.le_refl _)) h4
      · rw [if_pos (show nI o < 5 from nI_lt (b := 5) o5 (by decide))]
        rw [q2, if_neg (show ¬ nI 45 = 40 by decide)]
        rw [if_neg q, if_pos q2] at hs hfl
        refine s_X4_negated hg (cI_step (x := 14) hg hc hS1 gS (by omega) (by omega) hS hw (by omega) (fun e2 σ5 hS5 hw5 hF5 hC5 => ?_) (fun e2 σ5 hF5 h5 => ?_))
        · rw [bnd2_t e2] at hs
          exact ⟨Or.inr rfl, hs rfl σ5 hS5 hF5 hC5⟩
        · rw [bnd2_f e2] at hfl
          exact ⟨Or.inl rfl, hfl rfl σ5 hF5 h5⟩
      · rw [if_neg q, if_neg q2] at hfl
        exact hfl rfl σ (cF_rf c w σ) hS.2.1.1
    · have e := h5 (by omega)
      subst e
      have no : K 0 σ := hfl rfl σ (cF_rf c w σ) hS.2.1.1
      rw [if_neg (show ¬ nI o < 5 from fun q => by have := (nI_ltI (a := o) (b := 5) (by omega) (by omega)).mp q; omega)]
      exact t_eq (fun _ => no) (fun _ => t_eq (fun _ => no) (fun _ => no))
  refine s_X4_single hg ?_
  rw [t3]
  refine i_eq k.2.2.1 2 rfl rfl (by omega) (by omega) (fun q => ?_) (fun q => i_lt k.2.2.1 1000 rfl rfl (by omega) (by omega) (fun q2 => p62 q (by omega)) (fun q2 => i_le 1006 k.2.2.1 rfl rfl (by omega) (by omega) (fun q3 => p62 q (by omega)) (fun q3 => ?_)))
  · rw [if_pos q] at hs
    rw [hS.2.1.2.2.2 q, ← enc_va]
    exact val _ (by omega) (fun σ' a b e => hs rfl σ' a b e)
  · rw [if_neg q, if_pos ⟨q2, q3⟩] at hs
    rw [show nI k.2.2.1 - 1000 = nI (k.2.2.1 - 1000) from pk_sub (b := 1000) q2, ← enc_na (show k.2.2.1 - 1000 ≤ 5 by omega)]
    exact val _ (by omega) (fun σ' a b e => hs rfl σ' a b e)
theorem cI_lev (hg : zGL g) (hc : 7 ≤ c ∧ c < 13) : ∀ r, r ≤ 5 → cI g z B c mX4_single (5 - r) (9 + 8 * r) (lvR (nXT B z) z r).1 ∧ cI g z B c mX4_not (5 - r) (13 + 8 * r) (lvR (nXT B z) z r).2
  | 0, _ => by
    have hN := gN_lx B z
    have g1 := (lvR_gd (z := z) hN 0).1
    have h1 : cI g z B c mX4_single 5 (7 + 2) (sgR (nXT B z) none) := cI_single (D' := 0) hg hc (by omega) (by omega) (fun _ => rfl) (fun q => by omega)
    have h2 := cI_term hg hc h1 g1 (by omega)
    have h3 := cI_sum hg hc h2 (chn_gd hN g1 gO_T) (by omega)
    have h4 := cI_cmp hg hc h3 (chn_gd hN (chn_gd hN g1 gO_T) gO_S) (by omega)
    exact ⟨h1, cI_not (D' := 0) hg hc (by omega) h4 (by omega) (fun _ => rfl) (fun q => by omega)⟩
  | r + 1, hr => by
    have hN := gN_lx B z
    obtain ⟨i1, i2⟩ := cI_lev hg hc r (by omega)
    obtain ⟨j1, j2⟩ := lvR_gd (z := z) hN r
    have g1 := (lvR_gd (z := z) hN (r + 1)).1
    have eo : 5 - (r + 1) + 1 = 5 - r := by omega
    have b1 := cI_both hg hc i2 j2 (by omega)
    have b2 := cI_either hg hc b1 (chn_gd hN j2 gO_A) (by omega)
    have gE : gd z (6 + 5 * r) (etR (nXT B z) z (lvR (nXT B z) z r).2) := gd_up (chn_gd hN (chn_gd hN j2 gO_A) gO_O) (by omega)
    have h1 : cI g z B c mX4_single (5 - (r + 1)) (13 + 8 * r + 1 + 1 + 2) (lvR (nXT B z) z (r + 1)).1 := by
      refine cI_single (D' := 6 + 5 * r) hg hc (by omega) (by omega) (fun q => by omega) (fun q => ⟨_, _, rfl, ?_, gE, ?_, gd_up j1 (by omega)⟩)
      · rw [eo]; exact b2
      · rw [eo]
        exact fun dd σ k w K hdd => i1 dd σ k w K (by omega)
    have h1' : cI g z B c mX4_single (5 - (r + 1)) (9 + 8 * (r + 1)) (lvR (nXT B z) z (r + 1)).1 := fun dd σ k w K hdd => h1 dd σ k w K (by omega)
    have h2 := cI_term hg hc h1' g1 (by omega)
    have h3 := cI_sum hg hc h2 (chn_gd hN g1 gO_T) (by omega)
    have h4 := cI_cmp hg hc h3 (chn_gd hN (chn_gd hN g1 gO_T) gO_S) (by omega)
    have h5 := cI_not (D' := 4 + 5 * r) (low := some (lvR (nXT B z) z r).2) hg hc (by omega) h4 (by omega) (fun q => by omega) (fun q => ⟨_, rfl, by
      rw [eo]
      exact fun dd σ k w K hdd => i2 dd σ k w K (by omega), j2⟩)
    exact ⟨h1', fun dd σ k w K hdd => h5 dd σ k w K (by omega)⟩
theorem cI_all (hg : zGL g) (hc : 7 ≤ c ∧ c < 13) : cI g z B c mX4_either 0 55 (etR (nXT B z) z (lvR (nXT B z) z 5).2) := by
  have hN := gN_lx B z
  have i2 := (cI_lev (z := z) (B := B) hg hc 5 (by omega)).2
  have j2 := (lvR_gd (z := z) hN 5).2
  exact cI_either hg hc (cI_both hg hc i2 j2 (by omega)) (chn_gd hN j2 gO_A) (by omega)
end
