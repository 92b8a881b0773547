/-! buy, pawn: the reference -/
section
variable {d : Nat} {g : zG} {σ : zI}
theorem cm_unpaid' {K : Int32 → zI → Prop} (hg : zGA g) {E : zE} {T a b : Nat} {x y : zH} (ea : x.1 = a) (eb : y.1 = b) (ht : mTx σ T E.1 E.2.1 E.2.2) (hx : mH σ x) (hy : mH σ y) (h68 : σ 68 0 = 0) (h69 : σ 69 0 = 0)
    (h1 : ∀ σ', zfr [66, 67, 68, 69] σ σ' → σ' 68 0 = 0 → σ' 69 0 = 0 → K (nI (99 - npay (prc E x y) 99)) σ') : zCI mX8_unpaid (d + 6) [.ref 57, .int (nI a), .int (nI b)] g σ K := by
  subst ea; subst eb
  exact cm_unpaid hg ht hx hy h68 h69 h1
/-- an own that is set for a while -/
theorem own_set {σ1 : zI} {x : zH} {i o : Nat} (hx : mH σ x) (e : x.1 = i) (h58 : σ1 58 = σ 58) (h59 : σ1 59 = σ 59) (ho : o < 1073741824) (h60 : σ1 60 i = nI o) : mH σ1 (wOwn x o) := by
  subst e
  obtain ⟨e1, e2, e3, e4, e5, e6, e7⟩ := hx
  exact ⟨e1, by rw [h58]; exact e2, by rw [h59]; exact e3, h60, e5, e6, ho⟩
theorem own_not {σ1 : zI} {y : zH} {i j : Nat} (hy : mH σ y) (e : y.1 = j) (hij : j ≠ i) (h58 : σ1 58 = σ 58) (h59 : σ1 59 = σ 59) (h60 : ∀ k, k ≠ i → σ1 60 k = σ 60 k) : mH σ1 y := by
  subst e
  obtain ⟨e1, e2, e3, e4, e5⟩ := hy
  exact ⟨e1, by rw [h58]; exact e2, by rw [h59]; exact e3, by rw [h60 _ hij]; exact e4, e5⟩
theorem own_back {σ1 : zI} {i : Nat} {v : Int32} (hf : zfr [60, 66, 67, 68, 69] σ σ1) (h60 : ∀ k, k ≠ i → σ1 60 k = σ 60 k) (hv : σ 60 i = v) : zfr [66, 67, 68, 69] σ (zsI σ1 60 i v) := by
  intro a ha
  by_cases e : a = 60
  · subst e
    rw [zsI_row]
    funext k
    by_cases z : k = i
    · subst z; rw [u_eq, hv]
    · rw [u_ne z]; exact h60 k z
  · rw [zsI_ne e]
    exact hf a (by simp at ha ⊢; omega)
theorem cm_buy {K : Int32 → zI → Prop} (hg : zGA g) {E : zE} {T n : Nat} {fam : Nat → zH} (ht : mTx σ T E.1 E.2.1 E.2.2) (hF : mF σ n fam) (h68 : σ 68 0 = 0) (h69 : σ 69 0 = 0) {a b w : Int32}
    (h1 : ∀ σ', zfr [66, 67, 68, 69] σ σ' → σ' 68 0 = 0 → σ' 69 0 = 0 → K (aBest (fBuy E) fam n a b w) σ') : zCI mX8_buy (d + 7) [.ref 57, .int a, .int b, .int w] g σ K := by
  have n6 := hF.1
  have e0 : (0 : Int32).toInt = 0 := rfl
  have e1 : (1 : Int32).toInt = 1 := rfl
  unfold aBest at h1
  refine s_X8_buy hg (cm_areTwo (d := d + 4) hg hF (fun q => z0 ?_) (fun i j q => z1 ?_))
  · rw [q] at h1; exact h1 σ (zfr_rf _ _) h68 h69
  · rw [q] at h1
    obtain ⟨hi, hj, hij, rfl, rfl⟩ := two_some n6 q
    have h1 : ∀ σ', zfr [66, 67, 68, 69] σ σ' → σ' 68 0 = 0 → σ' 69 0 = 0 → K (if 0 ≤ w.toInt ∧ w.toInt ≤ 1 then (if w = 0 then (bo (fBuy E (fam i) (fam j)) 30).1 else (bo (fBuy E (fam i) (fam j)) 30).2) else -2) σ' := h1
    have bad : ¬ (0 ≤ w.toInt ∧ w.toInt ≤ 1) → K (-2) σ := fun c => by
      have := h1 σ (zfr_rf _ _) h68 h69
      rw [if_neg c] at this
      exact this
    refine cm_within hg (fun q => z0 (bad (by omega))) (fun q q2 => z1 ⟨v_in (by omega) (by omega), ?_⟩)
    rw [if_pos ⟨by omega, by omega⟩] at h1
    obtain ⟨xi, hx⟩ := hF.2.2 i hi
    obtain ⟨yj, hy⟩ := hF.2.2 j hj
    rw [c_nI (by omega)]
    generalize fam i = x at *
    generalize fam j = y at *
    have hob : x.2.2.2 < 1073741824 := hx.2.2.2.2.2.2
    have h60 : σ 60 i = nI x.2.2.2 := by rw [← xi]; exact hx.2.2.2.1
    rw [h60]
    have key : ∀ (r n : Nat) (σ1 : zI) (c : Int32), n + r = 30 → zfr [60, 66, 67, 68, 69] σ σ1 → (∀ k, k ≠ i → σ1 60 k = σ 60 k) → σ1 68 0 = 0 → σ1 69 0 = 0 → (1 ≤ n → c = (bo (fBuy E x y) n).2) → p_X8_buy_38 (d + 6) g K σ1 (nI i) (nI j) w (nI x.2.2.2) (bo (fBuy E x y) n).1 c (nI (n + 1)) := by
      intro r
      induction r with
      | zero =>
        intro n σ1 c hr hf hk z8 z9 hc
        have e : n = 30 := by omega
        subst e
        have hk2 := h1 _ (own_back hf hk h60) (by rw [zsI_ne (by decide)]; exact z8) (by rw [zsI_ne (by decide)]; exact z9)
        refine s_X8_buy_38 hg (i_le 31 31 rfl rfl (by omega) (by omega) (fun _ => ⟨v_in (by omega) (by omega), ?_⟩) (fun q => by omega))
        rw [c_nI (by omega), hc (by omega)]
        refine t_eq (fun z => ?_) (fun z => ?_)
        · rw [if_pos z] at hk2; exact hk2
        · rw [if_neg z] at hk2; exact hk2
      | succ r ih =>
        intro n σ1 c hr hf hk z8 z9 hc
        refine s_X8_buy_38 hg (i_le 31 (n + 1) rfl rfl (by omega) (by omega) (fun q => by omega) (fun _ => ⟨v_in (by omega) (by omega), ?_⟩))
        have hlt : x.2.2.2 ||| 2 ^ n < 1073741824 := or_lt30 hob (Nat.pow_lt_pow_right (by omega) (by omega) : 2 ^ n < 2 ^ 30)
        rw [c_nI (n := i) (by omega), b_one (by omega) (by omega), show n + 1 - 1 = n by omega, fa_or, nI_1 (n + 1)]
        have hf2 : zfr [60, 66, 67, 68, 69] σ (zsI σ1 60 i (nI (x.2.2.2 ||| 2 ^ n))) := zfr_put hf (by decide)
        have hk2 : ∀ k, k ≠ i → zsI σ1 60 i (nI (x.2.2.2 ||| 2 ^ n)) 60 k = σ 60 k := fun k q => by rw [zsI_no (Or.inr q)]; exact hk k q
        refine cm_barredOf' (w := 0) hg (show (wOwn x (x.2.2.2 ||| 2 ^ n)).1 = i from xi) yj (mTx_fr ht hf2 (by decide)) (own_set hx xi (hf2 58 (by decide)) (hf2 59 (by decide)) hlt zsI_at) (own_not hy yj (fun u => hij u.symm) (hf2 58 (by decide)) (hf2 59 (by decide)) hk2)
          (by rw [zsI_ne (by decide)]; exact z8) (by rw [zsI_ne (by decide)]; exact z9) (by omega) (fun σ2 hf3 y8 y9 => ?_)
        have nx : ∀ c2, c2 = (bo (fBuy E x y) (n + 1)).2 → p_X8_buy_38 (d + 6) g K σ2 (nI i) (nI j) w (nI x.2.2.2) (bo (fBuy E x y) (n + 1)).1 c2 (nI (n + 1 + 1)) := fun c2 hc2 => ih (n + 1) σ2 c2 (by omega) (zfr_tr hf2 (zfr_up hf3 (by decide))) (fun k q => by rw [hf3 60 (by decide)]; exact hk2 k q) y8 y9 (fun _ => hc2)
        have eb : fBuy E x y (n + 1) = some (hq E (wOwn x (x.2.2.2 ||| 2 ^ n)) (prc E (wOwn x (x.2.2.2 ||| 2 ^ n)) y) 0) := rfl
        rw [bo_some eb] at nx
        refine t_eq (fun z => ?_) (fun z => ?_)
        · rw [if_pos z] at nx; exact nx _ rfl
        · have hn : 1 ≤ n := by
            rcases Nat.eq_zero_or_pos n with rfl | h
            · exact absurd rfl z
            · exact h
          rw [hc hn] at *
          refine t_lt (fun z2 => ?_) (fun z2 => ?_)
          · rw [if_neg z, if_pos (Int32.lt_iff_toInt_lt.mpr z2)] at nx; exact nx _ rfl
          · rw [if_neg z, if_neg (nlt_le z2)] at nx; exact nx _ rfl
    exact key 30 0 σ 0 (by omega) (zfr_rf _ _) (fun k _ => rfl) h68 h69 (fun q => by omega)
theorem cm_pawn {K : Int32 → zI → Prop} (hg : zGA g) {E : zE} {T n : Nat} {fam : Nat → zH} (ht : mTx σ T E.1 E.2.1 E.2.2) (hF : mF σ n fam) (h68 : σ 68 0 = 0) (h69 : σ 69 0 = 0) {a b w : Int32}
    (h1 : ∀ σ', zfr [66, 67, 68, 69] σ σ' → σ' 68 0 = 0 → σ' 69 0 = 0 → K (aBest (fPawn E) fam n a b w) σ') : zCI mX8_pawn (d + 7) [.ref 57, .int a, .int b, .int w] g σ K := by
  have n6 := hF.1
  have e0 : (0 : Int32).toInt = 0 := rfl
  have e1 : (1 : Int32).toInt = 1 := rfl
  unfold aBest at h1
  refine s_X8_pawn hg (cm_areTwo (d := d + 4) hg hF (fun q => z0 ?_) (fun i j q => z1 ?_))
  · rw [q] at h1; exact h1 σ (zfr_rf _ _) h68 h69
  · rw [q] at h1
    obtain ⟨hi, hj, hij, rfl, rfl⟩ := two_some n6 q
    have h1 : ∀ σ', zfr [66, 67, 68, 69] σ σ' → σ' 68 0 = 0 → σ' 69 0 = 0 → K (if 0 ≤ w.toInt ∧ w.toInt ≤ 1 then (if w = 0 then (bo (fPawn E (fam i) (fam j)) 30).1 else (bo (fPawn E (fam i) (fam j)) 30).2) else -2) σ' := h1
    have bad : ¬ (0 ≤ w.toInt ∧ w.toInt ≤ 1) → K (-2) σ := fun c => by
      have := h1 σ (zfr_rf _ _) h68 h69
      rw [if_neg c] at this
      exact this
    refine cm_within hg (fun q => z0 (bad (by omega))) (fun q q2 => z1 ⟨v_in (by omega) (by omega), ?_⟩)
    rw [if_pos ⟨by omega, by omega⟩] at h1
    obtain ⟨xi, hx⟩ := hF.2.2 i hi
    obtain ⟨yj, hy⟩ := hF.2.2 j hj
    rw [c_nI (by omega)]
    generalize fam i = x at *
    generalize fam j = y at *
    have hob : x.2.2.2 < 1073741824 := hx.2.2.2.2.2.2
    have h60 : σ 60 i = nI x.2.2.2 := by rw [← xi]; exact hx.2.2.2.1
    rw [h60]
    have key : ∀ (r n : Nat) (σ1 : zI), n + r = 30 → zfr [60, 66, 67, 68, 69] σ σ1 → (∀ k, k ≠ i → σ1 60 k = σ 60 k) → σ1 68 0 = 0 → σ1 69 0 = 0 → p_X8_pawn_38 (d + 6) g K σ1 (nI i) (nI j) w (nI x.2.2.2) (bo (fPawn E x y) n).1 (bo (fPawn E x y) n).2 (nI (n + 1)) := by
      intro r
      induction r with
      | zero =>
        intro n σ1 hr hf hk z8 z9
        have e : n = 30 := by omega
        subst e
        have hk2 := h1 _ (own_back hf hk h60) (by rw [zsI_ne (by decide)]; exact z8) (by rw [zsI_ne (by decide)]; exact z9)
        refine s_X8_pawn_38 hg (i_le 31 31 rfl rfl (by omega) (by omega) (fun _ => ⟨v_in (by omega) (by omega), ?_⟩) (fun q => by omega))
        rw [c_nI (by omega)]
        refine t_eq (fun z => ?_) (fun z => ?_)
        · rw [if_pos z] at hk2; exact hk2
        · rw [if_neg z] at hk2; exact hk2
      | succ r ih =>
        intro n σ1 hr hf hk z8 z9
        refine s_X8_pawn_38 hg (i_le 31 (n + 1) rfl rfl (by omega) (by omega) (fun q => by omega) (fun _ => ?_))
        rw [show nI (n + 1) - 1 = nI n from nI_pred n, nI_1 (n + 1)]
        refine cm_has hg (by omega) (by omega) (fun z => z0 ?_) (fun z => z1 ⟨v_in (by omega) (by omega), ?_⟩)
        · have nx := ih (n + 1) σ1 (by omega) hf hk z8 z9
          have eb : fPawn E x y (n + 1) = none := by unfold fPawn; rw [show n + 1 - 1 = n by omega, z]; rfl
          rw [bo_none eb] at nx
          exact nx
        · obtain ⟨c1, c2⟩ := clr z hob (by omega)
          have hlt : x.2.2.2 - 2 ^ n < 1073741824 := Nat.lt_of_le_of_lt (Nat.sub_le _ _) hob
          rw [c_nI (n := i) (by omega), sh1 (by omega), pk_sub c2]
          have hf2 : zfr [60, 66, 67, 68, 69] σ (zsI σ1 60 i (nI (x.2.2.2 - 2 ^ n))) := zfr_put hf (by decide)
          have hk2 : ∀ k, k ≠ i → zsI σ1 60 i (nI (x.2.2.2 - 2 ^ n)) 60 k = σ 60 k := fun k q => by rw [zsI_no (Or.inr q)]; exact hk k q
          refine cm_unpaid' hg (show (wOwn x (x.2.2.2 - 2 ^ n)).1 = i from xi) yj (mTx_fr ht hf2 (by decide)) (own_set hx xi (hf2 58 (by decide)) (hf2 59 (by decide)) hlt zsI_at) (own_not hy yj (fun u => hij u.symm) (hf2 58 (by decide)) (hf2 59 (by decide)) hk2)
            (by rw [zsI_ne (by decide)]; exact z8) (by rw [zsI_ne (by decide)]; exact z9) (fun σ2 hf3 y8 y9 => ?_)
          have nx := ih (n + 1) σ2 (by omega) (zfr_tr hf2 (zfr_up hf3 (by decide))) (fun k q => by rw [hf3 60 (by decide)]; exact hk2 k q) y8 y9
          have eb : fPawn E x y (n + 1) = some (nI (99 - npay (prc E (wOwn x (x.2.2.2 - 2 ^ n)) y) 99)) := by
            unfold fPawn
            rw [show n + 1 - 1 = n by omega, z]; rfl
          rw [bo_some eb] at nx
          refine t_eq (fun z => ?_) (fun z => t_lt (fun z2 => ?_) (fun z2 => ?_))
          · rw [if_pos z] at nx; exact nx
          · rw [if_neg z, if_pos (Int32.lt_iff_toInt_lt.mpr z2)] at nx; exact nx
          · rw [if_neg z, if_neg (nlt_le z2)] at nx; exact nx
    exact key 30 0 σ (by omega) (zfr_rf _ _) (fun k _ => rfl) h68 h69
end
