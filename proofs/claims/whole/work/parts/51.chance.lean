/-! chance: both sides -/
def gdC (E : zE) (fam : Nat → zH) (s : Int32) (now : Nat) : Nat → Nat
  | 0 => 0
  | i + 1 => gdC E fam s now i + (if now < drN E fam (s + nI i) then 1 else 0)
theorem gdC_le (E : zE) (fam : Nat → zH) (s : Int32) (now : Nat) : ∀ i, gdC E fam s now i ≤ i
  | 0 => Nat.le_refl _
  | i + 1 => by
    have := gdC_le E fam s now i
    unfold gdC
    split <;> omega
def nowN (E : zE) (fam : Nat → zH) : Nat := npay (prc E (fam 0) (fam 1)) 99
def aCh (E : zE) (fam : Nat → zH) (n : Nat) (s q p : Int32) : Int64 := if 1 ≤ q.toInt ∧ q.toInt ≤ 20 ∧ 0 ≤ p.toInt ∧ p.toInt ≤ 1 ∧ 2 ≤ n then (if p = 0 then (nI (gdC E fam s (nowN E fam) q.toInt.toNat) / nI (Nat.gcd q.toInt.toNat (gdC E fam s (nowN E fam) q.toInt.toNat))).toInt64 else (nI q.toInt.toNat / nI (Nat.gcd q.toInt.toNat (gdC E fam s (nowN E fam) q.toInt.toNat))).toInt64) else -4611686018427387904
theorem gcd_st (b s : Nat) : Nat.gcd b s = Nat.gcd s (b % s) := by
  rw [Nat.gcd_comm b s, Nat.gcd_rec s b, Nat.gcd_comm]
section
variable {d : Nat} {g : zG} {σ : zI}
theorem cx_measure {K : Int32 → zI → Prop} (hg : zGA g) {a b : Nat} (hb : b ≤ 20) (ha : a ≤ 20) (h1 : K (nI (Nat.gcd a b)) σ) : zCI mX7_commonMeasure d [.int (nI a), .int (nI b)] g σ K := by
  have key : ∀ (r i x y : Nat), i + r = 20 → y ≤ r → x ≤ 20 → Nat.gcd x y = Nat.gcd a b → p_X7_commonMeasure_7 d g K σ (nI x) (nI y) (nI i) := by
    intro r
    induction r with
    | zero =>
      intro i x y hr hy hx hG
      have e : i = 20 := by omega
      subst e
      have y0 : y = 0 := by omega
      subst y0
      rw [Nat.gcd_zero_right] at hG
      subst hG
      exact s_X7_commonMeasure_7 hg (i_le 20 20 rfl rfl (by omega) (by omega) (fun _ => h1) (fun q => by omega))
    | succ r ih =>
      intro i x y hr hy hx hG
      refine s_X7_commonMeasure_7 hg (i_le 20 i rfl rfl (by omega) (by omega) (fun q => by omega) (fun _ => i_eq y 0 rfl rfl (by omega) (by omega) (fun z => ?_) (fun z => ⟨?_, ?_⟩)))
      · subst z
        rw [Nat.gcd_zero_right] at hG
        subst hG
        exact h1
      · exact nI_ne0 (by omega) (by omega)
      · rw [pk_rem (by omega) (by omega) (by omega), nI_1 i]
        have := Nat.mod_lt x (show y > 0 by omega)
        exact ih (i + 1) y (x % y) (by omega) (by omega) (by omega) (by rw [← gcd_st]; exact hG)
  exact s_X7_commonMeasure hg (key 20 0 a b (by omega) hb ha rfl)
theorem cx_chance {K : Int64 → zI → Prop} (hg : zGA g) {E : zE} {n : Nat} {fam : Nat → zH} (hF : xF σ n fam) {s q p : Int32} (h1 : ∀ σ', zfr [26, 41, 42] σ σ' → K (aCh E fam n s q p) σ') : zCL mX7_chance (d + 7) [.ref 0, .int s, .int q, .int p] g σ K := by
  have n6 := hF.1
  have e0 : (0 : Int32).toInt = 0 := rfl
  have e1 : (1 : Int32).toInt = 1 := rfl
  have e20 : (20 : Int32).toInt = 20 := rfl
  have bad : ¬ (1 ≤ q.toInt ∧ q.toInt ≤ 20 ∧ 0 ≤ p.toInt ∧ p.toInt ≤ 1 ∧ 2 ≤ n) → K (-4611686018427387904) σ := fun u => by
    have := h1 σ (zfr_rf _ _)
    unfold aCh at this
    rw [if_neg u] at this
    exact this
  have bad2 : ¬ 2 ≤ n → (if q < 1 then K (-4611686018427387904) σ else (if 20 < q then K (-4611686018427387904) σ else (if p < 0 then K (-4611686018427387904) σ else (if 1 < p then K (-4611686018427387904) σ else K (-4611686018427387904) σ)))) := fun u => by
    have b := bad (fun w => u w.2.2.2.2)
    exact t_lt (fun _ => b) (fun _ => t_lt (fun _ => b) (fun _ => t_lt (fun _ => b) (fun _ => t_lt (fun _ => b) (fun _ => b))))
  have q0 : ∀ {n : Nat}, 0 < n → n ≤ 6 → hA n 0 = some 0 := fun h h2 => hA_nI (k := 0) h (by omega)
  have q1 : ∀ {n : Nat}, 1 < n → n ≤ 6 → hA n 1 = some 1 := fun h h2 => hA_nI (k := 1) h (by omega)
  refine s_X7_chance hg (cx_heirAt hg hF (fun u => cx_heirAt hg hF (fun u2 => bad2 (fun w => by rw [q0 (by omega) n6] at u; cases u)) (fun j u2 hj hj2 => ⟨(gr_family_n hg j (by omega)).2, bad2 (fun w => by rw [q0 (by omega) n6] at u; cases u)⟩)) (fun i u hi hi2 => ⟨(gr_family_n hg i (by omega)).2, cx_heirAt hg hF (fun u2 => bad2 (fun w => by rw [q1 (by omega) n6] at u2; cases u2)) (fun j u2 hj hj2 => ⟨(gr_family_n hg j (by omega)).2, ?_⟩)⟩))
  have i0 : i = 0 := ((nI_eq (a := 0) (b := i) (by omega) (by omega)).mp hi2).symm
  have j1 : j = 1 := ((nI_eq (a := 1) (b := j) (by omega) (by omega)).mp hj2).symm
  subst i0
  subst j1
  refine t_lt (fun y => bad (by omega)) (fun y1 => t_lt (fun y => bad (by omega)) (fun y2 => t_lt (fun y => bad (by omega)) (fun y3 => t_lt (fun y => bad (by omega)) (fun y4 => ?_))))
  unfold aCh at h1
  rw [if_pos (by omega)] at h1
  obtain ⟨m, hm, rfl⟩ := zNat (v := q) (n := 20) (by omega) (by omega) (by omega)
  rw [nI_toInt' (n := m) (by omega), Int.toNat_natCast] at h1
  rw [nI_toInt' (n := m) (by omega)] at y1
  have ho0 := (gr_family_n hg 0 (by omega)).2
  have ho1 := (gr_family_n hg 1 (by omega)).2
  have hx := (hF.2.2 0 (by omega)).2
  have hy := (hF.2.2 1 (by omega)).2
  refine cx_payable (d := d + 1) hg ho0 ho1 hx hy (prc_some E _ _) (fun σ1 hf1 => ?_)
  have npl : nowN E fam ≤ 99 := npay_le _ 99
  show p_X7_chance_67 (d + 6) g K σ1 s (nI m) p (43 + 0) (43 + 1) (nI (nowN E fam)) 0 0
  have key : ∀ (r i : Nat) (σ2 : zI), i + r = m → zfr [26, 41, 42] σ σ2 → p_X7_chance_67 (d + 6) g K σ2 s (nI m) p (43 + 0) (43 + 1) (nI (nowN E fam)) (nI (gdC E fam s (nowN E fam) i)) (nI i) := by
    intro r
    induction r with
    | zero =>
      intro i σ2 hr hf
      have e : i = m := by omega
      subst e
      have gl := gdC_le E fam s (nowN E fam) i
      have hK := h1 σ2 hf
      have gp : 0 < Nat.gcd i (gdC E fam s (nowN E fam) i) := Nat.gcd_pos_of_pos_left _ (by omega)
      have gle : Nat.gcd i (gdC E fam s (nowN E fam) i) ≤ 20 := Nat.le_trans (Nat.gcd_le_left _ (by omega)) hm
      refine s_X7_chance_67 hg ho0 ho1 (i_le i i rfl rfl (by omega) (by omega) (fun _ => cx_measure hg (by omega) hm (i_le 1 (Nat.gcd i (gdC E fam s (nowN E fam) i)) rfl rfl (by omega) (by omega) (fun _ => t_eq (fun z => ⟨nI_ne0 gp (by omega), ?_⟩) (fun z => ⟨nI_ne0 gp (by omega), ?_⟩)) (fun u => by omega))) (fun u => by omega))
      · rw [if_pos z] at hK; exact hK
      · rw [if_neg z] at hK; exact hK
    | succ r ih =>
      intro i σ2 hr hf
      have gl := gdC_le E fam s (nowN E fam) i
      have hF2 := xF_fr hF hf (by decide) (by intro i hi; simp; omega)
      have nd : drN E fam (s + nI i) ≤ 99 := npay_le _ 99
      refine s_X7_chance_67 hg ho0 ho1 (i_le m i rfl rfl (by omega) (by omega) (fun u => by omega) (fun _ => cx_ifDrawn (d := d) (E := E) hg hF2 (by omega) (fun σ3 hf3 => ?_)))
      have nx := ih (i + 1) σ3 (by omega) (zfr_tr hf hf3)
      have eg : gdC E fam s (nowN E fam) (i + 1) = gdC E fam s (nowN E fam) i + (if nowN E fam < drN E fam (s + nI i) then 1 else 0) := rfl
      rw [eg] at nx
      rw [nI_1 i, nI_1 (gdC E fam s (nowN E fam) i)]
      refine i_le (drN E fam (s + nI i)) (nowN E fam) rfl rfl (by omega) (by omega) (fun z => ?_) (fun z => ?_)
      · rw [if_neg (by omega), Nat.add_zero] at nx; exact nx
      · rw [if_pos z] at nx; exact nx
  exact key m 0 σ1 (by omega) (zfr_up hf1 (by decide))
theorem cm_gcd {K : Int64 → zI → Prop} (hg : zGA g) {q p c : Int32} {G : Nat} (h1 : ¬ nI G = 0 → (if p = 0 then K ((c / nI G : Int32).toInt64) σ else K ((q / nI G : Int32).toInt64) σ)) (hG : 0 < G ∧ G < 1000) : ∀ (N x y : Nat), y < N → x < 1000 → y < 1000 → Nat.gcd x y = G → p_X8_chance_83 d g K σ q p c (nI x) (nI y) := by
  intro N
  induction N with
  | zero => intro x y h; omega
  | succ N ih =>
    intro x y hN hx hy hG2
    refine s_X8_chance_83 hg (i_eq y 0 rfl rfl (by omega) (by omega) (fun z => ?_) (fun z => ⟨nI_ne0 (by omega) (by omega), ?_⟩))
    · subst z
      rw [Nat.gcd_zero_right] at hG2
      subst hG2
      have ne : ¬ nI x = 0 := nI_ne0 hG.1 (by omega)
      have h1 := h1 ne
      refine t_eq (fun w => ⟨ne, ?_⟩) (fun w => ⟨ne, ?_⟩)
      · rw [if_pos w] at h1; exact h1
      · rw [if_neg w] at h1; exact h1
    · rw [pk_rem (by omega) (by omega) (by omega)]
      have := Nat.mod_lt x (show y > 0 by omega)
      exact ih y (x % y) (by omega) (by omega) (by omega) (by rw [← gcd_st]; exact hG2)
theorem cm_chance {K : Int64 → zI → Prop} (hg : zGA g) {E : zE} {T n : Nat} {fam : Nat → zH} (ht : mTx σ T E.1 E.2.1 E.2.2) (hF : mF σ n fam) (h68 : σ 68 0 = 0) (h69 : σ 69 0 = 0) {s q p : Int32}
    (h1 : ∀ σ', zfr [66, 67, 68, 69, 78] σ σ' → σ' 68 0 = 0 → σ' 69 0 = 0 → K (aCh E fam n s q p) σ') : zCL mX8_chance (d + 8) [.ref 57, .int s, .int q, .int p] g σ K := by
  have n6 := hF.1
  have e0 : (0 : Int32).toInt = 0 := rfl
  have e1 : (1 : Int32).toInt = 1 := rfl
  have e20 : (20 : Int32).toInt = 20 := rfl
  have bad : ¬ (1 ≤ q.toInt ∧ q.toInt ≤ 20 ∧ 0 ≤ p.toInt ∧ p.toInt ≤ 1 ∧ 2 ≤ n) → K (-4611686018427387904) σ := fun u => by
    have := h1 σ (zfr_rf _ _) h68 h69
    unfold aCh at this
    rw [if_neg u] at this
    exact this
  refine s_X8_chance hg (cm_within hg (fun u => z0 (bad (by omega))) (fun u1 u2 => z1 (cm_within hg (fun u => z0 (bad (by omega))) (fun u3 u4 => z1 ?_))))
  rw [hF.2.1]
  refine i_le 2 n rfl rfl (by omega) (by omega) (fun w => ?_) (fun w => bad (by omega))
  unfold aCh at h1
  rw [if_pos (by omega)] at h1
  obtain ⟨m, hm, rfl⟩ := zNat (v := q) (n := 20) (by omega) (by omega) (by omega)
  rw [nI_toInt' (n := m) (by omega), Int.toNat_natCast] at h1
  rw [nI_toInt' (n := m) (by omega)] at u1
  have m1 : 1 ≤ m := by omega
  obtain ⟨x0, hx0⟩ := hF.2.2 0 (by omega)
  obtain ⟨x1, hx1⟩ := hF.2.2 1 (by omega)
  refine cm_unpaid' (d := d + 1) (a := 0) (b := 1) hg x0 x1 ht hx0 hx1 h68 h69 (fun σ1 hf1 z8 z9 => ?_)
  have npl : nowN E fam ≤ 99 := npay_le _ 99
  rw [show (99 : Int32) - nI (99 - npay (prc E (fam 0) (fam 1)) 99) = nI (99 - (99 - npay (prc E (fam 0) (fam 1)) 99)) from pk_sub (a := 99) (by omega), show 99 - (99 - npay (prc E (fam 0) (fam 1)) 99) = nowN E fam by unfold nowN at npl ⊢; omega]
  have key : ∀ (r i : Nat) (σ2 : zI), i + r = m → zfr [66, 67, 68, 69, 78] σ σ2 → σ2 68 0 = 0 → σ2 69 0 = 0 → p_X8_chance_48 (d + 7) g K σ2 s (nI m) p (nI (nowN E fam)) (nI (gdC E fam s (nowN E fam) i)) (nI i) := by
    intro r
    induction r with
    | zero =>
      intro i σ2 hr hf w8 w9
      have e : i = m := by omega
      subst e
      have gl := gdC_le E fam s (nowN E fam) i
      have hK := h1 σ2 hf w8 w9
      have gp : 0 < Nat.gcd i (gdC E fam s (nowN E fam) i) := Nat.gcd_pos_of_pos_left _ (by omega)
      have gle : Nat.gcd i (gdC E fam s (nowN E fam) i) ≤ 20 := Nat.le_trans (Nat.gcd_le_left _ (by omega)) hm
      have hK2 : (if p = 0 then K ((nI (gdC E fam s (nowN E fam) i) / nI (i.gcd (gdC E fam s (nowN E fam) i))).toInt64) σ2 else K ((nI i / nI (i.gcd (gdC E fam s (nowN E fam) i))).toInt64) σ2) := by
        by_cases z : p = 0
        · rw [if_pos z] at hK ⊢; exact hK
        · rw [if_neg z] at hK ⊢; exact hK
      exact s_X8_chance_48 hg (i_le i i rfl rfl (by omega) (by omega) (fun _ => cm_gcd hg (fun _ => hK2) ⟨gp, by omega⟩ (i + 1) _ i (by omega) (by omega) (by omega) (Nat.gcd_comm _ _)) (fun u => by omega))
    | succ r ih =>
      intro i σ2 hr hf w8 w9
      have gl := gdC_le E fam s (nowN E fam) i
      have nd : drN E fam (s + nI i) ≤ 99 := npay_le _ 99
      refine s_X8_chance_48 hg (i_le m i rfl rfl (by omega) (by omega) (fun u => by omega) (fun _ => cm_draw (d := d) (E := E) hg (mTx_fr ht hf (by decide)) (mF_fr hF hf (by decide)) w w8 w9 (fun σ3 hf3 y8 y9 => ?_)))
      have nx := ih (i + 1) σ3 (by omega) (zfr_tr hf hf3) y8 y9
      have eg : gdC E fam s (nowN E fam) (i + 1) = gdC E fam s (nowN E fam) i + (if nowN E fam < drN E fam (s + nI i) then 1 else 0) := rfl
      rw [eg] at nx
      rw [nI_1 i, nI_1 (gdC E fam s (nowN E fam) i)]
      refine i_le (drN E fam (s + nI i)) (nowN E fam) rfl rfl (by omega) (by omega) (fun z => ?_) (fun z => ?_)
      · rw [if_neg (by omega), Nat.add_zero] at nx; exact nx
      · rw [if_pos z] at nx; exact nx
  exact key m 0 σ1 (by omega) (zfr_up hf1 (by decide)) z8 z9
end
