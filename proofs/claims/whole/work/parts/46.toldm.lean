/-! rows as told: the reference's loops -/
theorem mH_same {σ σ1 : zI} {y : zH} (hy : mH σ y) (h58 : σ1 58 y.1 = σ 58 y.1) (h59 : σ1 59 y.1 = σ 59 y.1) (h60 : σ1 60 y.1 = σ 60 y.1) : mH σ1 y := by
  obtain ⟨e1, e2, e3, e4, e5⟩ := hy
  exact ⟨e1, h58.trans e2, h59.trans e3, h60.trans e4, e5⟩
theorem mTx_rule {σ : zI} {T R dy t : Nat} {P : Nat → Nat → List Nat} (h : mTx σ T R dy P) (ht : t < T) : mTx (zsI σ 57 5 (nI t)) T t dy P := by
  obtain ⟨p0, p1, p2, p3, p4, p5, p6⟩ := h
  refine ⟨p0, ht, p2, by rw [zsI_no (by omega)]; exact p3, zsI_at, by rw [zsI_no (by omega)]; exact p5, fun u hu q hq => ?_⟩
  obtain ⟨a1, b, a2, a3, a4, a5⟩ := p6 u hu q hq
  exact ⟨a1, b, by rw [zsI_no (by omega)]; exact a2, by rw [zsI_no (by omega)]; exact a3, a4, fun i c hc => by rw [zsI_no (by omega)]; exact a5 i c hc⟩
theorem xor_y {o j : Nat} (h : o.testBit j = true) (ho : o < 1073741824) (hj : j < 30) : o ^^^ 2 ^ j = o - 2 ^ j := by
  rw [← (clr h ho (by omega)).1]
  apply Nat.eq_of_testBit_eq
  intro i
  rw [Nat.testBit_xor, Nat.testBit_and, Nat.testBit_xor, Nat.testBit_two_pow, Nat.testBit_two_pow_sub_one]
  by_cases c : j = i
  · subst c; rw [h]; simp; omega
  · by_cases c2 : i < 32
    · simp [c, c2]
    · rw [bit_ge ho (by omega)]; simp [c]
theorem xor_n {o j : Nat} (h : o.testBit j = false) : o ^^^ 2 ^ j = o ||| 2 ^ j := by
  apply Nat.eq_of_testBit_eq
  intro i
  rw [Nat.testBit_xor, Nat.testBit_or, Nat.testBit_two_pow]
  by_cases c : j = i
  · subst c; rw [h]; simp
  · simp [c]
section
variable {d : Nat} {g : zG} {σ : zI} {K : Int32 → zI → Prop}
theorem cm_kinds (hg : zGA g) {E : zE} {T a i j m : Nat} {x y : zH} {so : Int32} {C : Nat → Int32} (hij : i ≠ j) (ea : x.1 = i) (eb : y.1 = j) (ht : mTx σ T E.1 E.2.1 E.2.2) (ha : a < 4) (hS : mS σ a so (2 * m) C) (htk : tsm C 0 m = true) (hx : mH σ x) (hy : mH σ y) (h68 : σ 68 0 = 0) (h69 : σ 69 0 = 0)
    (h1 : ∀ σ', zfr [66, 67, 68, 69] σ σ' → σ' 68 0 = 0 → σ' 69 0 = 0 → K (nI (mk (fKin E x y C m) 6)) σ') : zCI mX8_kinds (d + 8) [.ref 57, .int (nI a), .int (nI i), .int (nI j)] g σ K := by
  have i6 : i < 6 := by rw [← ea]; exact hx.1
  obtain ⟨q1, q2, q3, q4, q5, q6, q7⟩ := hx
  rw [ea] at q1 q2 q3 q4
  refine s_X8_kinds hg ⟨v_in i6 (by omega), ?_⟩
  rw [c_nI (n := i) (by omega), q2]
  have key : ∀ (r k : Nat) (σ1 : zI), k + r = 6 → zfr [58, 66, 67, 68, 69] σ σ1 → (∀ u, u ≠ i → σ1 58 u = σ 58 u) → σ1 68 0 = 0 → σ1 69 0 = 0 → p_X8_kinds_14 (d + 7) g K σ1 (nI a) (nI i) (nI j) (nI x.2.1) (nI (mk (fKin E x y C m) k)) (nI k) := by
    intro r
    induction r with
    | zero =>
      intro k σ1 hr hf hk z8 z9
      have e : k = 6 := by omega
      subst e
      have fin := h1 _ (put_back hf hk q2) (by rw [zsI_ne (by decide)]; exact z8) (by rw [zsI_ne (by decide)]; exact z9)
      refine s_X8_kinds_14 hg (i_le 6 6 rfl rfl (by omega) (by omega) (fun _ => ⟨v_in i6 (by omega), ?_⟩) (fun q => by omega))
      rw [c_nI (n := i) (by omega)]
      exact fin
    | succ r ih =>
      intro k σ1 hr hf hk z8 z9
      refine s_X8_kinds_14 hg (i_le 6 k rfl rfl (by omega) (by omega) (fun q => by omega) (fun _ => ⟨v_in i6 (by omega), ?_⟩))
      rw [c_nI (n := i) (by omega), orsh (by omega), nI_1 k]
      have hf2 : zfr [58, 66, 67, 68, 69] σ (zsI σ1 58 i (nI k)) := zfr_put hf (by decide)
      have hk2 : ∀ u, u ≠ i → zsI σ1 58 i (nI k) 58 u = σ 58 u := fun u hu => by rw [zsI_no (Or.inr hu)]; exact hk u hu
      have hx2 : mH (zsI σ1 58 i (nI k)) (wKin x k) := by
        show mHr _ x.1 k x.2.2.1 x.2.2.2
        rw [ea]
        exact ⟨q1, zsI_at, by rw [hf2 59 (by decide)]; exact q3, by rw [hf2 60 (by decide)]; exact q4, by omega, q6, q7⟩
      refine cm_isSo (d := d) hg (show (wKin x k).1 = i from ea) eb (mTx_fr ht hf2 (by decide)) ha (mS_fr hS hf2 (by decide)) htk hx2 (mH_same hy (by rw [eb]; exact hk2 j (fun u => hij u.symm)) (congrFun (hf2 59 (by decide)) _) (congrFun (hf2 60 (by decide)) _)) (by rw [zsI_ne (by decide)]; exact z8) (by rw [zsI_ne (by decide)]; exact z9) (fun σ2 hf3 y8 y9 => ?_)
      have nx := ih (k + 1) σ2 (by omega) (zfr_tr hf2 (zfr_up hf3 (by decide))) (fun u hu => by rw [hf3 58 (by decide)]; exact hk2 u hu) y8 y9
      refine ⟨fun z => z1 ?_, fun z => z0 ?_⟩
      · rw [mk_y (f := fKin E x y C m) (decide_eq_true z)] at nx; exact nx
      · rw [mk_n (f := fKin E x y C m) (decide_eq_false z)] at nx; exact nx
  exact key 6 0 σ (by omega) (zfr_rf _ _) (fun _ _ => rfl) h68 h69
theorem cm_mores (hg : zGA g) {E : zE} {T a i j m : Nat} {x y : zH} {so : Int32} {C : Nat → Int32} (hij : i ≠ j) (ea : x.1 = i) (eb : y.1 = j) (ht : mTx σ T E.1 E.2.1 E.2.2) (ha : a < 4) (hS : mS σ a so (2 * m) C) (htk : tsm C 0 m = true) (hx : mH σ x) (hy : mH σ y) (h68 : σ 68 0 = 0) (h69 : σ 69 0 = 0)
    (h1 : ∀ σ', zfr [66, 67, 68, 69] σ σ' → σ' 68 0 = 0 → σ' 69 0 = 0 → K (nI (mk (fMor E x y C m) 10)) σ') : zCI mX8_mores (d + 8) [.ref 57, .int (nI a), .int (nI i), .int (nI j)] g σ K := by
  have i6 : i < 6 := by rw [← ea]; exact hx.1
  obtain ⟨q1, q2, q3, q4, q5, q6, q7⟩ := hx
  rw [ea] at q1 q2 q3 q4
  refine s_X8_mores hg ⟨v_in i6 (by omega), ?_⟩
  rw [c_nI (n := i) (by omega), q3]
  have key : ∀ (r k : Nat) (σ1 : zI), k + r = 10 → zfr [59, 66, 67, 68, 69] σ σ1 → (∀ u, u ≠ i → σ1 59 u = σ 59 u) → σ1 68 0 = 0 → σ1 69 0 = 0 → p_X8_mores_14 (d + 7) g K σ1 (nI a) (nI i) (nI j) (nI x.2.2.1) (nI (mk (fMor E x y C m) k)) (nI k) := by
    intro r
    induction r with
    | zero =>
      intro k σ1 hr hf hk z8 z9
      have e : k = 10 := by omega
      subst e
      have fin := h1 _ (put_back hf hk q3) (by rw [zsI_ne (by decide)]; exact z8) (by rw [zsI_ne (by decide)]; exact z9)
      refine s_X8_mores_14 hg (i_le 10 10 rfl rfl (by omega) (by omega) (fun _ => ⟨v_in i6 (by omega), ?_⟩) (fun q => by omega))
      rw [c_nI (n := i) (by omega)]
      exact fin
    | succ r ih =>
      intro k σ1 hr hf hk z8 z9
      refine s_X8_mores_14 hg (i_le 10 k rfl rfl (by omega) (by omega) (fun q => by omega) (fun _ => ⟨v_in i6 (by omega), ?_⟩))
      rw [c_nI (n := i) (by omega), orsh (by omega), nI_1 k]
      have hf2 : zfr [59, 66, 67, 68, 69] σ (zsI σ1 59 i (nI k)) := zfr_put hf (by decide)
      have hk2 : ∀ u, u ≠ i → zsI σ1 59 i (nI k) 59 u = σ 59 u := fun u hu => by rw [zsI_no (Or.inr hu)]; exact hk u hu
      have hx2 : mH (zsI σ1 59 i (nI k)) (wMor x k) := by
        show mHr _ x.1 x.2.1 k x.2.2.2
        rw [ea]
        exact ⟨q1, by rw [hf2 58 (by decide)]; exact q2, zsI_at, by rw [hf2 60 (by decide)]; exact q4, q5, by omega, q7⟩
      refine cm_isSo (d := d) hg (show (wMor x k).1 = i from ea) eb (mTx_fr ht hf2 (by decide)) ha (mS_fr hS hf2 (by decide)) htk hx2 (mH_same hy (congrFun (hf2 58 (by decide)) _) (by rw [eb]; exact hk2 j (fun u => hij u.symm)) (congrFun (hf2 60 (by decide)) _)) (by rw [zsI_ne (by decide)]; exact z8) (by rw [zsI_ne (by decide)]; exact z9) (fun σ2 hf3 y8 y9 => ?_)
      have nx := ih (k + 1) σ2 (by omega) (zfr_tr hf2 (zfr_up hf3 (by decide))) (fun u hu => by rw [hf3 59 (by decide)]; exact hk2 u hu) y8 y9
      refine ⟨fun z => z1 ?_, fun z => z0 ?_⟩
      · rw [mk_y (f := fMor E x y C m) (decide_eq_true z)] at nx; exact nx
      · rw [mk_n (f := fMor E x y C m) (decide_eq_false z)] at nx; exact nx
  exact key 10 0 σ (by omega) (zfr_rf _ _) (fun _ _ => rfl) h68 h69
theorem cm_texts (hg : zGA g) {E : zE} {T a i j m : Nat} {x y : zH} {so : Int32} {C : Nat → Int32} (hij : i ≠ j) (ea : x.1 = i) (eb : y.1 = j) (ht : mTx σ T E.1 E.2.1 E.2.2) (ha : a < 4) (hS : mS σ a so (2 * m) C) (htk : tsm C 0 m = true) (hx : mH σ x) (hy : mH σ y) (h68 : σ 68 0 = 0) (h69 : σ 69 0 = 0)
    (h1 : ∀ σ', zfr [66, 67, 68, 69] σ σ' → σ' 68 0 = 0 → σ' 69 0 = 0 → K (nI (mk (fTxt E x y C m) T)) σ') : zCI mX8_rules (d + 8) [.ref 57, .int (nI a), .int (nI i), .int (nI j)] g σ K := by
  have hT := ht.1
  have e5 : σ 57 5 = nI E.1 := ht.2.2.2.2.1
  refine s_X8_rules hg ?_
  rw [e5]
  have key : ∀ (r k : Nat) (σ1 : zI) (o : Nat), k + r = T → zfr [57, 66, 67, 68, 69] σ σ1 → (∀ u, u ≠ 5 → σ1 57 u = σ 57 u) → mTx σ1 T o E.2.1 E.2.2 → σ1 68 0 = 0 → σ1 69 0 = 0 → p_X8_rules_12 (d + 7) g K σ1 (nI a) (nI i) (nI j) (nI E.1) (nI (mk (fTxt E x y C m) k)) (nI k) := by
    intro r
    induction r with
    | zero =>
      intro k σ1 o hr hf hk ht1 z8 z9
      have e : k = T := by omega
      subst e
      refine s_X8_rules_12 hg ?_
      rw [ht1.2.2.2.2.2.1]
      exact i_le k k rfl rfl (by omega) (by omega) (fun _ => h1 _ (put_back hf hk e5) (by rw [zsI_ne (by decide)]; exact z8) (by rw [zsI_ne (by decide)]; exact z9)) (fun q => by omega)
    | succ r ih =>
      intro k σ1 o hr hf hk ht1 z8 z9
      refine s_X8_rules_12 hg ?_
      rw [ht1.2.2.2.2.2.1]
      refine i_le T k rfl rfl (by omega) (by omega) (fun q => by omega) (fun _ => ?_)
      rw [orsh (by omega), nI_1 k]
      have ht2 := mTx_rule ht1 (show k < T by omega)
      have hf2 : zfr [57, 66, 67, 68, 69] σ (zsI σ1 57 5 (nI k)) := zfr_put hf (by decide)
      refine cm_isSo (d := d) (E := (k, E.2.1, E.2.2)) hg ea eb ht2 ha (mS_fr hS hf2 (by decide)) htk (mHr_fr hx hf2 (by decide)) (mHr_fr hy hf2 (by decide)) (by rw [zsI_ne (by decide)]; exact z8) (by rw [zsI_ne (by decide)]; exact z9) (fun σ2 hf3 y8 y9 => ?_)
      have nx := ih (k + 1) σ2 k (by omega) (zfr_tr hf2 (zfr_up hf3 (by decide))) (fun u hu => by rw [hf3 57 (by decide), zsI_no (Or.inr hu)]; exact hk u hu) (mTx_fr ht2 hf3 (by decide)) y8 y9
      refine ⟨fun z => z1 ?_, fun z => z0 ?_⟩
      · rw [mk_y (f := fTxt E x y C m) (decide_eq_true z)] at nx; exact nx
      · rw [mk_n (f := fTxt E x y C m) (decide_eq_false z)] at nx; exact nx
  exact key T 0 σ E.1 (by omega) (zfr_rf _ _) (fun _ _ => rfl) ht h68 h69
theorem cm_must (hg : zGA g) {E : zE} {T a i j m : Nat} {x y : zH} {so : Int32} {C : Nat → Int32} (hij : i ≠ j) (ea : x.1 = i) (eb : y.1 = j) (ht : mTx σ T E.1 E.2.1 E.2.2) (ha : a < 4) (hS : mS σ a so (2 * m) C) (htk : tsm C 0 m = true) (hx : mH σ x) (hy : mH σ y) (h68 : σ 68 0 = 0) (h69 : σ 69 0 = 0)
    (h1 : ∀ σ', zfr [66, 67, 68, 69] σ σ' → σ' 68 0 = 0 → σ' 69 0 = 0 → K (nI (mk (fMust E x y C m) 30)) σ') : zCI mX8_owns (d + 8) [.ref 57, .int (nI a), .int (nI i), .int (nI j), .int 1] g σ K := by
  have i6 : i < 6 := by rw [← ea]; exact hx.1
  obtain ⟨q1, q2, q3, q4, q5, q6, q7⟩ := hx
  rw [ea] at q1 q2 q3 q4
  refine s_X8_owns hg ⟨v_in i6 (by omega), ?_⟩
  rw [c_nI (n := i) (by omega), q4]
  have key : ∀ (r k : Nat) (σ1 : zI), k + r = 30 → zfr [60, 66, 67, 68, 69] σ σ1 → (∀ u, u ≠ i → σ1 60 u = σ 60 u) → σ1 68 0 = 0 → σ1 69 0 = 0 → p_X8_owns_14 (d + 7) g K σ1 (nI a) (nI i) (nI j) 1 (nI x.2.2.2) (nI (mk (fMust E x y C m) k)) (nI k) := by
    intro r
    induction r with
    | zero =>
      intro k σ1 hr hf hk z8 z9
      have e : k = 30 := by omega
      subst e
      have fin := h1 _ (put_back hf hk q4) (by rw [zsI_ne (by decide)]; exact z8) (by rw [zsI_ne (by decide)]; exact z9)
      refine s_X8_owns_14 hg (i_le 30 30 rfl rfl (by omega) (by omega) (fun _ => ⟨v_in i6 (by omega), ?_⟩) (fun q => by omega))
      rw [c_nI (n := i) (by omega)]
      exact fin
    | succ r ih =>
      intro k σ1 hr hf hk z8 z9
      refine s_X8_owns_14 hg (i_le 30 k rfl rfl (by omega) (by omega) (fun q => by omega) (fun _ => ?_))
      rw [c_nI (n := i) (by omega), orsh (by omega), nI_1 k, sh1 (by omega), fa_xor]
      refine cm_has hg (by omega) (by omega) (fun z => ?_) (fun z => ?_)
      · rw [if_neg (show ¬ (0 : Int32) = 1 by decide)]
        have nx := ih (k + 1) σ1 (by omega) hf hk z8 z9
        rw [mk_n (f := fMust E x y C m) (by unfold fMust; rw [z]; rfl)] at nx
        exact nx
      · rw [if_pos (show (1 : Int32) = 1 from rfl), xor_y z q7 (by omega)]
        refine ⟨v_in i6 (by omega), ?_⟩
        have hlt : x.2.2.2 - 2 ^ k < 1073741824 := Nat.lt_of_le_of_lt (Nat.sub_le _ _) q7
        have hf2 : zfr [60, 66, 67, 68, 69] σ (zsI σ1 60 i (nI (x.2.2.2 - 2 ^ k))) := zfr_put hf (by decide)
        have hk2 : ∀ u, u ≠ i → zsI σ1 60 i (nI (x.2.2.2 - 2 ^ k)) 60 u = σ 60 u := fun u hu => by rw [zsI_no (Or.inr hu)]; exact hk u hu
        have hx2 : mH (zsI σ1 60 i (nI (x.2.2.2 - 2 ^ k))) (wOwn x (x.2.2.2 - 2 ^ k)) := by
          show mHr _ x.1 x.2.1 x.2.2.1 (x.2.2.2 - 2 ^ k)
          rw [ea]
          exact ⟨q1, by rw [hf2 58 (by decide)]; exact q2, by rw [hf2 59 (by decide)]; exact q3, zsI_at, q5, q6, hlt⟩
        refine cm_isSo (d := d) hg (show (wOwn x (x.2.2.2 - 2 ^ k)).1 = i from ea) eb (mTx_fr ht hf2 (by decide)) ha (mS_fr hS hf2 (by decide)) htk hx2 (mH_same hy (congrFun (hf2 58 (by decide)) _) (congrFun (hf2 59 (by decide)) _) (by rw [eb]; exact hk2 j (fun u => hij u.symm))) (by rw [zsI_ne (by decide)]; exact z8) (by rw [zsI_ne (by decide)]; exact z9) (fun σ2 hf3 y8 y9 => ?_)
        have nx := ih (k + 1) σ2 (by omega) (zfr_tr hf2 (zfr_up hf3 (by decide))) (fun u hu => by rw [hf3 60 (by decide)]; exact hk2 u hu) y8 y9
        refine ⟨fun w => ?_, fun w => ?_⟩
        · rw [if_pos (show (1 : Int32) = 1 from rfl)]
          rw [mk_n (f := fMust E x y C m) (by unfold fMust; rw [z, decide_eq_true w]; rfl)] at nx
          exact nx
        · rw [if_neg (show ¬ (0 : Int32) = 1 by decide)]
          rw [mk_y (f := fMust E x y C m) (by unfold fMust; rw [z, decide_eq_false w]; rfl)] at nx
          exact nx
  exact key 30 0 σ (by omega) (zfr_rf _ _) (fun _ _ => rfl) h68 h69
theorem cm_may (hg : zGA g) {E : zE} {T a i j m : Nat} {x y : zH} {so : Int32} {C : Nat → Int32} (hij : i ≠ j) (ea : x.1 = i) (eb : y.1 = j) (ht : mTx σ T E.1 E.2.1 E.2.2) (ha : a < 4) (hS : mS σ a so (2 * m) C) (htk : tsm C 0 m = true) (hx : mH σ x) (hy : mH σ y) (h68 : σ 68 0 = 0) (h69 : σ 69 0 = 0)
    (h1 : ∀ σ', zfr [66, 67, 68, 69] σ σ' → σ' 68 0 = 0 → σ' 69 0 = 0 → K (nI (mk (fMay E x y C m) 30)) σ') : zCI mX8_owns (d + 8) [.ref 57, .int (nI a), .int (nI i), .int (nI j), .int 0] g σ K := by
  have i6 : i < 6 := by rw [← ea]; exact hx.1
  obtain ⟨q1, q2, q3, q4, q5, q6, q7⟩ := hx
  rw [ea] at q1 q2 q3 q4
  refine s_X8_owns hg ⟨v_in i6 (by omega), ?_⟩
  rw [c_nI (n := i) (by omega), q4]
  have key : ∀ (r k : Nat) (σ1 : zI), k + r = 30 → zfr [60, 66, 67, 68, 69] σ σ1 → (∀ u, u ≠ i → σ1 60 u = σ 60 u) → σ1 68 0 = 0 → σ1 69 0 = 0 → p_X8_owns_14 (d + 7) g K σ1 (nI a) (nI i) (nI j) 0 (nI x.2.2.2) (nI (mk (fMay E x y C m) k)) (nI k) := by
    intro r
    induction r with
    | zero =>
      intro k σ1 hr hf hk z8 z9
      have e : k = 30 := by omega
      subst e
      have fin := h1 _ (put_back hf hk q4) (by rw [zsI_ne (by decide)]; exact z8) (by rw [zsI_ne (by decide)]; exact z9)
      refine s_X8_owns_14 hg (i_le 30 30 rfl rfl (by omega) (by omega) (fun _ => ⟨v_in i6 (by omega), ?_⟩) (fun q => by omega))
      rw [c_nI (n := i) (by omega)]
      exact fin
    | succ r ih =>
      intro k σ1 hr hf hk z8 z9
      refine s_X8_owns_14 hg (i_le 30 k rfl rfl (by omega) (by omega) (fun q => by omega) (fun _ => ?_))
      rw [c_nI (n := i) (by omega), orsh (by omega), nI_1 k, sh1 (by omega), fa_xor]
      refine cm_has hg (by omega) (by omega) (fun z => ?_) (fun z => ?_)
      · rw [if_pos (show (0 : Int32) = 0 from rfl), xor_n z]
        refine ⟨v_in i6 (by omega), ?_⟩
        have hlt : x.2.2.2 ||| 2 ^ k < 1073741824 := or_lt30 q7 (Nat.pow_lt_pow_right (by omega) (by omega) : 2 ^ k < 2 ^ 30)
        have hf2 : zfr [60, 66, 67, 68, 69] σ (zsI σ1 60 i (nI (x.2.2.2 ||| 2 ^ k))) := zfr_put hf (by decide)
        have hk2 : ∀ u, u ≠ i → zsI σ1 60 i (nI (x.2.2.2 ||| 2 ^ k)) 60 u = σ 60 u := fun u hu => by rw [zsI_no (Or.inr hu)]; exact hk u hu
        have hx2 : mH (zsI σ1 60 i (nI (x.2.2.2 ||| 2 ^ k))) (wOwn x (x.2.2.2 ||| 2 ^ k)) := by
          show mHr _ x.1 x.2.1 x.2.2.1 (x.2.2.2 ||| 2 ^ k)
          rw [ea]
          exact ⟨q1, by rw [hf2 58 (by decide)]; exact q2, by rw [hf2 59 (by decide)]; exact q3, zsI_at, q5, q6, hlt⟩
        refine cm_isSo (d := d) hg (show (wOwn x (x.2.2.2 ||| 2 ^ k)).1 = i from ea) eb (mTx_fr ht hf2 (by decide)) ha (mS_fr hS hf2 (by decide)) htk hx2 (mH_same hy (congrFun (hf2 58 (by decide)) _) (congrFun (hf2 59 (by decide)) _) (by rw [eb]; exact hk2 j (fun u => hij u.symm))) (by rw [zsI_ne (by decide)]; exact z8) (by rw [zsI_ne (by decide)]; exact z9) (fun σ2 hf3 y8 y9 => ?_)
        have nx := ih (k + 1) σ2 (by omega) (zfr_tr hf2 (zfr_up hf3 (by decide))) (fun u hu => by rw [hf3 60 (by decide)]; exact hk2 u hu) y8 y9
        refine ⟨fun w => ?_, fun w => ?_⟩
        · rw [if_neg (show ¬ (1 : Int32) = 0 by decide)]
          rw [mk_y (f := fMay E x y C m) (by unfold fMay; rw [z, decide_eq_true w]; rfl)] at nx
          exact nx
        · rw [if_pos (show (0 : Int32) = 0 from rfl)]
          rw [mk_n (f := fMay E x y C m) (by unfold fMay; rw [z, decide_eq_false w]; rfl)] at nx
          exact nx
      · rw [if_neg (show ¬ (1 : Int32) = 0 by decide)]
        have nx := ih (k + 1) σ1 (by omega) hf hk z8 z9
        rw [mk_n (f := fMay E x y C m) (by unfold fMay; rw [z]; rfl)] at nx
        exact nx
  exact key 30 0 σ (by omega) (zfr_rf _ _) (fun _ _ => rfl) h68 h69
end
