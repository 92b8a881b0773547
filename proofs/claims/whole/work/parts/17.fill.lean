/-! the rows of least COSTS: both sides -/
theorem u_eq {f : Nat → Int32} {j : Nat} {x : Int32} : upd f j x j = x := if_pos rfl
theorem u_ne {f : Nat → Int32} {i j : Nat} {x : Int32} (h : i ≠ j) : upd f j x i = f i := if_neg h
section
variable {d : Nat} {g : zG} {σ : zI}
theorem xnP (hg : zGA g) {a : Nat} (ho : zOb g a 0) : a ∉ [20, 21, 23, 24, 25, 26, 27] := by
  have h1 := ne_oa ho (gA_20 hg) (by decide)
  have h2 := ne_oa ho (gA_21 hg) (by decide)
  have h3 := ne_oa ho (gA_23 hg) (by decide)
  have h4 := ne_oa ho (gA_24 hg) (by decide)
  have h5 := ne_oa ho (gA_25 hg) (by decide)
  have h6 := ne_oa ho (gA_26 hg) (by decide)
  have h7 := ne_oa ho (gA_27 hg) (by decide)
  simp [h1, h2, h3, h4, h5, h6, h7]
theorem xH_P {σ1 : zI} {a : Nat} {x : zH} (hg : zGA g) (ho : zOb g a 0) (h : xH σ a x) (hf : zfr [20, 21, 23, 24, 25, 26, 27] σ σ1) : xH σ1 a x := xHr_fr h hf (xnP hg ho)
theorem xTx_P {σ1 : zI} {T R dy : Nat} {P : Nat → Nat → List Nat} (h : xTx σ T R dy P) (hf : zfr [20, 21, 23, 24, 25, 26, 27] σ σ1) : xTx σ1 T R dy P := xTx_fr h hf (by decide) (by decide)
theorem sd_sb (x y : zH) {n : Nat} (h1 : 1 ≤ n) (h2 : n ≤ 30) : (sb x &&& sb y).testBit (n - 1) = (sd x n && sd y n) := by
  rw [Nat.testBit_and]
  show ((sy x.2.1 x.2.2.1 x.2.2.2).testBit (n - 1) && (sy y.2.1 y.2.2.1 y.2.2.2).testBit (n - 1)) = _
  rw [sy_bit _ _ _ _ h1 h2, sy_bit _ _ _ _ h1 h2]
  rfl
theorem prc_some (E : zE) (x y : zH) (n : Nat) : (prc E x y n).isSome = (sd x n && sd y n) := by
  unfold prc
  split <;> simp_all
theorem one1_some (x y : zH) (n : Nat) : (one1 x y n).isSome = (sd x n && sd y n) := by
  unfold one1
  split <;> simp_all
theorem cx_fillLeast {K : zI → Prop} (hg : zGA g) {E : zE} {T a b : Nat} {x y : zH} (ht : xTx σ T E.1 E.2.1 E.2.2) (ha : zOb g a 0) (hb : zOb g b 0) (hx : xH σ a x) (hy : xH σ b y) {l : Nat} (hl : l ≤ 99) {c : Int32}
    {p : Nat → Option Nat} (hp : wgt p) (hs : ∀ n, (p n).isSome = (sd x n && sd y n)) (hc0 : c = 0 → ∀ n w, p n = some w → w = cst E x n + cst E y n) (hc1 : ¬ c = 0 → ∀ n w, p n = some w → w = 1)
    (h1 : ∀ σ', zfr [20, 21, 23, 24, 25] σ σ' → (∀ t, t ≤ l → σ' 25 t = on (ls p t)) → K σ') : zCV mX3_fillLeast (d + 5) [.ref 22, .ref a, .ref b, .int (nI l), .int c] g σ K := by
  have cl := cnt_le p
  refine s_X3_fillLeast hg ha hb (cx_sayable (d := d + 1) hg ha hx (cx_sayable (d := d + 1) hg hb hy ?_))
  rw [fa_and]
  refine cx_fillParts (p := p) hg (fun n h1 h2 => by rw [hs]; exact sd_sb x y h1 h2) (fun σ0 hf0 h23 => ?_)
  have key2 : ∀ (r s : Nat) (σ1 : zI), s + r = 100 → 1 ≤ s → s ≤ l + 1 → zfr [20, 21, 23, 24, 25] σ σ1 → (∀ n, 1 ≤ n → n ≤ 30 → (p n).isSome = true → σ1 23 (cnt p (n - 1)) = nI n) → (∀ n w, 1 ≤ n → n ≤ 30 → p n = some w → σ1 24 (cnt p (n - 1)) = nI w) →
      (∀ t, t < s → σ1 25 t = on (ls p t)) → p_X3_fillLeast_88 (d + 4) g K σ1 (nI l) (nI (cnt p 30)) (nI s) := by
    intro r
    induction r with
    | zero =>
      intro s σ1 hr h1s hsl hf h23 h24 h25
      exact s_X3_fillLeast_88 hg (i_lt l s rfl rfl (by omega) (by omega) (fun q => h1 σ1 hf (fun t ht => h25 t (by omega))) (fun q => by omega))
    | succ r ih =>
      intro s σ1 hr h1s hsl hf h23 h24 h25
      refine s_X3_fillLeast_88 hg (i_lt l s rfl rfl (by omega) (by omega) (fun q => h1 σ1 hf (fun t ht => h25 t (by omega))) (fun q => i_lt 99 s rfl rfl (by omega) (by omega) (fun q2 => by omega) (fun q2 => ?_)))
      refine cx_leastAt hg hp h1s q2 h23 h24 h25 ⟨v_in (by omega) (by omega), ?_⟩
      rw [c_nI (by omega), nI_1]
      refine ih (s + 1) _ (by omega) (by omega) (by omega) (zfr_put hf (by decide)) ?_ ?_ (fun t ht => ?_)
      · rw [zsI_ne (by decide)]; exact h23
      · rw [zsI_ne (by decide)]; exact h24
      · rw [zsI_row]
        simp only [upd]
        by_cases z : t = s
        · rw [if_pos z, z]
        · rw [if_neg z]; exact h25 t (by omega)
  have key : ∀ (r n : Nat) (σ1 : zI), n + r = 30 → zfr [20, 21, 23, 24] σ σ1 → (∀ n, 1 ≤ n → n ≤ 30 → (p n).isSome = true → σ1 23 (cnt p (n - 1)) = nI n) → (∀ i w, 1 ≤ i → i ≤ n → p i = some w → σ1 24 (cnt p (i - 1)) = nI w) →
      p_X3_fillLeast_18 (d + 4) g K σ1 a b (nI l) c (nI (cnt p 30)) (nI (cnt p n)) := by
    intro r
    induction r with
    | zero =>
      intro n σ1 hr hf h23 h24
      have e : n = 30 := by omega
      subst e
      have c30 := cl 30
      refine s_X3_fillLeast_18 hg ha hb (i_le (cnt p 30) (cnt p 30) rfl rfl (by omega) (by omega) (fun _ => ?_) (fun q => by omega))
      refine key2 99 1 _ (by omega) (by omega) (by omega) (zfr_put (zfr_up hf (by decide)) (by decide)) ?_ ?_ (fun t ht => ?_)
      · rw [zsI_ne (by decide)]; exact h23
      · rw [zsI_ne (by decide)]; exact h24
      · have : t = 0 := by omega
        subst this
        rw [zsI_row, ls_0]
        rw [u_eq]
        rfl
    | succ r ih =>
      intro n σ1 hr hf h23 h24
      have cn := cl n
      cases hw : p (n + 1) with
      | none =>
        have hn : (p (n + 1)).isSome = false := by rw [hw]; rfl
        have := ih (n + 1) σ1 (by omega) hf h23 (fun i w q1 q2 q3 => by
          by_cases z : i = n + 1
          · subst z; rw [hw] at q3; simp at q3
          · exact h24 i w q1 (by omega) q3)
        rw [cnt_n hn] at this
        exact this
      | some w =>
        have hn : (p (n + 1)).isSome = true := by rw [hw]; rfl
        have hlt := cnt_lt (k := 30) (show n < 30 by omega) hn
        have c30 := cl 30
        have f23 := h23 (n + 1) (by omega) (by omega) hn
        rw [show n + 1 - 1 = n by omega] at f23
        have nx : ∀ σ2, zfr [20, 21] σ1 σ2 → p_X3_fillLeast_18 (d + 4) g K (zsI σ2 24 (cnt p n) (nI w)) a b (nI l) c (nI (cnt p 30)) (nI (cnt p n) + 1) := by
          intro σ2 hf2
          have := ih (n + 1) (zsI σ2 24 (cnt p n) (nI w)) (by omega) (zfr_put (zfr_tr hf (zfr_up hf2 (by decide))) (by decide)) (by
            rw [zsI_ne (by decide), hf2 23 (by decide)]; exact h23) (fun i v q1 q2 q3 => by
              rw [zsI_row, hf2 24 (by decide)]
              simp only [upd]
              by_cases z : i = n + 1
              · subst z
                rw [hw] at q3
                have : w = v := by simpa using q3
                rw [show n + 1 - 1 = n by omega, if_pos rfl, this]
              · have hlt := cnt_lt (p := p) (j := i - 1) (k := n) (by omega) (by rw [show i - 1 + 1 = i by omega, q3]; rfl)
                rw [if_neg (by omega)]
                exact h24 i v q1 (by omega) q3)
          rw [cnt_y hn, ← nI_1 (cnt p n)] at this
          exact this
        refine s_X3_fillLeast_18 hg ha hb (i_le (cnt p 30) (cnt p n) rfl rfl (by omega) (by omega) (fun q => by omega) (fun _ => t_eq (fun c0 => ?_) (fun c1 => ?_)))
        · refine ⟨v_in (by omega) (by omega), ?_⟩
          rw [c_nI (n := cnt p n) (by omega), f23]
          have hfP : zfr [20, 21, 23, 24, 25, 26, 27] σ σ1 := zfr_up hf (by decide)
          refine cx_costs hg (xTx_P ht hfP) ha (xH_P hg ha hx hfP) (by omega) (by omega) (fun σ2 hf2 => ⟨v_in (by omega) (by omega), ?_⟩)
          rw [hf2 23 (by decide), f23]
          have hfQ : zfr [20, 21, 23, 24, 25, 26, 27] σ σ2 := zfr_tr hfP (zfr_up hf2 (by decide))
          refine cx_costs hg (xTx_P ht hfQ) hb (xH_P hg hb hy hfQ) (by omega) (by omega) (fun σ3 hf3 => ⟨v_in (by omega) (by omega), ?_⟩)
          rw [nI_add]
          have e := hc0 c0 _ _ hw
          unfold cst at e
          rw [← e]
          exact nx σ3 (zfr_tr hf2 hf3)
        · refine ⟨v_in (by omega) (by omega), ?_⟩
          rw [c_nI (n := cnt p n) (by omega)]
          have e := hc1 c1 _ _ hw
          have := nx σ1 (zfr_rf _ _)
          rw [e] at this
          exact this
  exact key 30 0 σ0 (by omega) (zfr_up hf0 (by decide)) h23 (fun i w q1 q2 => by omega)
theorem mTx_S {σ1 : zI} {T R dy : Nat} {P : Nat → Nat → List Nat} (h : mTx σ T R dy P) (hf : zfr [66, 67, 68, 69] σ σ1) : mTx σ1 T R dy P := mTx_fr h hf (by decide)
theorem mH_S {σ1 : zI} {x : zH} (h : mH σ x) (hf : zfr [66, 67, 68, 69] σ σ1) : mH σ1 x := mHr_fr h hf (by decide)
theorem cm_sums {K : zI → Prop} (hg : zGA g) {E : zE} {T : Nat} {x y : zH} (ht : mTx σ T E.1 E.2.1 E.2.2) (hx : mH σ x) (hy : mH σ y) (h68 : σ 68 0 = 0) (h69 : σ 69 0 = 0)
    (h1 : ∀ σ', zfr [66, 67, 68, 69] σ σ' → (∀ t, t < 100 → σ' 68 t = on (ls (prc E x y) t) ∧ σ' 69 t = on (ls (one1 x y) t)) → K σ') : zCV mX8_sums (d + 5) [.ref 57, .int (nI x.1), .int (nI y.1)] g σ K := by
  have wp : wgt (prc E x y) := prc_wgt E x y hx.2.2.2.2.2.1 hy.2.2.2.2.2.1
  have wq : wgt (one1 x y) := one1_wgt x y
  have hpq : ∀ n, prc E x y n = none ↔ one1 x y n = none := prc_one E x y
  have hq1 : ∀ n w, one1 x y n = some w → w = 1 := by
    intro n w h
    unfold one1 at h
    split at h
    · simpa using h.symm
    · simp at h
  have keyA : (∀ σ1, zfr [66, 67] σ σ1 → (∀ i, 1 ≤ i → i ≤ 30 → σ1 67 i = on (prc E x y i)) → p_X8_sums_57 (d + 4) g K σ1 1) → ∀ (r n : Nat) (σ1 : zI), n + r = 30 → zfr [66, 67] σ σ1 → (∀ i, 1 ≤ i → i ≤ n → σ1 67 i = on (prc E x y i)) → p_X8_sums_2 (d + 4) g K σ1 (nI x.1) (nI y.1) (nI (n + 1)) := by
    intro hk r
    induction r with
    | zero =>
      intro n σ1 hr hf h67
      exact s_X8_sums_2 hg (i_le 31 (n + 1) rfl rfl (by omega) (by omega) (fun _ => hk σ1 hf (fun i q1 q2 => h67 i q1 (by omega))) (fun q => by omega))
    | succ r ih =>
      intro n σ1 hr hf h67
      have hfS : zfr [66, 67, 68, 69] σ σ1 := zfr_up hf (by decide)
      have nx : ∀ σ2 v, zfr [66] σ1 σ2 → v = on (prc E x y (n + 1)) → p_X8_sums_2 (d + 4) g K (zsI σ2 67 (n + 1) v) (nI x.1) (nI y.1) (nI (n + 1) + 1) := by
        intro σ2 v hf2 hv
        rw [nI_1]
        refine ih (n + 1) _ (by omega) (zfr_put (zfr_tr hf (zfr_up hf2 (by decide))) (by decide)) (fun i q1 q2 => ?_)
        rw [zsI_row, hf2 67 (by decide)]
        simp only [upd]
        by_cases z : i = n + 1
        · rw [if_pos z, hv, z]
        · rw [if_neg z]; exact h67 i q1 (by omega)
      refine s_X8_sums_2 hg (i_le 31 (n + 1) rfl rfl (by omega) (by omega) (fun q => by omega) (fun _ => ?_))
      rw [c_nI (by omega)]
      refine cm_isSaid hg (mH_S hx hfS) (by omega) (by omega) (fun w => z0 ⟨v_in (by omega) (by omega), nx σ1 _ (zfr_rf _ _) ?_⟩) (fun w => z1 (cm_isSaid hg (mH_S hy hfS) (by omega) (by omega) (fun w2 => z0 ⟨v_in (by omega) (by omega), nx σ1 _ (zfr_rf _ _) ?_⟩) (fun w2 => z1 ?_)))
      · unfold prc sd; rw [w]; rfl
      · unfold prc sd; rw [w2, Bool.and_false]; rfl
      · refine cm_costs (d := d + 1) hg (mTx_S ht hfS) (mH_S hx hfS) (by omega) (by omega) (fun σ2 hf2 => ?_)
        have hfS2 : zfr [66, 67, 68, 69] σ σ2 := zfr_tr hfS (zfr_up hf2 (by decide))
        refine cm_costs (d := d + 1) hg (mTx_S ht hfS2) (mH_S hy hfS2) (by omega) (by omega) (fun σ3 hf3 => ⟨v_in (by omega) (by omega), nx σ3 _ (zfr_tr hf2 hf3) ?_⟩)
        unfold prc sd
        rw [w, w2, nI_add]; rfl
  refine s_X8_sums hg (keyA (fun σ0 hf0 h67 => ?_) 30 0 σ (by omega) (zfr_rf _ _) (fun i q1 q2 => by omega))
  generalize prc E x y = p at *
  generalize one1 x y = q at *
  have bl : ∀ s j v, bst p (ls p) s j = some v → v ≤ 396 * s := fun s => bst_le wp (fun r v hr h2 => ls_le' wp h2)
  have bq : ∀ s j v, bst q (ls q) s j = some v → v ≤ 396 * s := fun s => bst_le wq (fun r v hr h2 => ls_le' wq h2)
  have keyC : ∀ (s : Nat), 1 ≤ s → s ≤ 99 → (∀ σ1, zfr [66, 67, 68, 69] σ σ1 → (∀ i, 1 ≤ i → i ≤ 30 → σ1 67 i = on (p i)) → (∀ t, t < s + 1 → σ1 68 t = on (ls p t) ∧ σ1 69 t = on (ls q t)) → p_X8_sums_57 (d + 4) g K σ1 (nI (s + 1))) →
      ∀ (r n : Nat) (σ1 : zI), n + r = 30 → zfr [66, 67, 68, 69] σ σ1 → (∀ i, 1 ≤ i → i ≤ 30 → σ1 67 i = on (p i)) → (∀ t, t < s → σ1 68 t = on (ls p t) ∧ σ1 69 t = on (ls q t)) → σ1 68 s = on (bst p (ls p) s n) → σ1 69 s = on (bst q (ls q) s n) → p_X8_sums_80 (d + 4) g K σ1 (nI s) (nI (n + 1)) := by
    intro s h1s hs hk r
    induction r with
    | zero =>
      intro n σ1 hr hf h67 ht e8 e9
      have e : n = 30 := by omega
      subst e
      refine s_X8_sums_80 hg (i_le 31 31 rfl rfl (by omega) (by omega) (fun _ => ?_) (fun q => by omega))
      rw [nI_1]
      refine hk σ1 hf h67 (fun t tq => ?_)
      by_cases z : t = s
      · subst z; rw [e8, e9, ← ls_1 p h1s, ← ls_1 q h1s]; exact ⟨rfl, rfl⟩
      · exact ht t (by omega)
    | succ r ih =>
      intro n σ1 hr hf h67 ht e8 e9
      refine s_X8_sums_80 hg (i_le 31 (n + 1) rfl rfl (by omega) (by omega) (fun q => by omega) (fun _ => i_lt s (n + 1) rfl rfl (by omega) (by omega) (fun u => ?_) (fun u => ⟨v_in (by omega) (by omega), ?_⟩)))
      · rw [nI_1]
        refine hk σ1 hf h67 (fun t tq => ?_)
        by_cases z : t = s
        · subst z
          have a1 := bst_stop (p := p) (L := ls p) (s := t) (j := n) (by omega) (30 - n)
          have a2 := bst_stop (p := q) (L := ls q) (s := t) (j := n) (by omega) (30 - n)
          rw [show n + (30 - n) = 30 by omega] at a1 a2
          rw [e8, e9, ls_1 p h1s, ls_1 q h1s, a1, a2]; exact ⟨rfl, rfl⟩
        · exact ht t (by omega)
      · rw [c_nI (n := n + 1) (by omega), h67 (n + 1) (by omega) (by omega), pk_sub u, c_nI (n := s - (n + 1)) (by omega), c_nI (n := s) (by omega), (ht (s - (n + 1)) (by omega)).1]
        have eb : bst p (ls p) s (n + 1) = jn (bst p (ls p) s n) (p (n + 1)) (ls p (s - (n + 1))) := by
          show (if n + 1 ≤ s then jn (bst p (ls p) s n) (p (n + 1)) (ls p (s - (n + 1))) else bst p (ls p) s n) = _
          rw [if_pos u]
        have eq : bst q (ls q) s (n + 1) = jn (bst q (ls q) s n) (q (n + 1)) (ls q (s - (n + 1))) := by
          show (if n + 1 ≤ s then jn (bst q (ls q) s n) (q (n + 1)) (ls q (s - (n + 1))) else bst q (ls q) s n) = _
          rw [if_pos u]
        have nx : ∀ σ2, zfr [66, 67, 68, 69] σ σ2 → (∀ i, 1 ≤ i → i ≤ 30 → σ2 67 i = on (p i)) → (∀ t, t < s → σ2 68 t = on (ls p t) ∧ σ2 69 t = on (ls q t)) → σ2 68 s = on (bst p (ls p) s (n + 1)) → σ2 69 s = on (bst q (ls q) s (n + 1)) → p_X8_sums_80 (d + 4) g K σ2 (nI s) (nI (n + 1) + 1) := by
          intro σ2 f1 f2 f3 f4 f5
          rw [nI_1]
          exact ih (n + 1) σ2 (by omega) f1 f2 f3 f4 f5
        refine o_eq rfl (fun v hv => by have := wp _ _ hv; omega) (fun hw => ?_) (fun w hw => ⟨v_in (by omega) (by omega), o_eq rfl (fun v hv => by have := ls_le' wp hv; omega) (fun hr => ?_) (fun v hr => ⟨v_in (by omega) (by omega), ?_⟩)⟩)
        · refine nx σ1 hf h67 ht ?_ ?_
          · rw [eb, hw, jn_none]; exact e8
          · rw [eq, (hpq _).mp hw, jn_none]; exact e9
        · refine nx σ1 hf h67 ht ?_ ?_
          · rw [eb, hr, jn_none2]; exact e8
          · rw [eq, (ls_iff hpq _ _ (Nat.lt_succ_self _)).mp hr, jn_none2]; exact e9
        · have wl := wp _ _ hw
          have vl := ls_le' wp hr
          rw [hr, hw, show on (some v) = nI v from rfl, show on (some w) = nI w from rfl, nI_add, e8]
          rw [hw, hr] at eb
          obtain ⟨v9, hr9⟩ : ∃ v9, ls q (s - (n + 1)) = some v9 := by
            cases h : ls q (s - (n + 1)) with
            | none => rw [(ls_iff hpq _ _ (Nat.lt_succ_self _)).mpr h] at hr; simp at hr
            | some v9 => exact ⟨v9, rfl⟩
          obtain ⟨w9, hw9⟩ : ∃ w9, q (n + 1) = some w9 := by
            cases h : q (n + 1) with
            | none => rw [(hpq _).mpr h] at hw; simp at hw
            | some w9 => exact ⟨w9, rfl⟩
          have w91 := hq1 _ _ hw9
          subst w91
          have vl9 := ls_le' wq hr9
          rw [hr9, hw9] at eq
          have k179 : ∀ σ2, zfr [68] σ1 σ2 → (∀ t, t < s → σ2 68 t = σ1 68 t) → σ2 68 s = on (bst p (ls p) s (n + 1)) → p_X8_sums_179 (d + 4) g K σ2 (nI s) (nI (n + 1)) (nI (s - (n + 1))) := by
            intro σ2 hf2 hs2 e82
            have hf3 : zfr [66, 67, 68, 69] σ σ2 := zfr_tr hf (zfr_up hf2 (by decide))
            have g67 : ∀ i, 1 ≤ i → i ≤ 30 → σ2 67 i = on (p i) := by rw [hf2 67 (by decide)]; exact h67
            have g9 : σ2 69 = σ1 69 := hf2 69 (by decide)
            have g8 : ∀ t, t < s → σ2 68 t = on (ls p t) ∧ σ2 69 t = on (ls q t) := fun t q => by rw [hs2 t q, g9]; exact ht t q
            have put : ∀ z, z = on (bst q (ls q) s (n + 1)) → p_X8_sums_80 (d + 4) g K (zsI σ2 69 s z) (nI s) (nI (n + 1) + 1) := by
              intro z hz
              refine nx _ (zfr_put hf3 (by decide)) ?_ (fun t tq => ?_) ?_ ?_
              · rw [zsI_ne (by decide)]; exact g67
              · rw [zsI_ne (by decide), zsI_row]
                simp only [upd]
                rw [if_neg (by omega)]
                exact g8 t tq
              · rw [zsI_ne (by decide)]; exact e82
              · rw [zsI_row]
                rw [u_eq]; exact hz
            refine s_X8_sums_179 hg ⟨v_in (by omega) (by omega), ?_⟩
            rw [c_nI (n := s) (by omega), c_nI (n := s - (n + 1)) (by omega), g9, e9, (ht (s - (n + 1)) (by omega)).2, hr9, show on (some v9) = nI v9 from rfl, nI_1]
            refine o_eq rfl (fun v hv => by have := bq _ _ _ hv; omega) (fun hb => ⟨v_in (by omega) (by omega), v_in (by omega) (by omega), put _ ?_⟩) (fun b hb => ⟨v_in (by omega) (by omega), v_in (by omega) (by omega), ?_⟩)
            · rw [eq, hb]; rfl
            · have b1 := bq _ _ _ hb
              rw [hb] at eq ⊢
              have eq2 : bst q (ls q) s (n + 1) = if b ≤ v9 + 1 then some b else some (v9 + 1) := eq
              rw [show on (some b) = nI b from rfl]
              refine i_le b (v9 + 1) rfl rfl (by omega) (by omega) (fun z => ?_) (fun z => ⟨v_in (by omega) (by omega), v_in (by omega) (by omega), put _ ?_⟩)
              · refine nx σ2 hf3 g67 g8 e82 ?_
                rw [g9, e9, hb, eq2, if_pos z]
              · rw [eq2, if_neg (by omega)]; rfl
          have put8 : ∀ z, z = on (bst p (ls p) s (n + 1)) → p_X8_sums_179 (d + 4) g K (zsI σ1 68 s z) (nI s) (nI (n + 1)) (nI (s - (n + 1))) := by
            intro z hz
            refine k179 _ (zfr_I (by decide)) (fun t tq => ?_) ?_
            · rw [zsI_row]; simp only [upd]; rw [if_neg (by omega)]
            · rw [zsI_row]; rw [u_eq]; exact hz
          refine o_eq rfl (fun v hv => by have := bl _ _ _ hv; omega) (fun hb => ⟨v_in (by omega) (by omega), v_in (by omega) (by omega), v_in (by omega) (by omega), put8 _ ?_⟩) (fun b hb => ⟨v_in (by omega) (by omega), v_in (by omega) (by omega), v_in (by omega) (by omega), ?_⟩)
          · rw [eb, hb]; rfl
          · have b1 := bl _ _ _ hb
            rw [hb] at eb ⊢
            have eb2 : bst p (ls p) s (n + 1) = if b ≤ v + w then some b else some (v + w) := eb
            rw [show on (some b) = nI b from rfl]
            refine i_le b (v + w) rfl rfl (by omega) (by omega) (fun z => ?_) (fun z => ⟨v_in (by omega) (by omega), v_in (by omega) (by omega), v_in (by omega) (by omega), put8 _ ?_⟩)
            · refine k179 σ1 (zfr_rf _ _) (fun t q => rfl) ?_
              rw [e8, hb, eb2, if_pos z]
            · rw [eb2, if_neg (by omega)]; rfl
  have keyB : ∀ (r s : Nat) (σ1 : zI), s + r = 100 → 1 ≤ s → zfr [66, 67, 68, 69] σ σ1 → (∀ i, 1 ≤ i → i ≤ 30 → σ1 67 i = on (p i)) → (∀ t, t < s → σ1 68 t = on (ls p t) ∧ σ1 69 t = on (ls q t)) → p_X8_sums_57 (d + 4) g K σ1 (nI s) := by
    intro r
    induction r with
    | zero =>
      intro s σ1 hr h1s hf h67 ht
      exact s_X8_sums_57 hg (i_le 100 s rfl rfl (by omega) (by omega) (fun _ => h1 σ1 hf (fun t q => ht t (by omega))) (fun q => by omega))
    | succ r ih =>
      intro s σ1 hr h1s hf h67 ht
      refine s_X8_sums_57 hg (i_le 100 s rfl rfl (by omega) (by omega) (fun q => by omega) (fun _ => ⟨v_in (by omega) (by omega), v_in (by omega) (by omega), ?_⟩))
      rw [c_nI (n := s) (by omega)]
      refine keyC s h1s (by omega) (fun σ2 f1 f2 f3 => ih (s + 1) σ2 (by omega) (by omega) f1 f2 f3) 30 0 _ (by omega) (zfr_put (zfr_put hf (by decide)) (by decide)) ?_ (fun t tq => ?_) ?_ ?_
      · rw [zsI_ne (by decide), zsI_ne (by decide)]; exact h67
      · rw [zsI_ne (show 68 ≠ 69 by decide), zsI_row, zsI_row, zsI_ne (by decide)]
        simp only [upd]
        rw [if_neg (by omega), if_neg (by omega)]
        exact ht t tq
      · rw [zsI_ne (show 68 ≠ 69 by decide), zsI_row]; rw [u_eq]; rfl
      · rw [zsI_row]; rw [u_eq]; rfl
  refine keyB 99 1 σ0 (by omega) (by omega) (zfr_up hf0 (by decide)) h67 (fun t tq => ?_)
  have : t = 0 := by omega
  subst this
  rw [hf0 68 (by decide), hf0 69 (by decide), h68, h69]
  exact ⟨rfl, rfl⟩
end
