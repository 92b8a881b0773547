/-! leave: both sides -/
def lvS (f : Nat → Int32) (h i : Nat) : Nat → Int32
  | 0 => 0
  | j + 1 => if j = i ∨ j = h then lvS f h i j else lvS f h i j + f j
def lvW (E : zE) (fam : Nat → zH) (n h i : Nat) : Int32 := lvS (fun j => hq E (wOwn (fam i) ((fam i).2.2.2 ||| (fam h).2.2.2)) (prc E (wOwn (fam i) ((fam i).2.2.2 ||| (fam h).2.2.2)) (fam j)) 2) h i n
def lvB (w : Nat → Int32) (h : Nat) : Nat → Int32 × Int32
  | 0 => (-1, -1)
  | i + 1 => if i = h then lvB w h i else if (lvB w h i).1 = -1 then (nI i, w i) else if w i < (lvB w h i).2 then (nI i, w i) else lvB w h i
def aLv (E : zE) (fam : Nat → zH) (n : Nat) (h w : Int32) : Int32 := match hA n h with
  | none => -2
  | some k => if 0 ≤ w.toInt ∧ w.toInt ≤ 1 then (if w = 0 then (lvB (lvW E fam n k) k n).1 else (lvB (lvW E fam n k) k n).2) else -2
theorem aLv_0 {E : zE} {fam : Nat → zH} {n : Nat} {h w : Int32} (e : hA n h = none) : aLv E fam n h w = -2 := by
  unfold aLv
  rw [e]
theorem aLv_1 {E : zE} {fam : Nat → zH} {n : Nat} {h w : Int32} {k : Nat} (e : hA n h = some k) : aLv E fam n h w = if 0 ≤ w.toInt ∧ w.toInt ≤ 1 then (if w = 0 then (lvB (lvW E fam n k) k n).1 else (lvB (lvW E fam n k) k n).2) else -2 := by
  unfold aLv
  rw [e]
theorem lvS_y {f : Nat → Int32} {h i j : Nat} (c : j = i ∨ j = h) : lvS f h i (j + 1) = lvS f h i j := if_pos c
theorem lvS_n {f : Nat → Int32} {h i j : Nat} (c : ¬ (j = i ∨ j = h)) : lvS f h i (j + 1) = lvS f h i j + f j := if_neg c
theorem lvB_h {w : Nat → Int32} {h i : Nat} (c : i = h) : lvB w h (i + 1) = lvB w h i := if_pos c
theorem lvB_n {w : Nat → Int32} {h i : Nat} (c : ¬ i = h) : lvB w h (i + 1) = if (lvB w h i).1 = -1 then (nI i, w i) else if w i < (lvB w h i).2 then (nI i, w i) else lvB w h i := if_neg c
section
variable {d : Nat} {g : zG} {σ : zI} {K : Int32 → zI → Prop}
theorem cx_worthL (hg : zGA g) {E : zE} {T n h i : Nat} {fam : Nat → zH} (ht : xTx σ T E.1 E.2.1 E.2.2) (hF : xF σ n fam) (hh : h < n) (hi : i < n)
    (h1 : ∀ σ', zfr [20, 21, 26, 41] σ σ' → K (lvW E fam n h i) σ') : zCI mX7_worthOfLeaving (d + 6) [.ref 0, .ref (43 + h), .ref (43 + i)] g σ K := by
  have n6 := hF.1
  have hoh := (gr_family_n hg h (by omega)).2
  have hoi := (gr_family_n hg i (by omega)).2
  have hx := (hF.2.2 i hi).2
  have hxh := (hF.2.2 h hh).2
  refine s_X7_worthOfLeaving hg hoh hoi (cx_become hg (gA_41 hg) hoi (by omega) hx (fun σ0 hf0 hx0 => ?_))
  have eh : σ0 (43 + h) 3 = nI (fam h).2.2.2 := by rw [hf0 _ (by simp; omega)]; exact hxh.2.2.2.1
  have ei : σ0 (43 + i) 3 = nI (fam i).2.2.2 := by rw [hf0 _ (by simp; omega)]; exact hx.2.2.2.1
  rw [eh, ei, fa_or]
  have hlt : (fam i).2.2.2 ||| (fam h).2.2.2 < 1073741824 := or_lt30 hx.2.2.2.2.2.2.2 hxh.2.2.2.2.2.2.2
  have hx2 := xH_own (x := fam i) (o := (fam i).2.2.2) hx0 hlt
  have hf2 : zfr [20, 21, 26, 41] σ (zsI σ0 41 3 (nI ((fam i).2.2.2 ||| (fam h).2.2.2))) := zfr_put (zfr_up hf0 (by decide)) (by decide)
  unfold lvW at h1
  generalize hX : wOwn (fam i) ((fam i).2.2.2 ||| (fam h).2.2.2) = X at *
  have key : ∀ (r j : Nat) (σ1 : zI), j + r = n → zfr [20, 21, 26, 41] σ σ1 → xH σ1 41 X → p_X7_worthOfLeaving_35 (d + 5) g K σ1 (43 + h) (43 + i) (lvS (fun j => hq E X (prc E X (fam j)) 2) h i j) (nI j) := by
    intro r
    induction r with
    | zero =>
      intro j σ1 hr hf hx1
      have e : j = n := by omega
      subst e
      refine s_X7_worthOfLeaving_35 hg hoh hoi ?_
      rw [(xF_fr hF hf (by decide) (by intro i hi; simp; omega)).2.1]
      exact i_le j j rfl rfl (by omega) (by omega) (fun _ => h1 σ1 hf) (fun q => by omega)
    | succ r ih =>
      intro j σ1 hr hf hx1
      have hF1 := xF_fr hF hf (by decide) (by intro i hi; simp; omega)
      refine s_X7_worthOfLeaving_35 hg hoh hoi ?_
      rw [hF1.2.1, nI_1 j]
      refine i_le n j rfl rfl (by omega) (by omega) (fun q => by omega) (fun _ => cx_heirAt hg hF1 (fun y => ?_) (fun j2 y hj2 ej => ⟨(gr_family_n hg j2 (by omega)).2, ?_⟩))
      · rw [hA_nI (by omega) (by omega)] at y; cases y
      · rw [hA_nI (by omega) (by omega)] at y
        cases y
        refine t_n (fun c => ?_) (fun c => t_n (fun c2 => ?_) (fun c2 => ?_))
        · have nx := ih (j + 1) σ1 (by omega) hf hx1
          rw [lvS_y (Or.inl (by omega))] at nx
          exact nx
        · have nx := ih (j + 1) σ1 (by omega) hf hx1
          rw [lvS_y (Or.inr (by omega))] at nx
          exact nx
        · refine cx_hindered (d := d) (w := 2) hg (xTx_fr ht hf (by decide) (by decide)) (gA_41 hg) (gr_family_n hg j (by omega)).2 hx1 (hF1.2.2 j (by omega)).2 (prc_some E X (fam j)) (by omega) (fun σ2 hf3 => ?_)
          have nx := ih (j + 1) σ2 (by omega) (zfr_tr hf (zfr_up hf3 (by decide))) (xHr_fr hx1 hf3 (by decide))
          rw [lvS_n (by omega)] at nx
          exact nx
  exact key n 0 _ (by omega) hf2 hx2
theorem cx_leave (hg : zGA g) {E : zE} {T n : Nat} {fam : Nat → zH} (ht : xTx σ T E.1 E.2.1 E.2.2) (hF : xF σ n fam) {h w : Int32}
    (h1 : ∀ σ', zfr [20, 21, 26, 41] σ σ' → K (aLv E fam n h w) σ') : zCI mX7_leave (d + 7) [.ref 0, .int h, .int w] g σ K := by
  have n6 := hF.1
  have e0 : (0 : Int32).toInt = 0 := rfl
  have e1 : (1 : Int32).toInt = 1 := rfl
  refine s_X7_leave hg (cx_heirAt hg hF (fun q => ?_) (fun k q hk hh => ?_))
  · have := h1 σ (zfr_rf _ _)
    rw [aLv_0 q] at this
    exact this
  · rw [aLv_1 q] at h1
    subst hh
    have hok := (gr_family_n hg k (by omega)).2
    have bad : ¬ (0 ≤ w.toInt ∧ w.toInt ≤ 1) → K (-2) σ := fun u => by
      have := h1 σ (zfr_rf _ _)
      rw [if_neg u] at this
      exact this
    refine ⟨hok, t_lt (fun u => bad (by omega)) (fun u => t_le (fun u2 => ?_) (fun u2 => bad (by omega)))⟩
    rw [if_pos ⟨by omega, by omega⟩] at h1
    have key : ∀ (r i : Nat) (σ1 : zI), i + r = n → zfr [20, 21, 26, 41] σ σ1 → p_X7_leave_31 (d + 6) g K σ1 (nI k) w (43 + k) (lvB (lvW E fam n k) k i).1 (lvB (lvW E fam n k) k i).2 (nI i) := by
      intro r
      induction r with
      | zero =>
        intro i σ1 hr hf
        have e : i = n := by omega
        subst e
        refine s_X7_leave_31 hg hok ?_
        rw [(xF_fr hF hf (by decide) (by intro i hi; simp; omega)).2.1]
        have hK := h1 σ1 hf
        refine i_le i i rfl rfl (by omega) (by omega) (fun _ => t_eq (fun z => ?_) (fun z => ?_)) (fun q => by omega)
        · rw [if_pos z] at hK; exact hK
        · rw [if_neg z] at hK; exact hK
      | succ r ih =>
        intro i σ1 hr hf
        have hF1 := xF_fr hF hf (by decide) (by intro i hi; simp; omega)
        refine s_X7_leave_31 hg hok ?_
        rw [hF1.2.1, nI_1 i]
        refine i_le n i rfl rfl (by omega) (by omega) (fun q => by omega) (fun _ => i_eq i k rfl rfl (by omega) (by omega) (fun c => ?_) (fun c => cx_heirAt hg hF1 (fun y => ?_) (fun i2 y hi2 ei => ⟨(gr_family_n hg i2 (by omega)).2, ?_⟩)))
        · have nx := ih (i + 1) σ1 (by omega) hf
          rw [lvB_h c] at nx
          exact nx
        · rw [hA_nI (by omega) (by omega)] at y; cases y
        · rw [hA_nI (by omega) (by omega)] at y
          cases y
          refine cx_worthL (d := d) hg (xTx_fr ht hf (by decide) (by decide)) hF1 hk (by omega) (fun σ2 hf2 => ?_)
          have nx := ih (i + 1) σ2 (by omega) (zfr_tr hf hf2)
          rw [lvB_n c] at nx
          refine t_eq (fun z => ?_) (fun z => t_le (fun z2 => ?_) (fun z2 => ?_))
          · rw [if_pos z] at nx; exact nx
          · rw [if_neg z, if_neg (nlt_le z2)] at nx; exact nx
          · rw [if_neg z, if_pos (Int32.lt_iff_toInt_lt.mpr z2)] at nx; exact nx
    exact key n 0 σ (by omega) (zfr_rf _ _)
theorem cm_leave (hg : zGA g) {E : zE} {T n : Nat} {fam : Nat → zH} (ht : mTx σ T E.1 E.2.1 E.2.2) (hF : mF σ n fam) (h68 : σ 68 0 = 0) (h69 : σ 69 0 = 0) {h w : Int32}
    (h1 : ∀ σ', zfr [66, 67, 68, 69] σ σ' → σ' 68 0 = 0 → σ' 69 0 = 0 → K (aLv E fam n h w) σ') : zCI mX8_leave (d + 7) [.ref 57, .int h, .int w] g σ K := by
  have n6 := hF.1
  have e0 : (0 : Int32).toInt = 0 := rfl
  have e1 : (1 : Int32).toInt = 1 := rfl
  refine s_X8_leave hg (cm_isHeir (d := d + 5) hg hF (fun q => z0 ?_) (fun k q hk hh => z1 ?_))
  · have := h1 σ (zfr_rf _ _) h68 h69
    rw [aLv_0 q] at this
    exact this
  · rw [aLv_1 q] at h1
    subst hh
    have bad : ¬ (0 ≤ w.toInt ∧ w.toInt ≤ 1) → K (-2) σ := fun u => by
      have := h1 σ (zfr_rf _ _) h68 h69
      rw [if_neg u] at this
      exact this
    refine cm_within hg (fun u => z0 (bad (by omega))) (fun u u2 => z1 ⟨v_in (by omega) (by omega), ?_⟩)
    rw [if_pos ⟨by omega, by omega⟩] at h1
    have own : ∀ i, i < n → σ 60 i = nI (fam i).2.2.2 := fun i hi => by
      have := (hF.2.2 i hi).2.2.2.2.1
      rw [(hF.2.2 i hi).1] at this
      exact this
    rw [c_nI (n := k) (by omega), own k hk]
    have key : ∀ (r i : Nat) (σ1 : zI), i + r = n → zfr [66, 67, 68, 69] σ σ1 → σ1 68 0 = 0 → σ1 69 0 = 0 → p_X8_leave_36 (d + 6) g K σ1 (nI k) w (nI (fam k).2.2.2) (lvB (lvW E fam n k) k i).1 (lvB (lvW E fam n k) k i).2 (nI i) := by
      intro r
      induction r with
      | zero =>
        intro i σ1 hr hf z8 z9
        have e : i = n := by omega
        subst e
        refine s_X8_leave_36 hg ?_
        rw [(mF_fr hF hf (by decide)).2.1]
        have hK := h1 σ1 hf z8 z9
        refine i_le i i rfl rfl (by omega) (by omega) (fun _ => t_eq (fun z => ?_) (fun z => ?_)) (fun q => by omega)
        · rw [if_pos z] at hK; exact hK
        · rw [if_neg z] at hK; exact hK
      | succ r ih =>
        intro i σ1 hr hf z8 z9
        have hF1 := mF_fr hF hf (by decide)
        refine s_X8_leave_36 hg ?_
        rw [hF1.2.1, nI_1 i]
        refine i_le n i rfl rfl (by omega) (by omega) (fun q => by omega) (fun _ => i_eq i k rfl rfl (by omega) (by omega) (fun c => ?_) (fun c => ⟨v_in (by omega) (by omega), v_in (by omega) (by omega), v_in (by omega) (by omega), v_in (by omega) (by omega), ?_⟩))
        · have nx := ih (i + 1) σ1 (by omega) hf z8 z9
          rw [lvB_h c] at nx
          exact nx
        · have o1 : σ1 60 i = nI (fam i).2.2.2 := by rw [hf 60 (by decide)]; exact own i (by omega)
          rw [c_nI (n := i) (by omega), c_nI (n := k) (by omega), o1, fa_or]
          obtain ⟨xi, hx⟩ := hF.2.2 i (by omega)
          have hlt : (fam i).2.2.2 ||| (fam k).2.2.2 < 1073741824 := or_lt30 hx.2.2.2.2.2.2 (hF.2.2 k hk).2.2.2.2.2.2.2
          have nx : ∀ σ2, zfr [66, 67, 68, 69] σ σ2 → σ2 68 0 = 0 → σ2 69 0 = 0 → p_X8_leave_36 (d + 6) g K σ2 (nI k) w (nI (fam k).2.2.2) (lvB (lvW E fam n k) k (i + 1)).1 (lvB (lvW E fam n k) k (i + 1)).2 (nI (i + 1)) := fun σ2 a1 a2 a3 => ih (i + 1) σ2 (by omega) a1 a2 a3
          rw [lvB_n c] at nx
          have ew : lvW E fam n k i = lvS (fun j => hq E (wOwn (fam i) ((fam i).2.2.2 ||| (fam k).2.2.2)) (prc E (wOwn (fam i) ((fam i).2.2.2 ||| (fam k).2.2.2)) (fam j)) 2) k i n := rfl
          generalize hX : wOwn (fam i) ((fam i).2.2.2 ||| (fam k).2.2.2) = X at *
          generalize hO : (fam i).2.2.2 ||| (fam k).2.2.2 = O at *
          have key2 : ∀ (r j : Nat) (σ2 : zI), j + r = n → zfr [60, 66, 67, 68, 69] σ σ2 → σ2 60 i = nI O → (∀ u, u ≠ i → u ≠ k → σ2 60 u = σ 60 u) → σ2 68 0 = 0 → σ2 69 0 = 0 → p_X8_leave_87 (d + 6) g K σ2 (nI k) w (nI (fam k).2.2.2) (lvB (lvW E fam n k) k i).1 (lvB (lvW E fam n k) k i).2 (nI i) (nI (fam i).2.2.2) (lvS (fun j => hq E X (prc E X (fam j)) 2) k i j) (nI j) := by
            intro r
            induction r with
            | zero =>
              intro j σ2 hr hf2 hO2 hu y8 y9
              have e : j = n := by omega
              subst e
              refine s_X8_leave_87 hg ?_
              rw [hf2 57 (by decide), hF.2.1, nI_1 i, c_nI (n := i) (by omega), c_nI (n := k) (by omega), ← ew]
              have bk : zfr [66, 67, 68, 69] σ (zsI (zsI σ2 60 i (nI (fam i).2.2.2)) 60 k (nI (fam k).2.2.2)) := by
                refine put_back (zfr_put hf2 (by decide)) (fun u hu2 => ?_) (own k hk)
                by_cases e : u = i
                · subst e; rw [zsI_at]; exact (own u (by omega)).symm
                · rw [zsI_no (Or.inr e)]; exact hu u e hu2
              have nx := nx _ bk (by rw [zsI_ne (by decide), zsI_ne (by decide)]; exact y8) (by rw [zsI_ne (by decide), zsI_ne (by decide)]; exact y9)
              refine i_le j j rfl rfl (by omega) (by omega) (fun _ => ⟨v_in (by omega) (by omega), v_in (by omega) (by omega), t_eq (fun z => ?_) (fun z => t_lt (fun z2 => ?_) (fun z2 => ?_))⟩) (fun q => by omega)
              · rw [if_pos z] at nx; exact nx
              · rw [if_neg z, if_pos (Int32.lt_iff_toInt_lt.mpr z2)] at nx; exact nx
              · rw [if_neg z, if_neg (nlt_le z2)] at nx; exact nx
            | succ r ih2 =>
              intro j σ2 hr hf2 hO2 hu y8 y9
              refine s_X8_leave_87 hg ?_
              rw [hf2 57 (by decide), hF.2.1, nI_1 j]
              refine i_le n j rfl rfl (by omega) (by omega) (fun q => by omega) (fun _ => i_eq j i rfl rfl (by omega) (by omega) (fun c1 => ?_) (fun c1 => i_eq j k rfl rfl (by omega) (by omega) (fun c2 => ?_) (fun c2 => ?_)))
              · have nx2 := ih2 (j + 1) σ2 (by omega) hf2 hO2 hu y8 y9
                rw [lvS_y (Or.inl c1)] at nx2
                exact nx2
              · have nx2 := ih2 (j + 1) σ2 (by omega) hf2 hO2 hu y8 y9
                rw [lvS_y (Or.inr c2)] at nx2
                exact nx2
              · obtain ⟨yj, hy⟩ := hF.2.2 j (by omega)
                have hX2 : mH σ2 X := by rw [← hX]; exact own_set hx xi (hf2 58 (by decide)) (hf2 59 (by decide)) hlt hO2
                have hX1 : X.1 = i := by rw [← hX]; exact xi
                refine cm_barredOf' (d := d) (w := 2) hg hX1 yj (mTx_fr ht hf2 (by decide)) hX2 (mH_same hy (congrFun (hf2 58 (by decide)) _) (congrFun (hf2 59 (by decide)) _) (by rw [yj]; exact hu j c1 c2)) y8 y9 (by omega) (fun σ3 hf3 w8 w9 => ?_)
                have nx2 := ih2 (j + 1) σ3 (by omega) (zfr_tr hf2 (zfr_up hf3 (by decide))) (by rw [hf3 60 (by decide)]; exact hO2) (fun u a1 a2 => by rw [hf3 60 (by decide)]; exact hu u a1 a2) w8 w9
                rw [lvS_n (by omega)] at nx2
                exact nx2
          refine key2 n 0 _ (by omega) (zfr_put (zfr_put (zfr_up hf (by decide)) (by decide)) (by decide)) ?_ (fun u a1 a2 => ?_) ?_ ?_
          · rw [zsI_no (Or.inr c), zsI_at]
          · rw [zsI_no (Or.inr a2), zsI_no (Or.inr a1), hf 60 (by decide)]
          · rw [zsI_ne (by decide), zsI_ne (by decide)]; exact z8
          · rw [zsI_ne (by decide), zsI_ne (by decide)]; exact z9
    exact key n 0 σ (by omega) (zfr_rf _ _) h68 h69
end
