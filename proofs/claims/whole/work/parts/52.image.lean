/-! image, back: both sides -/
abbrev zIm := Option (Nat × Nat × Nat × (Nat → Nat × Nat))
def xIm (σ : zI) (I : zIm) : Prop := match I with
  | none => σ 38 0 = -1
  | some (n0, y0, r0, mo) => σ 38 0 = nI n0 ∧ σ 38 1 = nI y0 ∧ σ 38 2 = nI r0 ∧ ∀ i, i < n0 → σ 39 i = nI (mo i).1 ∧ σ 40 i = nI (mo i).2
def mIm (σ : zI) (I : zIm) : Prop := match I with
  | none => σ 57 32 = 0
  | some (n0, y0, r0, mo) => σ 57 32 = 1 ∧ σ 57 33 = nI n0 ∧ σ 74 12 = nI y0 ∧ σ 74 13 = nI r0 ∧ ∀ i, i < n0 → σ 74 i = nI (mo i).1 ∧ σ 74 (6 + i) = nI (mo i).2
def okI (I : zIm) (n T : Nat) : Prop := match I with
  | none => True
  | some (n0, y0, r0, mo) => n0 ≤ n ∧ y0 ≤ 99 ∧ r0 < T ∧ ∀ i, i < n0 → (mo i).1 ≤ 9 ∧ (mo i).2 < 1073741824
def imgI (n dy R : Nat) (fam : Nat → zH) : zIm := some (n, dy, R, fun i => ((fam i).2.2.1, (fam i).2.2.2))
def bckF (fam : Nat → zH) (mo : Nat → Nat × Nat) : Nat → zH := fun i => ((fam i).1, (fam i).2.1, (mo i).1, (mo i).2)
theorem xIm_fr {σ σ1 : zI} {I : zIm} {l : List Nat} (h : xIm σ I) (hf : zfr l σ σ1) (hl : 38 ∉ l ∧ 39 ∉ l ∧ 40 ∉ l) : xIm σ1 I := by
  unfold xIm at h ⊢
  rw [hf _ hl.1, hf _ hl.2.1, hf _ hl.2.2]
  exact h
theorem mIm_fr {σ σ1 : zI} {I : zIm} (h : mIm σ I) (h1 : σ1 57 32 = σ 57 32) (h2 : σ1 57 33 = σ 57 33) (h3 : σ1 74 = σ 74) : mIm σ1 I := by
  unfold mIm at h ⊢
  rw [h1, h2, h3]
  exact h
section
variable {d : Nat} {g : zG} {σ : zI} {K : Int32 → zI → Prop}
theorem cx_image (hg : zGA g) {n dy R T : Nat} {fam : Nat → zH} {P : Nat → Nat → List Nat} (hF : xF σ n fam) (ht : xTx σ T R dy P) (h1 : ∀ σ', zfr [38, 39, 40] σ σ' → xIm σ' (imgI n dy R fam) → K (nI n) σ') : zCI mX7_image d [.ref 0] g σ K := by
  have n6 := hF.1
  have e7 := ht.2.2.2.1
  have e6 := ht.2.2.2.2.1
  refine s_X7_image hg ?_
  rw [e7, e6, hF.2.1]
  have key : ∀ (r i : Nat) (σ1 : zI), i + r = n → zfr [38, 39, 40] σ σ1 → (σ1 38 0 = nI n ∧ σ1 38 1 = nI dy ∧ σ1 38 2 = nI R) → (∀ u, u < i → σ1 39 u = nI (fam u).2.2.1 ∧ σ1 40 u = nI (fam u).2.2.2) → p_X7_image_41 d g K σ1 (nI i) := by
    intro r
    induction r with
    | zero =>
      intro i σ1 hr hf h3 hv
      have e : i = n := by omega
      subst e
      refine s_X7_image_41 hg ?_
      rw [hf 0 (by decide), hF.2.1]
      exact i_le i i rfl rfl (by omega) (by omega) (fun _ => h1 σ1 hf ⟨h3.1, h3.2.1, h3.2.2, hv⟩) (fun q => by omega)
    | succ r ih =>
      intro i σ1 hr hf h3 hv
      refine s_X7_image_41 hg ?_
      have hx := (hF.2.2 i (by omega)).2
      have f1 := hf (43 + i) (by simp; omega)
      rw [hf 0 (by decide), hF.2.1]
      refine i_le n i rfl rfl (by omega) (by omega) (fun q => by omega) (fun _ => i_le 6 i rfl rfl (by omega) (by omega) (fun q => by omega) (fun _ => ⟨v_in (by omega) (by omega), v_in (by omega) (by omega), v_in (by omega) (by omega), v_in (by omega) (by omega), ?_⟩))
      rw [c_nI (n := i) (by omega), nI_1 i, zsI_no (by omega), f1, hx.2.2.1, hx.2.2.2.1]
      refine ih (i + 1) _ (by omega) (zfr_put (zfr_put hf (by decide)) (by decide)) ?_ (fun u hu => ?_)
      · rw [zsI_no (by omega), zsI_no (by omega), zsI_no (by omega), zsI_no (by omega), zsI_no (by omega), zsI_no (by omega)]
        exact h3
      · by_cases e : u = i
        · subst e
          rw [zsI_at, zsI_no (by omega), zsI_at]
          exact ⟨rfl, rfl⟩
        · rw [zsI_no (by omega), zsI_no (by omega), zsI_no (by omega), zsI_no (by omega)]
          exact hv u (by omega)
  refine key n 0 _ (by omega) (zfr_put (zfr_put (zfr_put (zfr_rf _ _) (by decide)) (by decide)) (by decide)) ⟨zsI_at, ?_, ?_⟩ (fun u hu => by omega)
  · rw [zsI_no (by omega), zsI_no (by omega), zsI_at]
  · rw [zsI_no (by omega), zsI_at]
theorem cm_image (hg : zGA g) {n dy R T : Nat} {fam : Nat → zH} {P : Nat → Nat → List Nat} (hF : mF σ n fam) (ht : mTx σ T R dy P) (h1 : ∀ σ', zfr [57, 74] σ σ' → (∀ j, j ≠ 32 → j ≠ 33 → σ' 57 j = σ 57 j) → mIm σ' (imgI n dy R fam) → K (nI n) σ') : zCI mX8_image d [.ref 57] g σ K := by
  have n6 := hF.1
  have e7 := ht.2.2.2.1
  have e6 := ht.2.2.2.2.1
  refine s_X8_image hg ?_
  rw [hF.2.1]
  have key : ∀ (r i : Nat) (σ1 : zI), i + r = 6 → zfr [57, 74] σ σ1 → (∀ j, j ≠ 32 → j ≠ 33 → σ1 57 j = σ 57 j) → (σ1 57 32 = 1 ∧ σ1 57 33 = nI n) → (∀ u, u < i → u < n → σ1 74 u = nI (fam u).2.2.1 ∧ σ1 74 (6 + u) = nI (fam u).2.2.2) → p_X8_image_15 d g K σ1 (nI i) := by
    intro r
    induction r with
    | zero =>
      intro i σ1 hr hf h57 h3 hv
      have e : i = 6 := by omega
      subst e
      refine s_X8_image_15 hg ?_
      refine i_le 6 6 rfl rfl (by omega) (by omega) (fun _ => ?_) (fun q => by omega)
      rw [h57 1 (by omega) (by omega), hF.2.1, h57 0 (by omega) (by omega), e7, h57 5 (by omega) (by omega), e6]
      refine h1 _ (zfr_put (zfr_put hf (by decide)) (by decide)) (fun j a b => ?_) ⟨?_, ?_, ?_, zsI_at, fun u hu => ?_⟩
      · rw [zsI_no (by omega), zsI_no (by omega)]; exact h57 j a b
      · rw [zsI_no (by omega), zsI_no (by omega)]; exact h3.1
      · rw [zsI_no (by omega), zsI_no (by omega)]; exact h3.2
      · rw [zsI_no (by omega), zsI_at]
      · rw [zsI_no (by omega), zsI_no (by omega), zsI_no (by omega), zsI_no (by omega)]
        exact hv u (by omega) hu
    | succ r ih =>
      intro i σ1 hr hf h57 h3 hv
      refine s_X8_image_15 hg (i_le 6 i rfl rfl (by omega) (by omega) (fun q => by omega) (fun _ => ?_))
      rw [show (6 : Int32) + nI i = nI (6 + i) from nI_add 6 i, c_nI (n := i) (by omega), c_nI (n := 6 + i) (by omega), nI_1 i, hf 59 (by decide), hf 60 (by decide)]
      refine ⟨v_in (by omega) (by omega), v_in (by omega) (by omega), v_in (by omega) (by omega), v_in (by omega) (by omega), ih (i + 1) _ (by omega) (zfr_put (zfr_put hf (by decide)) (by decide)) (fun j a b => ?_) ?_ (fun u hu hn => ?_)⟩
      · rw [zsI_no (by omega), zsI_no (by omega)]; exact h57 j a b
      · rw [zsI_no (by omega), zsI_no (by omega), zsI_no (by omega), zsI_no (by omega)]; exact h3
      · by_cases e : u = i
        · subst e
          have x1 := (hF.2.2 u hn).1
          have hx : mHr σ (fam u).1 (fam u).2.1 (fam u).2.2.1 (fam u).2.2.2 := (hF.2.2 u hn).2
          rw [x1] at hx
          rw [zsI_at, zsI_no (by omega), zsI_at, hx.2.2.1, hx.2.2.2.1]
          exact ⟨rfl, rfl⟩
        · rw [zsI_no (by omega), zsI_no (by omega), zsI_no (by omega), zsI_no (by omega)]
          exact hv u (by omega) hn
  refine key 6 0 _ (by omega) (zfr_put (zfr_put (zfr_rf _ _) (by decide)) (by decide)) (fun j a b => ?_) ⟨?_, zsI_at⟩ (fun u hu => by omega)
  · rw [zsI_no (by omega), zsI_no (by omega)]
  · rw [zsI_no (by omega), zsI_at]
theorem cx_back (hg : zGA g) {n dy R T : Nat} {fam : Nat → zH} {P : Nat → Nat → List Nat} {I : zIm} (hF : xF σ n fam) (ht : xTx σ T R dy P) (hI : xIm σ I) (ok : okI I n T) (h0 : I = none → K (-3) σ)
    (h1 : ∀ n0 y0 r0 mo, I = some (n0, y0, r0, mo) → ∀ σ', zfr [0, 3, 43, 44, 45, 46, 47, 48] σ σ' → xF σ' n0 (bckF fam mo) → xTx σ' T r0 y0 P → K (nI n0) σ') : zCI mX7_back d [.ref 0] g σ K := by
  have n6 := hF.1
  refine s_X7_back hg ?_
  cases I with
  | none =>
    have hI : σ 38 0 = -1 := hI
    rw [hI, if_pos rfl]
    exact h0 rfl
  | some v =>
    obtain ⟨n0, y0, r0, mo⟩ := v
    have hI : σ 38 0 = nI n0 ∧ σ 38 1 = nI y0 ∧ σ 38 2 = nI r0 ∧ ∀ i, i < n0 → σ 39 i = nI (mo i).1 ∧ σ 40 i = nI (mo i).2 := hI
    have ok : n0 ≤ n ∧ y0 ≤ 99 ∧ r0 < T ∧ ∀ i, i < n0 → (mo i).1 ≤ 9 ∧ (mo i).2 < 1073741824 := ok
    obtain ⟨i1, i2, i3, i4⟩ := hI
    obtain ⟨o1, o2, o3, o4⟩ := ok
    rw [i2, i3, i1, if_neg (fun u => by have := congrArg Int32.toInt u; rw [nI_toInt' (by omega)] at this; have e : (-1 : Int32).toInt = -1 := rfl; omega)]
    have key : ∀ (r i : Nat) (σ1 : zI), i + r = n0 → zfr [0, 3, 43, 44, 45, 46, 47, 48] σ σ1 → σ1 0 8 = nI n0 → σ1 3 7 = nI y0 → σ1 3 6 = nI r0 → (∀ j, j ≠ 6 → j ≠ 7 → σ1 3 j = σ 3 j) → (∀ u, u < n0 → σ1 (43 + u) 0 = σ (43 + u) 0 ∧ σ1 (43 + u) 1 = σ (43 + u) 1) → (∀ u, u < i → σ1 (43 + u) 2 = nI (mo u).1 ∧ σ1 (43 + u) 3 = nI (mo u).2) → p_X7_back_55 d g K σ1 (nI i) := by
      intro r
      induction r with
      | zero =>
        intro i σ1 hr hf h8 h7 h6 hj hk hv
        have e : i = n0 := by omega
        subst e
        refine s_X7_back_55 hg ?_
        rw [h8]
        refine i_le i i rfl rfl (by omega) (by omega) (fun _ => h1 i y0 r0 mo rfl σ1 hf ⟨by omega, h8, fun u hu => ⟨(hF.2.2 u (by omega)).1, ?_⟩⟩ ?_) (fun q => by omega)
        · obtain ⟨p0, p1, p2, p3, p4, p5, p6, p7⟩ := (hF.2.2 u (by omega)).2
          exact ⟨(hk u hu).1.trans p0, (hk u hu).2.trans p1, (hv u hu).1, (hv u hu).2, p4, p5, (o4 u hu).1, (o4 u hu).2⟩
        · obtain ⟨p0, p1, p2, p3, p4, p5, p6⟩ := ht
          refine ⟨p0, o3, o2, h7, h6, by rw [hj 5 (by omega) (by omega)]; exact p5, fun t ht q hq => ?_⟩
          obtain ⟨a1, s, a2, a3, a4, a5⟩ := p6 t ht q hq
          have f1 := hf (14 + t) (by simp; omega)
          have f2 := hf (7 + t) (by simp; omega)
          exact ⟨a1, s, by rw [f1]; exact a2, a3, fun i c hc => by rw [f2]; exact a4 i c hc, by rw [f2]; exact a5⟩
      | succ r ih =>
        intro i σ1 hr hf h8 h7 h6 hj hk hv
        refine s_X7_back_55 hg ?_
        rw [h8]
        refine i_le n0 i rfl rfl (by omega) (by omega) (fun q => by omega) (fun _ => i_le 6 i rfl rfl (by omega) (by omega) (fun q => by omega) (fun _ => ⟨v_in (by omega) (by omega), v_in (by omega) (by omega), v_in (by omega) (by omega), v_in (by omega) (by omega), ?_⟩))
        rw [c_nI (n := i) (by omega), nI_1 i, zsI_no (by omega), hf 39 (by decide), hf 40 (by decide), (i4 i (by omega)).1, (i4 i (by omega)).2]
        have mem : 43 + i ∈ [0, 3, 43, 44, 45, 46, 47, 48] := by simp; omega
        refine ih (i + 1) _ (by omega) (zfr_put (zfr_put hf mem) mem) ?_ ?_ ?_ (fun j a b => ?_) (fun u hu => ?_) (fun u hu => ?_)
        · rw [zsI_no (by omega), zsI_no (by omega)]; exact h8
        · rw [zsI_no (by omega), zsI_no (by omega)]; exact h7
        · rw [zsI_no (by omega), zsI_no (by omega)]; exact h6
        · rw [zsI_no (by omega), zsI_no (by omega)]; exact hj j a b
        · rw [zsI_no (by omega), zsI_no (by omega), zsI_no (by omega), zsI_no (by omega)]; exact hk u hu
        · by_cases e : u = i
          · subst e
            rw [zsI_at, zsI_no (by omega), zsI_at]
            exact ⟨rfl, rfl⟩
          · rw [zsI_no (by omega), zsI_no (by omega), zsI_no (by omega), zsI_no (by omega)]
            exact hv u (by omega)
    refine key n0 0 _ (by omega) (zfr_put (zfr_put (zfr_put (zfr_rf _ _) (by decide)) (by decide)) (by decide)) zsI_at ?_ ?_ (fun j a b => ?_) (fun u hu => ?_) (fun u hu => by omega)
    · rw [zsI_no (by omega), zsI_no (by omega), zsI_at]
    · rw [zsI_no (by omega), zsI_at]
    · rw [zsI_no (by omega), zsI_no (by omega), zsI_no (by omega)]
    · rw [zsI_no (by omega), zsI_no (by omega), zsI_no (by omega), zsI_no (by omega), zsI_no (by omega), zsI_no (by omega)]
      exact ⟨rfl, rfl⟩
theorem cm_back (hg : zGA g) {n dy R T : Nat} {fam : Nat → zH} {P : Nat → Nat → List Nat} {I : zIm} (hF : mF σ n fam) (ht : mTx σ T R dy P) (hI : mIm σ I) (ok : okI I n T) (h0 : I = none → K (-3) σ)
    (h1 : ∀ n0 y0 r0 mo, I = some (n0, y0, r0, mo) → ∀ σ', zfr [57, 59, 60] σ σ' → (∀ j, j ≠ 0 → j ≠ 1 → j ≠ 5 → σ' 57 j = σ 57 j) → mF σ' n0 (bckF fam mo) → mTx σ' T r0 y0 P → K (nI n0) σ') : zCI mX8_back d [.ref 57] g σ K := by
  have n6 := hF.1
  refine s_X8_back hg ?_
  cases I with
  | none =>
    have hI : σ 57 32 = 0 := hI
    rw [hI, if_pos rfl]
    exact h0 rfl
  | some v =>
    obtain ⟨n0, y0, r0, mo⟩ := v
    have hI : σ 57 32 = 1 ∧ σ 57 33 = nI n0 ∧ σ 74 12 = nI y0 ∧ σ 74 13 = nI r0 ∧ ∀ i, i < n0 → σ 74 i = nI (mo i).1 ∧ σ 74 (6 + i) = nI (mo i).2 := hI
    have ok : n0 ≤ n ∧ y0 ≤ 99 ∧ r0 < T ∧ ∀ i, i < n0 → (mo i).1 ≤ 9 ∧ (mo i).2 < 1073741824 := ok
    obtain ⟨i0, i1, i2, i3, i4⟩ := hI
    obtain ⟨o1, o2, o3, o4⟩ := ok
    rw [i0, i1, if_neg (by decide)]
    have key : ∀ (r i : Nat) (σ1 : zI), i + r = 6 → zfr [57, 59, 60] σ σ1 → σ1 57 1 = nI n0 → (∀ j, j ≠ 0 → j ≠ 1 → j ≠ 5 → σ1 57 j = σ 57 j) → (∀ u, u < i → u < n0 → σ1 59 u = nI (mo u).1 ∧ σ1 60 u = nI (mo u).2) → p_X8_back_20 d g K σ1 (nI i) := by
      intro r
      induction r with
      | zero =>
        intro i σ1 hr hf h8 hj hv
        have e : i = 6 := by omega
        subst e
        refine s_X8_back_20 hg (i_le 6 6 rfl rfl (by omega) (by omega) (fun _ => ?_) (fun q => by omega))
        rw [h8, hf 74 (by decide), i2, i3]
        refine h1 n0 y0 r0 mo rfl _ (zfr_put (zfr_put hf (by decide)) (by decide)) (fun j a b c => ?_) ⟨by omega, ?_, fun u hu => ⟨(hF.2.2 u (by omega)).1, ?_⟩⟩ ?_
        · rw [zsI_no (by omega), zsI_no (by omega)]; exact hj j a b c
        · rw [zsI_no (by omega), zsI_no (by omega)]; exact h8
        · have x1 := (hF.2.2 u (by omega)).1
          have hx : mHr σ (fam u).1 (fam u).2.1 (fam u).2.2.1 (fam u).2.2.2 := (hF.2.2 u (by omega)).2
          show mHr _ (fam u).1 (fam u).2.1 (mo u).1 (mo u).2
          rw [x1] at hx ⊢
          obtain ⟨p0, p1, p2, p3, p4, p5, p6⟩ := hx
          refine ⟨p0, ?_, ?_, ?_, p4, (o4 u hu).1, (o4 u hu).2⟩
          · rw [zsI_no (by omega), zsI_no (by omega), hf 58 (by decide)]; exact p1
          · rw [zsI_no (by omega), zsI_no (by omega)]; exact (hv u (by omega) hu).1
          · rw [zsI_no (by omega), zsI_no (by omega)]; exact (hv u (by omega) hu).2
        · obtain ⟨p0, p1, p2, p3, p4, p5, p6⟩ := ht
          refine ⟨p0, o3, o2, ?_, zsI_at, ?_, fun t ht q hq => ?_⟩
          · rw [zsI_no (by omega), zsI_at]
          · rw [zsI_no (by omega), zsI_no (by omega), hj 8 (by omega) (by omega) (by omega)]; exact p5
          · obtain ⟨a1, b, a2, a3, a4, a5⟩ := p6 t ht q hq
            exact ⟨a1, b, by rw [zsI_no (by omega), zsI_no (by omega), hf 62 (by decide)]; exact a2, by rw [zsI_no (by omega), zsI_no (by omega), hf 63 (by decide)]; exact a3, a4, fun i c hc => by rw [zsI_no (by omega), zsI_no (by omega), hf 64 (by decide)]; exact a5 i c hc⟩
      | succ r ih =>
        intro i σ1 hr hf h8 hj hv
        refine s_X8_back_20 hg (i_le 6 i rfl rfl (by omega) (by omega) (fun q => by omega) (fun _ => ?_))
        rw [show (6 : Int32) + nI i = nI (6 + i) from nI_add 6 i, c_nI (n := i) (by omega), c_nI (n := 6 + i) (by omega), nI_1 i, hf 74 (by decide)]
        refine ⟨v_in (by omega) (by omega), v_in (by omega) (by omega), v_in (by omega) (by omega), v_in (by omega) (by omega), ih (i + 1) _ (by omega) (zfr_put (zfr_put hf (by decide)) (by decide)) ?_ (fun j a b c => ?_) (fun u hu hn => ?_)⟩
        · rw [zsI_no (by omega), zsI_no (by omega)]; exact h8
        · rw [zsI_no (by omega), zsI_no (by omega)]; exact hj j a b c
        · by_cases e : u = i
          · subst e
            rw [zsI_at, zsI_no (by omega), zsI_at, (i4 u hn).1, (i4 u hn).2]
            exact ⟨rfl, rfl⟩
          · rw [zsI_no (by omega), zsI_no (by omega), zsI_no (by omega), zsI_no (by omega)]
            exact hv u (by omega) hn
    refine key 6 0 _ (by omega) (zfr_put (zfr_rf _ _) (by decide)) zsI_at (fun j a b c => ?_) (fun u hu => by omega)
    rw [zsI_no (by omega)]
end
