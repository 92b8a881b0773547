/-! TEXTS: the class -/
def ptR (N : zTk → zTk) (z key : Nat) (k : zTk) : zRs := if k.2.2.1 = key then bnd2 (etR N z (lvR N z 5).2 (N k)) (fun k' o => if k'.2.2.1 = 59 then (true, N k', o) else (false, k', [])) else (false, k, [])
def tx3 (c : zRs) (a b : List Nat) : Nat ⊕ (List Nat × List Nat × List Nat) := if c.1 then (if c.2.1.2.2.1 = 1 then Sum.inr (a, b, c.2.2) else Sum.inl c.2.1.1) else Sum.inl c.2.1.1
def tx2 (N : zTk → zTk) (z : Nat) (b : zRs) (a : List Nat) : Nat ⊕ (List Nat × List Nat × List Nat) := if b.1 then tx3 (ptR N z 1008 b.2.1) a b.2.2 else Sum.inl b.2.1.1
def tx1 (N : zTk → zTk) (z : Nat) (a : zRs) : Nat ⊕ (List Nat × List Nat × List Nat) := if a.1 then tx2 N z (ptR N z 1007 a.2.1) a.2.2 else Sum.inl a.2.1.1
def txX (B : Nat → Nat) (z : Nat) : Nat ⊕ (List Nat × List Nat × List Nat) := tx1 (nXT B z) z (ptR (nXT B z) z 1006 (lxX B z 0))
def sel3 (a b c : List Nat) (q : Nat) : List Nat := if q = 0 then a else if q = 1 then b else c
theorem ptR_gd {z key : Nat} {N : zTk → zTk} (hN : gN z N) (hk1 : key ≠ 1) {k : zTk} (hk : okT z k) (h : (ptR N z key k).1 = true) : okT z (ptR N z key k).2.1 ∧ k.1 + (ptR N z key k).2.2.length + 2 ≤ (ptR N z key k).2.1.1 ∧ okp (ptR N z key k).2.2 0 := by
  unfold ptR at h ⊢
  by_cases c : k.2.2.1 = key
  · rw [if_pos c] at h ⊢
    have k1 := hk.2.2.1 (by omega)
    obtain ⟨n1, n2⟩ := hN k hk
    cases e : (etR N z (lvR N z 5).2 (N k)).1 with
    | false =>
      rw [bnd2_f e] at h
      cases h
    | true =>
      rw [bnd2_t e] at h ⊢
      obtain ⟨a1, a2, a3, a4⟩ := etR_gd hN _ n1 e
      by_cases c2 : (etR N z (lvR N z 5).2 (N k)).2.1.2.2.1 = 59
      · rw [if_pos c2]
        have k2 := a1.2.2.1 (by omega)
        obtain ⟨m1, m2⟩ := hN _ a1
        refine ⟨m1, by show k.1 + (etR N z (lvR N z 5).2 (N k)).2.2.length + 2 ≤ (N (etR N z (lvR N z 5).2 (N k)).2.1).1; omega, ?_⟩
        have := a4 0 [] (by omega) rfl
        rw [List.append_nil] at this
        exact this
      · rw [if_neg c2] at h
        cases h
  · rw [if_neg c] at h
    cases h
theorem okA_pt {z key : Nat} {N : zTk → zTk} (hN : gN z N) {k : zTk} (hk : okT z k) : (ptR N z key k).2.1.1 ≤ z := by
  have : okT z (ptR N z key k).2.1 := by
    unfold ptR
    split
    · refine okA_b (okA_et hN _ (hN k hk).1) (fun k' o hk' => ?_)
      split
      · exact (hN k' hk').1
      · exact hk'
    · exact hk
  have a := this.1
  have b := this.2.1
  omega
/-- one part of a TEXT as the class keeps it -/
def xR1 (σ : zI) (t q : Nat) (o : List Nat) : Prop := okp o 0 ∧ ∃ s : Nat, σ (14 + t) q = nI s ∧ s + o.length < 160 ∧ (∀ i c, o[i]? = some c → σ (7 + t) (s + i) = enc c) ∧ σ (7 + t) (s + o.length) = -30
section
variable {d : Nat} {g : zG} {σ : zI} {z : Nat} {B : Nat → Nat} {c : Nat}
theorem cS_st {k : zTk} {w a q : Nat} {v : Int32} (hS : cS σ z B c k w) (ha : 13 ≤ a) : cS (zsI σ a q v) z B c k w := by
  obtain ⟨a1, a2, a3, a4, a5⟩ := hS
  have s : ∀ b, b < 13 → zsI σ a q v b = σ b := fun b hb => zsI_ne (by omega)
  unfold cS xP xK
  rw [s 4 (by omega), s 5 (by omega)]
  exact ⟨a1, a2, a3, a4, a5⟩
/-- one part of a TEXT, read by the class -/
theorem cx_rd1 {K : Int32 → zI → Prop} {t i key : Nat} (hkey : key = 1006 + i) (hg : zGL g) (ht : t < 6) (hi : i < 3) (hA2 : zAr g (14 + t) 1 3) {k : zTk} {w : Nat} (hS : cS σ z B (7 + t) k w) (hw : w ≤ k.1)
    (hs : (ptR (nXT B z) z key k).1 = true → ∀ σ', cS σ' z B (7 + t) (ptR (nXT B z) z key k).2.1 (w + (ptR (nXT B z) z key k).2.2.length + 1) → cF (7 + t) w (zsI σ (14 + t) i (nI w)) σ' → sgC σ' (7 + t) w (ptR (nXT B z) z key k).2.2 → σ' (7 + t) (w + (ptR (nXT B z) z key k).2.2.length) = -30 → p_X4_read_21 (d + 56) g K σ' (14 + t) (nI (i + 1)))
    (hfl : (ptR (nXT B z) z key k).1 = false → ∀ σ', zfr [4, 7 + t, 14 + t] σ σ' → σ' 4 4 = nI (ptR (nXT B z) z key k).2.1.1 → K (σ' 4 4) (zsI σ' 4 1 0)) : p_X4_read_21 (d + 56) g K σ (14 + t) (nI i) := by
  have hN := gN_lx B z
  have hc : 7 ≤ 7 + t ∧ 7 + t < 13 := by omega
  have ok := hS.2.2.1
  have t2 := ok.2.2.2.2
  have z160 := hS.1.1
  obtain ⟨n1, n2⟩ := hN k ok
  unfold ptR at hs hfl
  have up : ∀ {σ2 : zI}, cF (7 + t) w (zsI σ (14 + t) i (nI w)) σ2 → zfr [4, 7 + t, 14 + t] σ σ2 := fun h => zfr_tr (zfr_put (zfr_rf _ _) (by simp)) (zfr_up h.1 (by intro x hx; simp at hx ⊢; omega))
  have e6 : (1006 : Int32) + nI i = nI key := by
    rcases (show i = 0 ∨ i = 1 ∨ i = 2 by omega) with rfl | rfl | rfl <;> subst hkey <;> rfl
  refine s_X4_read_21 hg hA2 (i_le 3 i rfl rfl (by omega) (by omega) (fun q => by omega) (fun _ => ?_))
  rw [hS.2.1.2.2.1, e6, c_nI (by omega), hS.2.2.2.2, nI_1 i]
  refine i_eq k.2.2.1 key rfl rfl (by omega) (by omega) (fun q => ⟨v_in (show i < 3 from hi) (by omega), ?_⟩) (fun q => ?_)
  · rw [if_pos q] at hs hfl
    have b1 := ok.2.2.1 (by omega)
    refine cx_nx hg hc (by omega) (cS_st (q := i) (v := nI w) hS (by omega)) (fun σ1 hf1 hS1 => cI_all (z := z) (B := B) hg hc (d + 56) σ1 _ w _ (by omega) hS1 (by omega) (fun e σ2 hS2 hF2 hC2 => z1 ?_) (fun e σ2 hF2 h4 => z0 ?_))
    · rw [bnd2_t e] at hs hfl
      obtain ⟨a1, a2, a3, a4⟩ := etR_gd hN _ n1 e
      have t3 := a1.2.2.2.2
      rw [hS2.2.1.2.2.1]
      refine i_eq _ 59 rfl rfl (by omega) (by omega) (fun y => ?_) (fun y => ?_)
      · rw [if_pos y] at hs
        have b2 := a1.2.2.1 (by omega)
        have b3 := a1.2.1
        refine cx_wr hg hc (by omega) hS2.2.2.2.1 hS2.2.2.2.2 (cx_nx hg hc (by omega) (cS_wr hc hS2) (fun σ4 hf4 hS4 => hs rfl σ4 hS4 ?_ ?_ ?_))
        · exact cF_tr (cF_tr (cF_tr (cF_4 (w := w) hf1 (by omega)) hF2 (Nat.le_refl _)) (cF_wr hc (Nat.le_add_right _ _)) (Nat.le_refl _)) (cF_4 (w := w) hf4 (by omega)) (Nat.le_refl _)
        · exact sgC_fr (sgC_fr hC2 (cF_wr (w := w + (etR (nXT B z) z (lvR (nXT B z) z 5).2 (nXT B z k)).2.2.length) hc (Nat.le_refl _)) (Nat.le_refl _)) (cF_4 (w := w + (etR (nXT B z) z (lvR (nXT B z) z 5).2 (nXT B z k)).2.2.length) hf4 (by omega)) (Nat.le_refl _)
        · rw [hf4 (7 + t) (by simp; omega), zsI_no (Or.inl (by omega)), zsI_at]
      · rw [if_neg y] at hfl
        exact i_eq i 3 rfl rfl (by omega) (by omega) (fun q => by omega) (fun _ => hfl rfl σ2 (up (cF_tr (cF_4 (w := w) hf1 (by omega)) hF2 (Nat.le_refl _))) hS2.2.1.1)
    · rw [bnd2_f e] at hfl
      exact i_eq i 3 rfl rfl (by omega) (by omega) (fun q => by omega) (fun _ => hfl rfl σ2 (up (cF_tr (cF_4 (w := w) hf1 (by omega)) hF2 (Nat.le_refl _))) h4)
  · rw [if_neg q] at hfl
    exact i_eq i 3 rfl rfl (by omega) (by omega) (fun q => by omega) (fun _ => hfl rfl σ (zfr_rf _ _) hS.2.1.1)
theorem cx_read {K : Int32 → zI → Prop} (hg : zGL g) {t : Nat} (ht : t < 6) (hP : xP σ z B)
    (hs : ∀ a b e, txX B z = Sum.inr (a, b, e) → ∀ σ', zfr [4, 7 + t, 14 + t] σ σ' → σ' 4 1 = 0 → (∀ q, q < 3 → xR1 σ' t q (sel3 a b e q)) → K (-1) σ')
    (hfl : ∀ p, txX B z = Sum.inl p → p ≤ z → ∀ σ', zfr [4, 7 + t, 14 + t] σ σ' → σ' 4 1 = 0 → K (nI p) σ') : zCI mX4_read (d + 57) [.ref 4, .ref (7 + t), .ref (14 + t)] g σ K := by
  have hN := gN_lx B z
  have z160 := hP.1
  have hc : 7 ≤ 7 + t ∧ 7 + t < 13 := by omega
  have hA : zAr g (7 + t) 1 160 := by
    rcases (show t = 0 ∨ t = 1 ∨ t = 2 ∨ t = 3 ∨ t = 4 ∨ t = 5 by omega) with rfl | rfl | rfl | rfl | rfl | rfl
    · exact gL_7 hg
    · exact gL_8 hg
    · exact gL_9 hg
    · exact gL_10 hg
    · exact gL_11 hg
    · exact gL_12 hg
  have hA2 : zAr g (14 + t) 1 3 := by
    rcases (show t = 0 ∨ t = 1 ∨ t = 2 ∨ t = 3 ∨ t = 4 ∨ t = 5 by omega) with rfl | rfl | rfl | rfl | rfl | rfl
    · exact gL_14 hg
    · exact gL_15 hg
    · exact gL_16 hg
    · exact gL_17 hg
    · exact gL_18 hg
    · exact gL_19 hg
  have up4 : ∀ {σ1 σ2 : zI}, zfr [4, 7 + t, 14 + t] σ σ1 → zfr [4] σ1 σ2 → zfr [4, 7 + t, 14 + t] σ σ2 := fun h h2 => zfr_tr h (zfr_up h2 (by simp))
  have upc : ∀ {σ1 σ2 : zI} {w : Nat}, zfr [4, 7 + t, 14 + t] σ σ1 → cF (7 + t) w σ1 σ2 → zfr [4, 7 + t, 14 + t] σ σ2 := fun h h2 => zfr_tr h (zfr_up h2.1 (by intro x hx; simp at hx ⊢; omega))
  have ups : ∀ {σ1 : zI} {q : Nat} {v : Int32}, zfr [4, 7 + t, 14 + t] σ σ1 → zfr [4, 7 + t, 14 + t] σ (zsI σ1 (14 + t) q v) := fun h => zfr_put h (by simp)
  have up1 : ∀ {σ1 : zI}, zfr [4, 7 + t, 14 + t] σ σ1 → zfr [4, 7 + t, 14 + t] σ (zsI σ1 4 1 0) := fun h => zfr_put h (by simp)
  have bad : ∀ (σ1 : zI) (p : Nat), txX B z = Sum.inl p → p ≤ z → zfr [4, 7 + t, 14 + t] σ σ1 → σ1 4 4 = nI p → K (σ1 4 4) (zsI σ1 4 1 0) := fun σ1 p he hp hf h4 => by
    rw [h4]
    exact hfl p he hp _ (up1 hf) zsI_at
  have eT : txX B z = tx1 (nXT B z) z (ptR (nXT B z) z 1006 (lxX B z 0)) := rfl
  obtain ⟨k0, _⟩ := lxX_ok (B := B) (Nat.zero_le z)
  refine s_X4_read hg hA hA2 (cx_next (d := d + 49) (z := z) (B := B) (p := 0) hg ?_ zsI_at (by omega) (fun σ1 hf1 hk1 => ?_))
  · refine ⟨z160, ?_, fun i hi => ?_⟩
    · rw [zsI_no (by omega), zsI_no (by omega), zsI_no (by omega)]; exact hP.2.1
    · rw [zsI_no (by omega), zsI_no (by omega), zsI_no (by omega)]; exact hP.2.2 i hi
  · have F1 : zfr [4, 7 + t, 14 + t] σ σ1 := up4 (zfr_put (zfr_put (zfr_put (zfr_rf _ _) (by simp)) (by simp)) (by simp)) hf1.1
    have S1 : cS σ1 z B (7 + t) (lxX B z 0) 0 := by
      refine ⟨⟨z160, ?_, fun i hi => ?_⟩, hk1, k0, ?_, ?_⟩
      · rw [hf1.2 1 (by decide), zsI_no (by omega), zsI_no (by omega), zsI_no (by omega)]; exact hP.2.1
      · rw [hf1.1 5 (by decide), zsI_no (by omega), zsI_no (by omega), zsI_no (by omega)]; exact hP.2.2 i hi
      · rw [hf1.2 6 (by decide), zsI_no (by omega), zsI_no (by omega), zsI_at]
      · rw [hf1.2 7 (by decide), zsI_no (by omega), zsI_at]; rfl
    generalize lxX B z 0 = k1 at *
    show p_X4_read_21 (d + 56) g K σ1 (14 + t) (nI 0)
    refine cx_rd1 (d := d) (key := 1006) (i := 0) rfl hg ht (by omega) hA2 S1 (by omega) (fun e σ2 S2 F2 C2 St2 => ?_) (fun e σ2 F2 h4 => ?_)
    · rw [show tx1 (nXT B z) z (ptR (nXT B z) z 1006 k1) = tx2 (nXT B z) z (ptR (nXT B z) z 1007 (ptR (nXT B z) z 1006 k1).2.1) (ptR (nXT B z) z 1006 k1).2.2 from if_pos e] at eT
      obtain ⟨g1, g2, g3⟩ := ptR_gd hN (by omega) k0 e
      have FF2 := upc (ups (q := 0) (v := nI 0) F1) F2
      have st0 : σ2 (14 + t) 0 = nI 0 := by
        rw [F2.1 (14 + t) (by simp; omega)]
        exact zsI_at
      generalize ptR (nXT B z) z 1006 k1 = r1 at *
      have g9 := g1.2.1
      have g8 := g1.1
      refine cx_rd1 (d := d) (key := 1007) (i := 1) rfl hg ht (by omega) hA2 S2 (by omega) (fun e2 σ3 S3 F3 C3 St3 => ?_) (fun e2 σ3 F3 h4 => ?_)
      · rw [show tx2 (nXT B z) z (ptR (nXT B z) z 1007 r1.2.1) r1.2.2 = tx3 (ptR (nXT B z) z 1008 (ptR (nXT B z) z 1007 r1.2.1).2.1) r1.2.2 (ptR (nXT B z) z 1007 r1.2.1).2.2 from if_pos e2] at eT
        obtain ⟨h1, h2, h3⟩ := ptR_gd hN (by omega) g1 e2
        have FF3 := upc (ups (q := 1) (v := nI (0 + r1.2.2.length + 1)) FF2) F3
        have q0 : σ3 (14 + t) 0 = nI 0 := by
          rw [F3.1 (14 + t) (by simp; omega), zsI_no (by omega)]
          exact st0
        have q1 : σ3 (14 + t) 1 = nI (0 + r1.2.2.length + 1) := by
          rw [F3.1 (14 + t) (by simp; omega)]
          exact zsI_at
        have C2' : sgC σ3 (7 + t) 0 r1.2.2 := fun i x hx => by
          have hi : i < r1.2.2.length := (List.getElem?_eq_some_iff.mp hx).1
          rw [F3.2 (0 + i) (by omega), zsI_ne (by omega)]
          exact C2 i x hx
        have St2' : σ3 (7 + t) (0 + r1.2.2.length) = -30 := by
          rw [F3.2 _ (by omega), zsI_ne (by omega)]
          exact St2
        generalize ptR (nXT B z) z 1007 r1.2.1 = r2 at *
        have h9 := h1.2.1
        have h8 := h1.1
        refine cx_rd1 (d := d) (key := 1008) (i := 2) rfl hg ht (by omega) hA2 S3 (by omega) (fun e3 σ4 S4 F4 C4 St4 => ?_) (fun e3 σ4 F4 h4 => ?_)
        · obtain ⟨i1, i2, i3⟩ := ptR_gd hN (by omega) h1 e3
          have FF4 := upc (ups (q := 2) (v := nI (0 + r1.2.2.length + 1 + r2.2.2.length + 1)) FF3) F4
          have p0 : σ4 (14 + t) 0 = nI 0 := by
            rw [F4.1 (14 + t) (by simp; omega), zsI_no (by omega)]
            exact q0
          have p1 : σ4 (14 + t) 1 = nI (0 + r1.2.2.length + 1) := by
            rw [F4.1 (14 + t) (by simp; omega), zsI_no (by omega)]
            exact q1
          have p2 : σ4 (14 + t) 2 = nI (0 + r1.2.2.length + 1 + r2.2.2.length + 1) := by
            rw [F4.1 (14 + t) (by simp; omega)]
            exact zsI_at
          have C2'' : sgC σ4 (7 + t) 0 r1.2.2 := fun i x hx => by
            have hi : i < r1.2.2.length := (List.getElem?_eq_some_iff.mp hx).1
            rw [F4.2 (0 + i) (by omega), zsI_ne (by omega)]
            exact C2' i x hx
          have St2'' : σ4 (7 + t) (0 + r1.2.2.length) = -30 := by
            rw [F4.2 _ (by omega), zsI_ne (by omega)]
            exact St2'
          have C3'' : sgC σ4 (7 + t) (0 + r1.2.2.length + 1) r2.2.2 := fun i x hx => by
            have hi : i < r2.2.2.length := (List.getElem?_eq_some_iff.mp hx).1
            rw [F4.2 _ (by omega), zsI_ne (by omega)]
            exact C3 i x hx
          have St3'' : σ4 (7 + t) (0 + r1.2.2.length + 1 + r2.2.2.length) = -30 := by
            rw [F4.2 _ (by omega), zsI_ne (by omega)]
            exact St3
          rw [show tx3 (ptR (nXT B z) z 1008 r2.2.1) r1.2.2 r2.2.2 = if (ptR (nXT B z) z 1008 r2.2.1).2.1.2.2.1 = 1 then Sum.inr (r1.2.2, r2.2.2, (ptR (nXT B z) z 1008 r2.2.1).2.2) else Sum.inl (ptR (nXT B z) z 1008 r2.2.1).2.1.1 from if_pos e3] at eT
          generalize ptR (nXT B z) z 1008 r2.2.1 = r3 at *
          have i9 := i1.2.1
          have i8 := i1.1
          have t9 := i1.2.2.2.2
          refine s_X4_read_21 hg hA2 (i_le 3 3 rfl rfl (by omega) (by omega) (fun _ => i_eq 3 3 rfl rfl (by omega) (by omega) (fun _ => ?_) (fun q => absurd rfl q)) (fun q => by omega))
          rw [S4.2.1.2.2.1, S4.2.1.1]
          refine i_eq r3.2.1.2.2.1 1 rfl rfl (by omega) (by omega) (fun y => ?_) (fun y => ?_)
          · rw [if_pos y] at eT
            refine hs _ _ _ eT _ (up1 FF4) zsI_at (fun q hq => ?_)
            have n7 : ∀ u, zsI σ4 4 1 0 (7 + t) u = σ4 (7 + t) u := fun u => zsI_no (Or.inl (by omega))
            have n14 : ∀ u, zsI σ4 4 1 0 (14 + t) u = σ4 (14 + t) u := fun u => zsI_no (Or.inl (by omega))
            rcases (show q = 0 ∨ q = 1 ∨ q = 2 by omega) with rfl | rfl | rfl
            · exact ⟨g3, 0, by rw [n14]; exact p0, by show 0 + r1.2.2.length < 160; omega, fun i x hx => by rw [n7]; exact C2'' i x hx, by rw [n7]; exact St2''⟩
            · exact ⟨h3, 0 + r1.2.2.length + 1, by rw [n14]; exact p1, by show 0 + r1.2.2.length + 1 + r2.2.2.length < 160; omega, fun i x hx => by rw [n7]; exact C3'' i x hx, by rw [n7]; exact St3''⟩
            · exact ⟨i3, 0 + r1.2.2.length + 1 + r2.2.2.length + 1, by rw [n14]; exact p2, by show 0 + r1.2.2.length + 1 + r2.2.2.length + 1 + r3.2.2.length < 160; omega, fun i x hx => by rw [n7]; exact C4 i x hx, by rw [n7]; exact St4⟩
          · rw [if_neg y] at eT
            exact hfl _ eT (by omega) _ (up1 FF4) zsI_at
        · rw [show tx3 (ptR (nXT B z) z 1008 r2.2.1) r1.2.2 r2.2.2 = Sum.inl (ptR (nXT B z) z 1008 r2.2.1).2.1.1 from if_neg (by rw [e3]; decide)] at eT
          exact bad σ4 _ eT (okA_pt hN h1) (zfr_tr FF3 F4) h4
      · rw [show tx2 (nXT B z) z (ptR (nXT B z) z 1007 r1.2.1) r1.2.2 = Sum.inl (ptR (nXT B z) z 1007 r1.2.1).2.1.1 from if_neg (by rw [e2]; decide)] at eT
        exact bad σ3 _ eT (okA_pt hN g1) (zfr_tr FF2 F3) h4
    · rw [show tx1 (nXT B z) z (ptR (nXT B z) z 1006 k1) = Sum.inl (ptR (nXT B z) z 1006 k1).2.1.1 from if_neg (by rw [e]; decide)] at eT
      exact bad σ2 _ eT (okA_pt hN k0) (zfr_tr F1 F2) h4
end
