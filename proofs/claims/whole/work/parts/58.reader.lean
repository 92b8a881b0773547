/-! the class reads by the grammar -/
def cS (σ : zI) (z : Nat) (B : Nat → Nat) (c : Nat) (k : zTk) (w : Nat) : Prop := xP σ z B ∧ xK σ k ∧ okT z k ∧ σ 4 6 = nI (c + 1) ∧ σ 4 7 = nI w
def cF (c w : Nat) (σ σ' : zI) : Prop := zfr [4, c] σ σ' ∧ ∀ j, j < w → σ' c j = σ c j
def sgC (σ : zI) (c w : Nat) (o : List Nat) : Prop := ∀ i x, o[i]? = some x → σ c (w + i) = enc x
def nXT (B : Nat → Nat) (z : Nat) (k : zTk) : zTk := lxX B z k.2.1
def cI (g : zG) (z : Nat) (B : Nat → Nat) (c : Nat) (Y : zM) (o D : Nat) (f : zTk → zRs) : Prop :=
  ∀ (dd : Nat) (σ : zI) (k : zTk) (w : Nat) (K : Int32 → zI → Prop), D ≤ dd → cS σ z B c k w → w ≤ k.1 →
    ((f k).1 = true → ∀ σ', cS σ' z B c (f k).2.1 (w + (f k).2.2.length) → cF c w σ σ' → sgC σ' c w (f k).2.2 → K 1 σ') →
    ((f k).1 = false → ∀ σ', cF c w σ σ' → σ' 4 4 = nI (f k).2.1.1 → K 0 σ') → zCI Y dd [.ref 4, .int (nI o)] g σ K
theorem gN_lx (B : Nat → Nat) (z : Nat) : gN z (nXT B z) := fun k hk => lxX_ok hk.2.1
theorem cF_rf (c w : Nat) (σ : zI) : cF c w σ σ := ⟨zfr_rf _ _, fun _ _ => rfl⟩
theorem cF_tr {c w w2 : Nat} {σ σ1 σ2 : zI} (h : cF c w σ σ1) (h2 : cF c w2 σ1 σ2) (hw : w ≤ w2) : cF c w σ σ2 := ⟨zfr_tr h.1 h2.1, fun j hj => (h2.2 j (by omega)).trans (h.2 j hj)⟩
theorem cF_4 {c w : Nat} {σ σ1 : zI} (h : zfr [4] σ σ1) (hc : c ≠ 4) : cF c w σ σ1 := ⟨zfr_up h (by intro x hx; simp at hx ⊢; omega), fun j _ => by rw [h c (by simp; exact hc)]⟩
theorem sgC_app {σ : zI} {c w : Nat} {o o' : List Nat} (h : sgC σ c w o) (h2 : sgC σ c (w + o.length) o') : sgC σ c w (o ++ o') := fun i x hx => by
  by_cases q : i < o.length
  · rw [List.getElem?_append_left q] at hx
    exact h i x hx
  · rw [List.getElem?_append_right (by omega)] at hx
    have := h2 (i - o.length) x hx
    rw [show w + o.length + (i - o.length) = w + i by omega] at this
    exact this
theorem sgC_fr {σ σ1 : zI} {c w w2 : Nat} {o : List Nat} (h : sgC σ c w o) (hf : cF c w2 σ σ1) (hw : w + o.length ≤ w2) : sgC σ1 c w o := fun i x hx => by
  have hi : i < o.length := (List.getElem?_eq_some_iff.mp hx).1
  rw [hf.2 _ (by omega)]
  exact h i x hx
section
variable {d : Nat} {g : zG} {σ : zI} {z : Nat} {B : Nat → Nat} {c : Nat}
theorem cx_nx {K : zI → Prop} (hg : zGL g) (hc : 7 ≤ c ∧ c < 13) {k : zTk} {w : Nat} (hd : 7 ≤ d) (hS : cS σ z B c k w) (h1 : ∀ σ', zfr [4] σ σ' → cS σ' z B c (nXT B z k) w → K σ') : zCV mX4_next d [.ref 4] g σ K := by
  obtain ⟨e, rfl⟩ : ∃ e, d = e + 7 := ⟨d - 7, by omega⟩
  obtain ⟨a1, a2, a3, a4, a5⟩ := hS
  refine cx_next (d := e) hg a1 a2.2.1 a3.2.1 (fun σ' hf hk => h1 σ' hf.1 ⟨xP_4 a1 hf (by decide), hk, (lxX_ok a3.2.1).1, ?_, ?_⟩)
  · rw [hf.2 6 (by decide)]; exact a4
  · rw [hf.2 7 (by decide)]; exact a5
theorem cx_wr {K : zI → Prop} (hg : zGL g) (hc : 7 ≤ c ∧ c < 13) {w : Nat} {v : Int32} (hw : w < 160) (h6 : σ 4 6 = nI (c + 1)) (h7 : σ 4 7 = nI w) (h1 : K (zsI (zsI σ c w v) 4 7 (nI (w + 1)))) : zCV mX4_write d [.ref 4, .int v] g σ K := by
  have hA : zAr g c 1 160 := by
    rcases (show c = 7 ∨ c = 8 ∨ c = 9 ∨ c = 10 ∨ c = 11 ∨ c = 12 by omega) with rfl | rfl | rfl | rfl | rfl | rfl
    · exact gL_7 hg
    · exact gL_8 hg
    · exact gL_9 hg
    · exact gL_10 hg
    · exact gL_11 hg
    · exact gL_12 hg
  have hz : zdr (σ 4 6) = some c := by rw [h6]; exact zdr_1 (by omega)
  refine s_X4_write hg ⟨c, 160, hz, hA, c, 160, hz, hA, ?_⟩
  rw [h7]
  refine i_le 160 w rfl rfl (by omega) (by omega) (fun q => by omega) (fun _ => ⟨c, 160, hz, hA, v_in hw (by omega), ?_⟩)
  rw [c_nI (by omega), zsI_no (Or.inl (by omega)), h7, nI_1 w]
  exact h1
theorem cS_wr {k : zTk} {w : Nat} {v : Int32} (hc : 7 ≤ c ∧ c < 13) (hS : cS σ z B c k w) : cS (zsI (zsI σ c w v) 4 7 (nI (w + 1))) z B c k (w + 1) := by
  obtain ⟨a1, a2, a3, a4, a5⟩ := hS
  have s4 : ∀ j, j ≠ 7 → zsI (zsI σ c w v) 4 7 (nI (w + 1)) 4 j = σ 4 j := fun j hj => by rw [zsI_no (Or.inr hj), zsI_no (Or.inl (by omega))]
  refine ⟨⟨a1.1, by rw [s4 1 (by omega)]; exact a1.2.1, fun i hi => ?_⟩, ⟨by rw [s4 4 (by omega)]; exact a2.1, by rw [s4 2 (by omega)]; exact a2.2.1, by rw [s4 3 (by omega)]; exact a2.2.2.1, fun h => by rw [s4 5 (by omega)]; exact a2.2.2.2 h⟩, a3, by rw [s4 6 (by omega)]; exact a4, zsI_at⟩
  rw [zsI_no (Or.inl (by omega)), zsI_no (Or.inl (by omega))]
  exact a1.2.2 i hi
theorem cF_wr {w w2 : Nat} {v x : Int32} (hc : 7 ≤ c ∧ c < 13) (hw : w ≤ w2) : cF c w σ (zsI (zsI σ c w2 v) 4 7 x) :=
  ⟨zfr_put (zfr_put (zfr_rf _ _) (by simp)) (by simp), fun j hj => by rw [zsI_no (Or.inl (by omega)), zsI_no (Or.inr (by omega))]⟩
theorem sgC_wr {w : Nat} {x : Nat} {y : Int32} (hc : 7 ≤ c ∧ c < 13) : sgC (zsI (zsI σ c w (enc x)) 4 7 y) c w [x] := fun i u hu => by
  cases i with
  | zero =>
    simp at hu
    subst hu
    rw [zsI_no (Or.inl (by omega)), Nat.add_zero, zsI_at]
  | succ i => simp at hu
/-- a sign, a piece behind it, then the sign's code -/
theorem cI_step {Y' : zM} {o D D' : Nat} {s : zTk → zRs} (hg : zGL g) (hc : 7 ≤ c ∧ c < 13) (hf : cI g z B c Y' o D s) (hgd : gd z D' s) {R K0 : zI → Prop} {x : Nat} {k : zTk} {w : Nat} (hd : D ≤ d) (hd7 : 7 ≤ d) (hS : cS σ z B c k w) (hw : w ≤ k.1) (ht : k.2.2.1 ≠ 1)
    (hs : (s (nXT B z k)).1 = true → ∀ σ', cS σ' z B c (s (nXT B z k)).2.1 (w + ((s (nXT B z k)).2.2 ++ [x]).length) → w + ((s (nXT B z k)).2.2 ++ [x]).length ≤ (s (nXT B z k)).2.1.1 → cF c w σ σ' → sgC σ' c w ((s (nXT B z k)).2.2 ++ [x]) → R σ')
    (hfl : (s (nXT B z k)).1 = false → ∀ σ', cF c w σ σ' → σ' 4 4 = nI (s (nXT B z k)).2.1.1 → K0 σ') : zCV mX4_next d [.ref 4] g σ (fun σ3 => zCI Y' d [.ref 4, .int (nI o)] g σ3 (fun v1 σ4 => (if v1 = 0 then K0 σ4 else zCV mX4_write d [.ref 4, .int (enc x)] g σ4 R))) := by
  have hk := hS.2.2.1
  have hkb := hk.2.2.1 ht
  obtain ⟨n1, n2⟩ := gN_lx B z k hk
  refine cx_nx hg hc hd7 hS (fun σ3 hf3 hS3 => hf d σ3 (nXT B z k) w _ hd hS3 (by omega) (fun e σ4 hS4 hF4 hC4 => z1 ?_) (fun e σ4 hF4 h4 => z0 (hfl e σ4 (cF_tr (cF_4 hf3 (by omega)) hF4 (Nat.le_refl _)) h4)))
  obtain ⟨a1, a2, a3, a4⟩ := hgd _ n1 e
  have z160 := hS.1.1
  have b1 := a1.2.1
  have b2 := a1.1
  refine cx_wr hg hc (by omega) hS4.2.2.2.1 hS4.2.2.2.2 (hs e _ ?_ ?_ (cF_tr (cF_tr (cF_4 hf3 (by omega)) hF4 (Nat.le_refl _)) (cF_wr hc (Nat.le_add_right _ _)) (Nat.le_refl _)) ?_)
  · rw [List.length_append, List.length_singleton, ← Nat.add_assoc]
    exact cS_wr hc hS4
  · rw [List.length_append, List.length_singleton]
    omega
  · exact sgC_app (sgC_fr hC4 (cF_wr (w := w + (s (nXT B z k)).2.2.length) hc (Nat.le_refl _)) (Nat.le_refl _)) (sgC_wr hc)
theorem cI_chain {Y Y' : zM} {o D D' : Nat} {s : zTk → zRs} {op : Nat → Option Nat} (hg : zGL g) (hc : 7 ≤ c ∧ c < 13) (ho : gO op) (hf : cI g z B c Y' o D s) (hgd : gd z D' s) (hD : 7 ≤ D) (LP : Nat → (Int32 → zI → Prop) → zI → Int32 → Prop)
    (hu : ∀ (d : Nat) (K : Int32 → zI → Prop) (σ2 : zI) (k2 : zTk) (i : Nat), z ≤ 160 → i ≤ z → σ2 4 1 = nI z → xK σ2 k2 → okT z k2 → (z ≤ i → K 1 σ2) → (op k2.2.2.1 = none → K 1 σ2) → (∀ x, i < z → op k2.2.2.1 = some x → zCV mX4_next d [.ref 4] g σ2 (fun σ3 => zCI Y' d [.ref 4, .int (nI o)] g σ3 (fun v1 σ4 => (if v1 = 0 then K 0 σ4 else zCV mX4_write d [.ref 4, .int (enc x)] g σ4 (fun σ5 => LP d K σ5 (nI (i + 1))))))) → LP d K σ2 (nI i))
    (h0 : ∀ (d : Nat) (K : Int32 → zI → Prop) (σ : zI), zCI Y' d [.ref 4, .int (nI o)] g σ (fun v1 σ1 => (if v1 = 0 then K 0 σ1 else LP d K σ1 0)) → zCI Y (d + 1) [.ref 4, .int (nI o)] g σ K) : cI g z B c Y o (D + 1) (chn (nXT B z) z s op) := by
  intro dd σ k w K hdd hS hw hs hfl
  obtain ⟨d, rfl⟩ : ∃ d, dd = d + 1 := ⟨dd - 1, by omega⟩
  unfold chn at hs hfl
  have z160 := hS.1.1
  refine h0 d K σ (hf d σ k w _ (by omega) hS hw (fun e σ1 hS1 hF1 hC1 => z1 ?_) (fun e σ1 hF1 h4 => z0 ?_))
  · rw [bnd2_t e] at hs hfl
    obtain ⟨a1, a2, a3, a4⟩ := hgd k hS.2.2.1 e
    have key : ∀ (r i : Nat) (σ2 : zI) (k2 : zTk) (o2 : List Nat), i + r = z → cS σ2 z B c k2 (w + o2.length) → w + o2.length ≤ k2.1 → cF c w σ σ2 → sgC σ2 c w o2 →
        ((chR (nXT B z) s op r k2 o2).1 = true → ∀ σ', cS σ' z B c (chR (nXT B z) s op r k2 o2).2.1 (w + (chR (nXT B z) s op r k2 o2).2.2.length) → cF c w σ σ' → sgC σ' c w (chR (nXT B z) s op r k2 o2).2.2 → K 1 σ') →
        ((chR (nXT B z) s op r k2 o2).1 = false → ∀ σ', cF c w σ σ' → σ' 4 4 = nI (chR (nXT B z) s op r k2 o2).2.1.1 → K 0 σ') → LP d K σ2 (nI i) := by
      intro r
      induction r with
      | zero =>
        intro i σ2 k2 o2 hr hS2 hw2 hF2 hC2 ks kf
        exact hu d K σ2 k2 i z160 (by omega) hS2.1.2.1 hS2.2.1 hS2.2.2.1 (fun _ => ks rfl σ2 hS2 hF2 hC2) (fun _ => ks rfl σ2 hS2 hF2 hC2) (fun x q => by omega)
      | succ r ih =>
        intro i σ2 k2 o2 hr hS2 hw2 hF2 hC2 ks kf
        refine hu d K σ2 k2 i z160 (by omega) hS2.1.2.1 hS2.2.1 hS2.2.2.1 (fun q => by omega) (fun q => ?_) (fun x _ q => ?_)
        · rw [chR_n q] at ks
          exact ks rfl σ2 hS2 hF2 hC2
        · rw [chR_y q] at ks kf
          refine cI_step hg hc hf hgd (by omega) (by omega) hS2 hw2 (ho _ _ q).1 (fun e2 σ5 hS5 hw5 hF5 hC5 => ?_) (fun e2 σ5 hF5 h5 => ?_)
          · rw [bnd2_t e2] at ks kf
            have el : (o2 ++ (s (nXT B z k2)).2.2 ++ [x]).length = o2.length + ((s (nXT B z k2)).2.2 ++ [x]).length := by
              rw [List.append_assoc, List.length_append]
            refine ih (i + 1) σ5 _ (o2 ++ (s (nXT B z k2)).2.2 ++ [x]) (by omega) ?_ ?_ (cF_tr hF2 hF5 (Nat.le_add_right _ _)) ?_ ks kf
            · rw [el, ← Nat.add_assoc]; exact hS5
            · rw [el, ← Nat.add_assoc]; exact hw5
            · rw [List.append_assoc]
              exact sgC_app (sgC_fr hC2 hF5 (Nat.le_refl _)) hC5
          · rw [bnd2_f e2] at kf
            exact kf rfl σ5 (cF_tr hF2 hF5 (Nat.le_add_right _ _)) h5
    exact key z 0 σ1 _ _ (by omega) hS1 (by omega) hF1 hC1 hs hfl
  · rw [bnd2_f e] at hfl
    exact hfl rfl σ1 hF1 h4
theorem cI_term {o D D' : Nat} {s : zTk → zRs} (hg : zGL g) (hc : 7 ≤ c ∧ c < 13) (hf : cI g z B c mX4_single o D s) (hgd : gd z D' s) (hD : 7 ≤ D) : cI g z B c mX4_term o (D + 1) (trR (nXT B z) z s) := by
  refine cI_chain hg hc gO_T hf hgd hD (fun d K σ2 i => p_X4_term_12 d g K σ2 (nI o) i) (fun d K σ2 k2 i z160 hi h1 hk ok k0 kn ks => ?_) (fun d K σ h => s_X4_term hg h)
  refine s_X4_term_12 hg ?_
  have t2 := ok.2.2.2.2
  rw [h1, hk.2.2.1, nI_1 i]
  refine i_le z i rfl rfl (by omega) (by omega) k0 (fun q => i_eq k2.2.2.1 42 rfl rfl (by omega) (by omega) (fun e => ks 8 q (if_pos e)) (fun e => kn (if_neg e)))
theorem cI_sum {o D D' : Nat} {s : zTk → zRs} (hg : zGL g) (hc : 7 ≤ c ∧ c < 13) (hf : cI g z B c mX4_term o D s) (hgd : gd z D' s) (hD : 7 ≤ D) : cI g z B c mX4_sum o (D + 1) (chn (nXT B z) z s opS) := by
  refine cI_chain hg hc gO_S hf hgd hD (fun d K σ2 i => p_X4_sum_12 d g K σ2 (nI o) i) (fun d K σ2 k2 i z160 hi h1 hk ok k0 kn ks => ?_) (fun d K σ h => s_X4_sum hg h)
  refine s_X4_sum_12 hg ?_
  have t2 := ok.2.2.2.2
  rw [h1, hk.2.2.1]
  refine i_le z i rfl rfl (by omega) (by omega) k0 (fun q => i_eq k2.2.2.1 43 rfl rfl (by omega) (by omega) (fun e => s_X4_sum_38 hg ?_) (fun e => i_eq k2.2.2.1 45 rfl rfl (by omega) (by omega) (fun e2 => s_X4_sum_38 hg ?_) (fun e2 => kn ?_)))
  · rw [hk.2.2.1, e, if_pos (show nI 43 = 43 from rfl), nI_1 i]
    exact ks 6 q (if_pos e)
  · rw [hk.2.2.1, e2, if_neg (show ¬ nI 45 = 43 by decide), nI_1 i]
    refine ks 7 q ?_
    unfold opS
    rw [if_neg e, if_pos e2]
  · unfold opS
    rw [if_neg e, if_neg e2]
theorem cI_both {o D D' : Nat} {s : zTk → zRs} (hg : zGL g) (hc : 7 ≤ c ∧ c < 13) (hf : cI g z B c mX4_not o D s) (hgd : gd z D' s) (hD : 7 ≤ D) : cI g z B c mX4_both o (D + 1) (btR (nXT B z) z s) := by
  refine cI_chain hg hc gO_A hf hgd hD (fun d K σ2 i => p_X4_both_12 d g K σ2 (nI o) i) (fun d K σ2 k2 i z160 hi h1 hk ok k0 kn ks => ?_) (fun d K σ h => s_X4_both hg h)
  refine s_X4_both_12 hg ?_
  have t2 := ok.2.2.2.2
  rw [h1, hk.2.2.1, nI_1 i]
  refine i_le z i rfl rfl (by omega) (by omega) k0 (fun q => i_eq k2.2.2.1 1010 rfl rfl (by omega) (by omega) (fun e => ks 11 q (if_pos e)) (fun e => kn (if_neg e)))
theorem cI_either {o D D' : Nat} {s : zTk → zRs} (hg : zGL g) (hc : 7 ≤ c ∧ c < 13) (hf : cI g z B c mX4_both o D s) (hgd : gd z D' s) (hD : 7 ≤ D) : cI g z B c mX4_either o (D + 1) (chn (nXT B z) z s opO) := by
  refine cI_chain hg hc gO_O hf hgd hD (fun d K σ2 i => p_X4_either_12 d g K σ2 (nI o) i) (fun d K σ2 k2 i z160 hi h1 hk ok k0 kn ks => ?_) (fun d K σ h => s_X4_either hg h)
  refine s_X4_either_12 hg ?_
  have t2 := ok.2.2.2.2
  rw [h1, hk.2.2.1, nI_1 i]
  refine i_le z i rfl rfl (by omega) (by omega) k0 (fun q => i_eq k2.2.2.1 1009 rfl rfl (by omega) (by omega) (fun e => ks 12 q (if_pos e)) (fun e => kn (if_neg e)))
theorem cI_cmp {o D D' : Nat} {s : zTk → zRs} (hg : zGL g) (hc : 7 ≤ c ∧ c < 13) (hf : cI g z B c mX4_sum o D s) (hgd : gd z D' s) (hD : 7 ≤ D) : cI g z B c mX4_compared o (D + 1) (cmR (nXT B z) s) := by
  intro dd σ k w K hdd hS hw hs hfl
  obtain ⟨d, rfl⟩ : ∃ d, dd = d + 1 := ⟨dd - 1, by omega⟩
  unfold cmR at hs hfl
  refine s_X4_compared hg (hf d σ k w _ (by omega) hS hw (fun e σ1 hS1 hF1 hC1 => z1 ?_) (fun e σ1 hF1 h4 => z0 ?_))
  · rw [bnd2_t e] at hs hfl
    obtain ⟨a1, a2, a3, a4⟩ := hgd k hS.2.2.1 e
    have t2 := a1.2.2.2.2
    have e3 := hS1.2.1.2.2.1
    have step : ∀ x, opC (s k).2.1.2.2.1 = some x → zCV mX4_next d [.ref 4] g σ1 (fun σ3 => zCI mX4_sum d [.ref 4, .int (nI o)] g σ3 (fun v1 σ4 => (if v1 = 0 then K 0 σ4 else zCV mX4_write d [.ref 4, .int (enc x)] g σ4 (fun σ5 => K 1 σ5)))) := fun x q => by
      rw [q] at hs hfl
      have hs : (bnd2 (s (nXT B z (s k).2.1)) (fun k2 o2 => (true, k2, (s k).2.2 ++ o2 ++ [x]))).1 = true → ∀ σ', cS σ' z B c (bnd2 (s (nXT B z (s k).2.1)) (fun k2 o2 => (true, k2, (s k).2.2 ++ o2 ++ [x]))).2.1 (w + (bnd2 (s (nXT B z (s k).2.1)) (fun k2 o2 => (true, k2, (s k).2.2 ++ o2 ++ [x]))).2.2.length) → cF c w σ σ' → sgC σ' c w (bnd2 (s (nXT B z (s k).2.1)) (fun k2 o2 => (true, k2, (s k).2.2 ++ o2 ++ [x]))).2.2 → K 1 σ' := hs
      have hfl : (bnd2 (s (nXT B z (s k).2.1)) (fun k2 o2 => (true, k2, (s k).2.2 ++ o2 ++ [x]))).1 = false → ∀ σ', cF c w σ σ' → σ' 4 4 = nI (bnd2 (s (nXT B z (s k).2.1)) (fun k2 o2 => (true, k2, (s k).2.2 ++ o2 ++ [x]))).2.1.1 → K 0 σ' := hfl
      refine cI_step hg hc hf hgd (by omega) (by omega) hS1 (by omega) (gO_C _ _ q).1 (fun e2 σ5 hS5 hw5 hF5 hC5 => ?_) (fun e2 σ5 hF5 h5 => ?_)
      · rw [bnd2_t e2] at hs
        have el : ((s k).2.2 ++ (s (nXT B z (s k).2.1)).2.2 ++ [x]).length = (s k).2.2.length + ((s (nXT B z (s k).2.1)).2.2 ++ [x]).length := by
          rw [List.append_assoc, List.length_append]
        refine hs rfl σ5 ?_ (cF_tr hF1 hF5 (Nat.le_add_right _ _)) ?_
        · show cS σ5 z B c _ (w + ((s k).2.2 ++ (s (nXT B z (s k).2.1)).2.2 ++ [x]).length)
          rw [el, ← Nat.add_assoc]; exact hS5
        · show sgC σ5 c w ((s k).2.2 ++ (s (nXT B z (s k).2.1)).2.2 ++ [x])
          rw [List.append_assoc]
          exact sgC_app (sgC_fr hC1 hF5 (Nat.le_refl _)) hC5
      · rw [bnd2_f e2] at hfl
        exact hfl rfl σ5 (cF_tr hF1 hF5 (Nat.le_add_right _ _)) h5
    rw [e3]
    refine i_eq (s k).2.1.2.2.1 60 rfl rfl (by omega) (by omega) (fun q => s_X4_compared_30 hg ?_) (fun q => i_eq (s k).2.1.2.2.1 61 rfl rfl (by omega) (by omega) (fun q2 => s_X4_compared_30 hg ?_) (fun q2 => ?_))
    · rw [e3, q, if_pos (show nI 60 = 60 from rfl)]
      exact step 9 (if_pos q)
    · rw [e3, q2, if_neg (show ¬ nI 61 = 60 by decide)]
      refine step 10 ?_
      unfold opC
      rw [if_neg q, if_pos q2]
    · have n : opC (s k).2.1.2.2.1 = none := by
        unfold opC
        rw [if_neg q, if_neg q2]
      rw [n] at hs
      exact hs rfl σ1 hS1 hF1 hC1
  · rw [bnd2_f e] at hfl
    exact hfl rfl σ1 hF1 h4
end
