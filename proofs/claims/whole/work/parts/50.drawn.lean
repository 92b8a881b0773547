/-! drawn: both sides -/
def drZ (s : Int32) : Int32 := s * 1103515245 + 12345
def drY (s : Int32) : Int32 := drZ (drZ s)
def drO (s : Int32) : Nat := (drY s).toBitVec.toNat / 512 % 1024 * 1024 + (drZ s).toBitVec.toNat / 512 % 1024
def drS (s : Int32) : Nat → Int32
  | 0 => s
  | h + 1 => drY (drS s h)
def drN (E : zE) (fam : Nat → zH) (s : Int32) : Nat := npay (prc E (wOwn (fam 0) (drO s)) (wOwn (fam 1) (drO (drY s)))) 99
def aDr (E : zE) (fam : Nat → zH) (n : Nat) (s : Int32) : Int32 := if 2 ≤ n then nI (drN E fam s) else -3
theorem drS_0 (s : Int32) : drS s 0 = s := by simp only [drS]
theorem drS_1 (s : Int32) : drS s 1 = drY s := by simp only [drS]
theorem drS_s (s : Int32) (i : Nat) : (drS s i * 1103515245 + 12345) * 1103515245 + 12345 = drS s (i + 1) := by simp only [drS, drY, drZ]
theorem wOwn_1 (x : zH) (o : Nat) : (wOwn x o).1 = x.1 := rfl
theorem drO_lt (s : Int32) : drO s < 1073741824 := by
  unfold drO
  have := Nat.mod_lt ((drY s).toBitVec.toNat / 512) (show 1024 > 0 by omega)
  have := Nat.mod_lt ((drZ s).toBitVec.toNat / 512) (show 1024 > 0 by omega)
  omega
theorem dr_ush (x : Int32) : (x.toUInt32 >>> ((9 : Int32).toUInt32 &&& Int32.toUInt32 31)).toInt32 = nI (x.toBitVec.toNat / 512) := by
  apply Int32.toBitVec_inj.mp
  apply BitVec.eq_of_toNat_eq
  rw [pk_ushr x 9 9 (by decide), pk_tn (by have := x.toBitVec.isLt; omega)]
theorem dr_val (s : Int32) : (((((s * 1103515245 + 12345) * 1103515245 + 12345 : Int32).toUInt32 >>> ((9 : Int32).toUInt32 &&& Int32.toUInt32 31)).toInt32 - ((((s * 1103515245) + 12345) * 1103515245 + 12345 : Int32).toUInt32 >>> ((9 : Int32).toUInt32 &&& Int32.toUInt32 31)).toInt32 / 1024 * 1024) * 1024) + (((s * 1103515245 + 12345 : Int32).toUInt32 >>> ((9 : Int32).toUInt32 &&& Int32.toUInt32 31)).toInt32 - ((s * 1103515245 + 12345 : Int32).toUInt32 >>> ((9 : Int32).toUInt32 &&& Int32.toUInt32 31)).toInt32 / 1024 * 1024) = nI (drO s) := by
  rw [dr_ush, dr_ush]
  have h1 := ((s * 1103515245 + 12345) * 1103515245 + 12345 : Int32).toBitVec.isLt
  have h2 := (s * 1103515245 + 12345 : Int32).toBitVec.isLt
  show (nI ((drY s).toBitVec.toNat / 512) - nI ((drY s).toBitVec.toNat / 512) / nI 1024 * nI 1024) * nI 1024 + (nI ((drZ s).toBitVec.toNat / 512) - nI ((drZ s).toBitVec.toNat / 512) / nI 1024 * nI 1024) = _
  have h1 : (drY s).toBitVec.toNat < 2 ^ 32 := h1
  have h2 : (drZ s).toBitVec.toNat < 2 ^ 32 := h2
  rw [pk_rem (by omega) (by omega) (by omega), pk_rem (by omega) (by omega) (by omega), pk_mul, nI_add]
  rfl
section
variable {d : Nat} {g : zG} {σ : zI} {K : Int32 → zI → Prop}
theorem cx_drawOwn (hg : zGA g) {a : Nat} (ha : zOb g a 0) {s : Int32} (h1 : K (drY s) (zsI σ a 3 (nI (drO s)))) : zCI mX0_drawOwn d [.ref a, .int s] g σ K := by
  refine s_X0_drawOwn hg ha ?_
  rw [dr_val]
  exact h1
theorem cx_ifDrawn (hg : zGA g) {E : zE} {n : Nat} {fam : Nat → zH} (hF : xF σ n fam) (hn : 2 ≤ n) {s : Int32} (h1 : ∀ σ', zfr [26, 41, 42] σ σ' → K (nI (drN E fam s)) σ') : zCI mX7_payableIfDrawn (d + 6) [.ref 0, .int s, .ref (43 + 0), .ref (43 + 1)] g σ K := by
  have n6 := hF.1
  have ho0 := (gr_family_n hg 0 (by omega)).2
  have ho1 := (gr_family_n hg 1 (by omega)).2
  have hx := (hF.2.2 0 (by omega)).2
  have hy := (hF.2.2 1 (by omega)).2
  refine s_X7_payableIfDrawn hg ho0 ho1 (cx_become hg (gA_41 hg) ho0 (by omega) hx (fun σ1 hf1 hx1 => cx_become hg (gA_42 hg) ho1 (by omega) (xHr_fr hy hf1 (by simp)) (fun σ2 hf2 hy2 => cx_drawOwn hg (gA_41 hg) (cx_drawOwn hg (gA_42 hg) ?_))))
  have hx2 : xH σ2 41 (wOwn (fam 0) (fam 0).2.2.2) := xHr_fr hx1 hf2 (by simp)
  have hx3 := xH_own hx2 (drO_lt s)
  have hy3 : xH (zsI σ2 41 3 (nI (drO s))) 42 (wOwn (fam 1) (fam 1).2.2.2) := xHr_fr hy2 (zfr_I (List.mem_singleton.mpr rfl) : zfr [41] σ2 _) (by simp)
  have hy4 := xH_own hy3 (drO_lt (drY s))
  have hx4 : xH (zsI (zsI σ2 41 3 (nI (drO s))) 42 3 (nI (drO (drY s)))) 41 (wOwn (fam 0) (drO s)) := xHr_fr hx3 (zfr_I (List.mem_singleton.mpr rfl) : zfr [42] _ _) (by simp)
  refine cx_payable (d := d) hg (gA_41 hg) (gA_42 hg) hx4 hy4 (prc_some E _ _) (fun σ5 hf5 => h1 σ5 ?_)
  exact zfr_tr (zfr_put (zfr_put (zfr_tr (zfr_up hf1 (by decide)) (zfr_up hf2 (by decide))) (by decide)) (by decide)) (zfr_up hf5 (by decide))
theorem cx_drawn (hg : zGA g) {E : zE} {n : Nat} {fam : Nat → zH} (hF : xF σ n fam) {s : Int32} (h1 : ∀ σ', zfr [26, 41, 42] σ σ' → K (aDr E fam n s) σ') : zCI mX7_drawn (d + 7) [.ref 0, .int s] g σ K := by
  have n6 := hF.1
  have bad : ¬ 2 ≤ n → K (-3) σ := fun u => by
    have := h1 σ (zfr_rf _ _)
    unfold aDr at this
    rw [if_neg u] at this
    exact this
  have q0 : ∀ {n : Nat}, 0 < n → n ≤ 6 → hA n 0 = some 0 := fun h h2 => hA_nI (k := 0) h (by omega)
  have q1 : ∀ {n : Nat}, 1 < n → n ≤ 6 → hA n 1 = some 1 := fun h h2 => hA_nI (k := 1) h (by omega)
  refine s_X7_drawn hg (cx_heirAt hg hF (fun q => cx_heirAt hg hF (fun q2 => bad (fun u => by rw [q0 (by omega) n6] at q; cases q)) (fun j q2 hj hj2 => ⟨(gr_family_n hg j (by omega)).2, bad (fun u => by rw [q0 (by omega) n6] at q; cases q)⟩)) (fun i q hi hi2 => ⟨(gr_family_n hg i (by omega)).2, cx_heirAt hg hF (fun q2 => bad (fun u => by rw [q1 (by omega) n6] at q2; cases q2)) (fun j q2 hj hj2 => ⟨(gr_family_n hg j (by omega)).2, ?_⟩)⟩))
  have i0 : i = 0 := ((nI_eq (a := 0) (b := i) (by omega) (by omega)).mp hi2).symm
  have j1 : j = 1 := ((nI_eq (a := 1) (b := j) (by omega) (by omega)).mp hj2).symm
  subst i0
  subst j1
  unfold aDr at h1
  rw [if_pos (by omega)] at h1
  exact cx_ifDrawn (d := d) hg hF (by omega) h1
theorem cm_keepX {K : zI → Prop} (hg : zGA g) (h1 : ∀ σ1, zfr [78] σ σ1 → (∀ u, u < 6 → σ1 78 u = σ 60 u) → K σ1) : zCV mX8_keep d [.ref 57] g σ K := by
  refine s_X8_keep hg ?_
  have key1 : ∀ (r i : Nat) (σ1 : zI), i + r = 6 → zfr [78] σ σ1 → (∀ u, u < i → σ1 78 u = σ 60 u) → p_X8_keep_2 d g K σ1 (nI i) := by
    intro r
    induction r with
    | zero =>
      intro i σ1 hr hf hv
      exact s_X8_keep_2 hg (i_le 6 i rfl rfl (by omega) (by omega) (fun _ => h1 σ1 hf (fun u hu => hv u (by omega))) (fun q => by omega))
    | succ r ih =>
      intro i σ1 hr hf hv
      refine s_X8_keep_2 hg (i_le 6 i rfl rfl (by omega) (by omega) (fun q => by omega) (fun _ => ⟨v_in (by omega) (by omega), v_in (by omega) (by omega), ?_⟩))
      rw [c_nI (n := i) (by omega), nI_1 i]
      refine ih (i + 1) _ (by omega) (zfr_put hf (by decide)) (fun u hu => ?_)
      by_cases e : u = i
      · subst e; rw [zsI_at, hf 60 (by decide)]
      · rw [zsI_no (Or.inr e)]; exact hv u (by omega)
  exact key1 6 0 σ (by omega) (zfr_rf _ _) (fun u hu => by omega)
theorem cm_unkeep (hg : zGA g) {σ1 : zI} {n : Nat} (n6 : n ≤ 6) {v : Int32} (h57 : σ 57 1 = nI n) (hv1 : ∀ u, u < 6 → σ1 78 u = σ 60 u) (h1 : ∀ σ', zfr [66, 67, 68, 69, 78] σ σ' → σ' 68 0 = 0 → σ' 69 0 = 0 → K v σ') : ∀ (r j : Nat) (σ4 : zI), j + r = n → zfr [60, 66, 67, 68, 69, 78] σ σ4 → σ4 68 0 = 0 → σ4 69 0 = 0 → σ4 78 = σ1 78 → (∀ u, (u < j ∨ n ≤ u) → σ4 60 u = σ 60 u) → p_X8_draw_85 d g K σ4 v (nI j) := by
  intro r
  induction r with
  | zero =>
    intro j σ4 hr hf4 w8 w9 hk4 hu4
    have e : j = n := by omega
    subst e
    refine s_X8_draw_85 hg ?_
    rw [hf4 57 (by decide), h57]
    refine i_le j j rfl rfl (by omega) (by omega) (fun _ => h1 σ4 (fun a ha => ?_) w8 w9) (fun q => by omega)
    by_cases e : a = 60
    · subst e
      funext u
      exact hu4 u (by omega)
    · exact hf4 a (by simp at ha ⊢; omega)
  | succ r ih =>
    intro j σ4 hr hf4 w8 w9 hk4 hu4
    refine s_X8_draw_85 hg ?_
    rw [hf4 57 (by decide), h57]
    refine i_le n j rfl rfl (by omega) (by omega) (fun q => by omega) (fun _ => ⟨v_in (by omega) (by omega), v_in (by omega) (by omega), ?_⟩)
    rw [c_nI (n := j) (by omega), nI_1 j, hk4, hv1 j (by omega)]
    refine ih (j + 1) _ (by omega) (zfr_put hf4 (by decide)) (by rw [zsI_ne (by decide)]; exact w8) (by rw [zsI_ne (by decide)]; exact w9) (by rw [zsI_ne (by decide)]; exact hk4) (fun u hu => ?_)
    by_cases e : u = j
    · subst e; rw [zsI_at]
    · rw [zsI_no (Or.inr e)]; exact hu4 u (by omega)
theorem cm_draws (hg : zGA g) {σ1 : zI} {n : Nat} (n6 : n ≤ 6) {s : Int32} (h57 : σ 57 1 = nI n)
    (h1 : ∀ σ2, zfr [60, 78] σ σ2 → σ2 78 = σ1 78 → (∀ u, u < n → σ2 60 u = nI (drO (drS s u))) → (∀ u, n ≤ u → σ2 60 u = σ 60 u) → zCI mX8_unpaid d [.ref 57, .int 0, .int 1] g σ2 (fun v1 σ3 => p_X8_draw_85 d g K σ3 (99 - v1) 0)) :
    ∀ (r i : Nat) (σ2 : zI) (y : Int32), i + r = n → y = drS s i → zfr [60, 78] σ σ2 → σ2 78 = σ1 78 → (∀ u, u < i → σ2 60 u = nI (drO (drS s u))) → (∀ u, i ≤ u → σ2 60 u = σ 60 u) → p_X8_draw_8 d g K σ2 y (nI i) := by
  intro r
  induction r with
  | zero =>
    intro i σ2 y hr hy hf hk hv hu
    have e : i = n := by omega
    subst e
    refine s_X8_draw_8 hg ?_
    rw [hf 57 (by decide), h57]
    exact i_le i i rfl rfl (by omega) (by omega) (fun _ => h1 σ2 hf hk hv hu) (fun q => by omega)
  | succ r ih =>
    intro i σ2 y hr hy hf hk hv hu
    refine s_X8_draw_8 hg ?_
    rw [hf 57 (by decide), h57, dr_val, nI_1 i, c_nI (n := i) (by omega)]
    refine i_le n i rfl rfl (by omega) (by omega) (fun q => by omega) (fun _ => ⟨v_in (by omega) (by omega), ?_⟩)
    refine ih (i + 1) _ _ (by omega) ?_ (zfr_put hf (by decide)) (by rw [zsI_ne (by decide)]; exact hk) (fun u hu2 => ?_) (fun u hu2 => ?_)
    · rw [hy, drS_s]
    · by_cases e : u = i
      · subst e; rw [zsI_at, hy]
      · rw [zsI_no (Or.inr e)]; exact hv u (by omega)
    · rw [zsI_no (Or.inr (by omega))]; exact hu u (by omega)
theorem cm_draw (hg : zGA g) {E : zE} {T n : Nat} {fam : Nat → zH} (ht : mTx σ T E.1 E.2.1 E.2.2) (hF : mF σ n fam) (hn : 2 ≤ n) (h68 : σ 68 0 = 0) (h69 : σ 69 0 = 0) {s : Int32}
    (h1 : ∀ σ', zfr [66, 67, 68, 69, 78] σ σ' → σ' 68 0 = 0 → σ' 69 0 = 0 → K (nI (drN E fam s)) σ') : zCI mX8_draw (d + 7) [.ref 57, .int s] g σ K := by
  have n6 := hF.1
  refine s_X8_draw hg (cm_keepX hg (fun σ1 hf1 hv1 => ?_))
  refine cm_draws (d := d + 6) (σ := σ) (σ1 := σ1) (s := s) hg n6 hF.2.1 (fun σ2 hf hk hv hu => ?_) n 0 σ1 s (by omega) (drS_0 s).symm (zfr_up hf1 (by decide)) rfl (fun u hu => by omega) (fun u _ => by rw [hf1 60 (by decide)])
  obtain ⟨x0, hx0⟩ := hF.2.2 0 (by omega)
  obtain ⟨x1, hx1⟩ := hF.2.2 1 (by omega)
  have hv0 := hv 0 (by omega)
  rw [drS_0] at hv0
  have hv1' := hv 1 (by omega)
  rw [drS_1] at hv1'
  have y0 := own_set (σ1 := σ2) hx0 x0 (hf 58 (by decide)) (hf 59 (by decide)) (drO_lt s) hv0
  have y1 := own_set (σ1 := σ2) hx1 x1 (hf 58 (by decide)) (hf 59 (by decide)) (drO_lt (drY s)) hv1'
  have key : ∀ σ3, zfr [66, 67, 68, 69] σ2 σ3 → σ3 68 0 = 0 → σ3 69 0 = 0 → p_X8_draw_85 (d + 6) g K σ3 (99 - nI (99 - npay (prc E (wOwn (fam 0) (drO s)) (wOwn (fam 1) (drO (drY s)))) 99)) 0 := by
    intro σ3 hf3 z8 z9
    have np := npay_le (prc E (wOwn (fam 0) (drO s)) (wOwn (fam 1) (drO (drY s)))) 99
    unfold drN at h1
    generalize npay (prc E (wOwn (fam 0) (drO s)) (wOwn (fam 1) (drO (drY s)))) 99 = N at *
    rw [show (99 : Int32) = nI 99 from rfl, pk_sub (by omega), show 99 - (99 - N) = N by omega]
    refine cm_unkeep (σ := σ) (σ1 := σ1) hg n6 hF.2.1 hv1 h1 n 0 σ3 (by omega) (zfr_tr (zfr_up hf (by decide)) (zfr_up hf3 (by decide))) z8 z9 (by rw [hf3 78 (by decide)]; exact hk) (fun u hu2 => ?_)
    rw [hf3 60 (by decide)]
    exact hu u (by omega)
  exact cm_unpaid' (d := d) (a := 0) (b := 1) (E := E) (x := wOwn (fam 0) (drO s)) (y := wOwn (fam 1) (drO (drY s))) hg ((wOwn_1 _ _).trans x0) ((wOwn_1 _ _).trans x1) (mTx_fr ht hf (by decide)) y0 y1 (by rw [hf 68 (by decide)]; exact h68) (by rw [hf 69 (by decide)]; exact h69) key
theorem cm_drawn (hg : zGA g) {E : zE} {T n : Nat} {fam : Nat → zH} (ht : mTx σ T E.1 E.2.1 E.2.2) (hF : mF σ n fam) (h68 : σ 68 0 = 0) (h69 : σ 69 0 = 0) {s : Int32}
    (h1 : ∀ σ', zfr [66, 67, 68, 69, 78] σ σ' → σ' 68 0 = 0 → σ' 69 0 = 0 → K (aDr E fam n s) σ') : zCI mX8_drawn (d + 8) [.ref 57, .int s] g σ K := by
  have n6 := hF.1
  refine s_X8_drawn hg ?_
  rw [hF.2.1]
  unfold aDr at h1
  refine i_le 2 n rfl rfl (by omega) (by omega) (fun q => ?_) (fun q => ?_)
  · rw [if_pos q] at h1
    exact cm_draw (d := d) hg ht hF q h68 h69 h1
  · rw [if_neg (by omega)] at h1
    exact h1 σ (zfr_rf _ _) h68 h69
end
