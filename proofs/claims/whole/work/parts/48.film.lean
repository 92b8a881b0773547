/-! film: both sides -/
def filC (L : Nat → Option Nat) (k m : Nat) : Nat → Int32 := fun u => if u < 2 * m then (if u % 2 = 0 then nI (k + u / 2) else (on (L (k + u / 2))).toInt16.toInt32) else 0
def filS (S : Nat → zS) (c : Nat) (L : Nat → Option Nat) (k m : Nat) : Nat → zS := upS S c (1, 2 * m, filC L k m)
def dFil (n : Nat) (s ab sm q : Int32) : Option (Nat × Nat × Nat × Nat × Nat) := match hA 4 s with
  | none => none
  | some c => match two n (ab / 10) (ab - ab / 10 * 10) with
    | none => none
    | some (i, j) => if 0 ≤ sm.toInt ∧ sm.toInt ≤ 99 ∧ 0 ≤ q.toInt ∧ q.toInt ≤ 20 then some (c, i, j, sm.toInt.toNat, min q.toInt.toNat (100 - sm.toInt.toNat)) else none
theorem dFil_1 {n : Nat} {s ab sm q : Int32} (h : hA 4 s = none) : dFil n s ab sm q = none := by
  unfold dFil
  rw [h]
theorem dFil_2 {n : Nat} {s ab sm q : Int32} (h : two n (ab / 10) (ab - ab / 10 * 10) = none) : dFil n s ab sm q = none := by
  unfold dFil
  rw [h]
  cases hA 4 s <;> rfl
theorem dFil_3 {n : Nat} {s ab sm q : Int32} {c i j : Nat} (h : hA 4 s = some c) (h2 : two n (ab / 10) (ab - ab / 10 * 10) = some (i, j)) : dFil n s ab sm q = if 0 ≤ sm.toInt ∧ sm.toInt ≤ 99 ∧ 0 ≤ q.toInt ∧ q.toInt ≤ 20 then some (c, i, j, sm.toInt.toNat, min q.toInt.toNat (100 - sm.toInt.toNat)) else none := by
  unfold dFil
  rw [h, h2]
theorem two_neg {n : Nat} {ab : Int32} (h : ab.toInt < 0) : two n (ab / 10) (ab - ab / 10 * 10) = none := by
  have b1 := Int32.le_toInt ab
  have td : ab.toInt.tdiv 10 = -((-ab.toInt) / 10) := by
    have := Int.neg_tdiv (-ab.toInt) 10
    rw [Int.neg_neg] at this
    rw [this, Int.tdiv_eq_ediv_of_nonneg (by omega)]
  have e : (ab / 10).toInt = -((-ab.toInt) / 10) := by
    rw [Int32.toInt_div, show (10 : Int32).toInt = 10 from rfl, td]
    exact Int.bmod_eq_of_le (by omega) (by omega)
  have n1 : hA n (ab / 10) = none ∨ hA n (ab - ab / 10 * 10) = none := by
    by_cases c : ab.toInt ≤ -10
    · exact Or.inl (hA_no (by rw [e]; omega))
    · have z : ab / 10 = 0 := by
        apply Int32.toInt_inj.mp
        rw [e, show (0 : Int32).toInt = 0 from rfl]
        omega
      refine Or.inr (hA_no ?_)
      rw [z, Int32.zero_mul, Int32.sub_zero]
      omega
  unfold two
  rcases n1 with u | u
  · rw [u]
  · rw [u]
    cases hA n (ab / 10) <;> rfl
theorem xS_put {σ : zI} {a sz k : Nat} {so : Int32} {C : Nat → Int32} (h : xS σ a so sz C) (x : Int32) : xS (zsI σ (49 + 2 * a + 1) k x) a so sz (upd C k x) := by
  obtain ⟨p0, p1, p2, p3⟩ := h
  refine ⟨p0, by rw [zsI_no (by omega)]; exact p1, by rw [zsI_no (by omega)]; exact p2, fun u hu => ?_⟩
  by_cases z : u = k
  · subst z; rw [zsI_at, u_eq]
  · rw [zsI_no (Or.inr z), u_ne z]; exact p3 u hu
theorem mS_put {σ : zI} {a sz k : Nat} {so : Int32} {C : Nat → Int32} (h : mS σ a so sz C) (x : Int32) : mS (zsI σ 77 (40 * a + k) x) a so sz (upd C k x) := by
  obtain ⟨p0, p1, p2, p3⟩ := h
  refine ⟨p0, by rw [zsI_no (by omega)]; exact p1, by rw [zsI_no (by omega)]; exact p2, fun u hu => ?_⟩
  by_cases z : u = k
  · subst z; rw [zsI_at, u_eq]
  · rw [zsI_no (by omega), u_ne z]; exact p3 u hu
theorem xS_cg {σ : zI} {a sz : Nat} {so : Int32} {C C' : Nat → Int32} (h : xS σ a so sz C) (he : ∀ k, k < 40 → C k = C' k) : xS σ a so sz C' :=
  ⟨h.1, h.2.1, h.2.2.1, fun k hk => (h.2.2.2 k hk).trans (he k hk)⟩
theorem mS_cg {σ : zI} {a sz : Nat} {so : Int32} {C C' : Nat → Int32} (h : mS σ a so sz C) (he : ∀ k, k < 40 → C k = C' k) : mS σ a so sz C' :=
  ⟨h.1, h.2.1, h.2.2.1, fun k hk => (h.2.2.2 k hk).trans (he k hk)⟩
theorem xSS_up {σ σ1 : zI} {S : Nat → zS} {l : List Nat} {c sz : Nat} {so : Int32} {C : Nat → Int32} (hS : xSS σ S) (hf : zfr l σ σ1) (hl : ∀ x, x ∈ l → x < 49 ∨ 57 ≤ x ∨ x = 49 + 2 * c ∨ x = 49 + 2 * c + 1) (h : xS σ1 c so sz C) : xSS σ1 (upS S c (so, sz, C)) := by
  intro i hi
  by_cases e : i = c
  · subst e
    rw [upS_at]
    exact h
  · rw [upS_no e]
    obtain ⟨p0, p1, p2, p3⟩ := hS i hi
    have n1 : 49 + 2 * i ∉ l := fun q => by have := hl _ q; omega
    have n2 : 49 + 2 * i + 1 ∉ l := fun q => by have := hl _ q; omega
    exact ⟨p0, by rw [hf _ n1]; exact p1, by rw [hf _ n1]; exact p2, fun k hk => by rw [hf _ n2]; exact p3 k hk⟩
theorem mSS_up {σ σ1 : zI} {S : Nat → zS} {c sz : Nat} {so : Int32} {C : Nat → Int32} (hS : mSS σ S) (h7 : ∀ k, k ≠ c → σ1 75 k = σ 75 k ∧ σ1 76 k = σ 76 k) (h8 : ∀ k, k < 160 → (k < 40 * c ∨ 40 * c + 40 ≤ k) → σ1 77 k = σ 77 k) (h : mS σ1 c so sz C) : mSS σ1 (upS S c (so, sz, C)) := by
  intro i hi
  by_cases e : i = c
  · subst e
    rw [upS_at]
    exact h
  · rw [upS_no e]
    obtain ⟨p0, p1, p2, p3⟩ := hS i hi
    exact ⟨p0, by rw [(h7 i e).1]; exact p1, by rw [(h7 i e).2]; exact p2, fun k hk => by rw [h8 _ (by omega) (by omega)]; exact p3 k hk⟩
theorem filC_up (L : Nat → Option Nat) (k u : Nat) : ∀ j, upd (upd (filC L k u) (2 * u) (nI (k + u))) (2 * u + 1) ((on (L (k + u))).toInt16.toInt32) j = filC L k (u + 1) j := by
  intro j
  by_cases c1 : j = 2 * u + 1
  · subst c1
    rw [u_eq]
    unfold filC
    rw [if_pos (by omega), if_neg (by omega), show (2 * u + 1) / 2 = u by omega]
  · rw [u_ne c1]
    by_cases c2 : j = 2 * u
    · subst c2
      rw [u_eq]
      unfold filC
      rw [if_pos (by omega), if_pos (by omega), show 2 * u / 2 = u by omega]
    · rw [u_ne c2]
      unfold filC
      by_cases c3 : j < 2 * u
      · rw [if_pos c3, if_pos (show j < 2 * (u + 1) by omega)]
      · rw [if_neg c3, if_neg (show ¬ j < 2 * (u + 1) by omega)]
theorem filC_0 (L : Nat → Option Nat) (k : Nat) : ∀ j, (fun _ => (0 : Int32)) j = filC L k 0 j := fun j => by
  unfold filC
  rw [if_neg (by omega)]
theorem short_nI {v : Nat} (h : v < 32768) : (nI v).toInt16.toInt32 = nI v := lg_i2s_small (by rw [nI_toInt' (by omega)]; omega) (by rw [nI_toInt' (by omega)]; omega)
theorem dSh_ok {c m : Nat} (hc : c < 4) (hm : m ≤ 40) : dSh (nI c) 1 (nI m) = some (some (c, m)) := by
  unfold dSh
  rw [hA_nI hc (by omega)]
  show (if -1 ≤ (1 : Int32).toInt ∧ (1 : Int32).toInt ≤ 2 then (if (1 : Int32) = -1 then some (some (c, 0)) else if 40 < (nI m).toInt then none else if (nI m).toInt < 0 then some none else some (some (c, (nI m).toInt.toNat))) else none) = _
  rw [if_pos (by decide), if_neg (by decide), nI_toInt' (by omega), if_neg (by omega), if_neg (by omega), Int.toNat_natCast]
section
variable {d : Nat} {g : zG} {σ : zI} {K : Int32 → zI → Prop}
theorem cx_film (hg : zGA g) {E : zE} {T n : Nat} {fam : Nat → zH} {S : Nat → zS} (ht : xTx σ T E.1 E.2.1 E.2.2) (hF : xF σ n fam) (hS : xSS σ S) {s ab sm q : Int32} (h0 : dFil n s ab sm q = none → K (-2) σ)
    (h1 : ∀ c i j k m, dFil n s ab sm q = some (c, i, j, k, m) → c < 4 → i < n → j < n → i ≠ j → k ≤ 99 → m ≤ 20 → k + m ≤ 100 → ∀ σ', zfr [20, 21, 23, 24, 25, 49 + 2 * c, 49 + 2 * c + 1] σ σ' → xSS σ' (filS S c (ls (prc E (fam i) (fam j))) k m) → K (nI m) σ') : zCI mX7_film (d + 6) [.ref 0, .int s, .int ab, .int sm, .int q] g σ K := by
  have n6 := hF.1
  have e0 : (0 : Int32).toInt = 0 := rfl
  have e20 : (20 : Int32).toInt = 20 := rfl
  refine s_X7_film hg (cx_sheetAt hg (fun w => ?_) (fun c w hc hs => ⟨(gr_sheets_n hg c hc).2, cx_two hg hF (fun w2 => h0 (dFil_2 w2)) (fun i j w2 => ?_)⟩))
  · have h2 : K (-2) σ := h0 (dFil_1 w)
    refine cx_heirAt hg hF (fun _ => cx_heirAt hg hF (fun _ => h2) (fun j _ hj _ => ⟨(gr_family_n hg j (by omega)).2, h2⟩)) (fun i _ hi _ => ⟨(gr_family_n hg i (by omega)).2, cx_heirAt hg hF (fun _ => h2) (fun j _ hj _ => ⟨(gr_family_n hg j (by omega)).2, h2⟩)⟩)
  · have ed := dFil_3 (sm := sm) (q := q) w w2
    obtain ⟨hi, hj, hij, _, _⟩ := two_some n6 w2
    have bad : ¬ (0 ≤ sm.toInt ∧ sm.toInt ≤ 99 ∧ 0 ≤ q.toInt ∧ q.toInt ≤ 20) → K (-2) σ := fun u => h0 (by rw [ed, if_neg u])
    refine cx_isSum hg (fun u => z0 (bad (by omega))) (fun u u2 => z1 (t_lt (fun v => bad (by omega)) (fun v => t_le (fun v2 => ?_) (fun v2 => bad (by omega)))))
    rw [if_pos ⟨u, u2, by omega, by omega⟩] at ed
    obtain ⟨k, hk, rfl⟩ := zNat (v := sm) (n := 99) (by omega) (by omega) (by omega)
    obtain ⟨r, hr, rfl⟩ := zNat (v := q) (n := 20) (by omega) (by omega) (by omega)
    rw [nI_toInt' (n := k) (by omega), nI_toInt' (n := r) (by omega), Int.toNat_natCast, Int.toNat_natCast] at ed
    have em : (if (100 : Int32) - nI k < nI r then (100 : Int32) - nI k else nI r) = nI (min r (100 - k)) := by
      rw [show (100 : Int32) - nI k = nI (100 - k) from pk_sub (a := 100) (by omega)]
      by_cases z : 100 - k < r
      · rw [if_pos ((nI_ltI (by omega) (by omega)).mpr z), show min r (100 - k) = 100 - k by omega]
      · rw [if_neg (fun y => z ((nI_ltI (by omega) (by omega)).mp y)), show min r (100 - k) = r by omega]
    rw [em, show (2 : Int32) * nI (min r (100 - k)) = nI (2 * min r (100 - k)) from pk_mul 2 _]
    generalize hM : min r (100 - k) = M at *
    have M1 : M ≤ 20 := by omega
    have M2 : k + M ≤ 100 := by omega
    have fin := h1 c i j k M ed hc hi hj hij hk M1 M2
    refine cx_fillPrice (l := 99) hg ht (gr_family_n hg i (by omega)).2 (gr_family_n hg j (by omega)).2 (hF.2.2 i hi).2 (hF.2.2 j hj).2 (by omega) (fun σ1 hf1 h25 => ?_)
    refine cx_layS (sz := 2 * M) (so := 1) hg hc (by omega) (fun σ2 hf2 hS2 => ?_)
    generalize ls (prc E (fam i) (fam j)) = L at *
    have hf12 : zfr [20, 21, 23, 24, 25, 49 + 2 * c, 49 + 2 * c + 1] σ σ2 := zfr_tr (zfr_up hf1 (by intro x hx; simp at hx ⊢; omega)) (zfr_up hf2 (by intro x hx; simp at hx ⊢; omega))
    have h25' : ∀ t, t ≤ 99 → σ2 25 t = on (L t) := fun t ht => by rw [hf2 25 (by simp; omega)]; exact h25 t ht
    have key : ∀ (r u : Nat) (σ3 : zI), u + r = M → zfr [20, 21, 23, 24, 25, 49 + 2 * c, 49 + 2 * c + 1] σ σ3 → (∀ t, t ≤ 99 → σ3 25 t = on (L t)) → xS σ3 c 1 (2 * M) (filC L k u) → p_X7_film_112 (d + 5) g K σ3 (nI k) (49 + 2 * c) (nI M) (nI u) := by
      intro r
      induction r with
      | zero =>
        intro u σ3 hr hf h25 hx
        have e : u = M := by omega
        subst e
        refine s_X7_film_112 hg (gr_sheets_n hg c hc).2 (i_le u u rfl rfl (by omega) (by omega) (fun _ => fin σ3 hf (xSS_up hS hf (by intro x hx; simp at hx; omega) hx)) (fun q => by omega))
      | succ r ih =>
        intro u σ3 hr hf h25 hx
        refine s_X7_film_112 hg (gr_sheets_n hg c hc).2 (i_le M u rfl rfl (by omega) (by omega) (fun q => by omega) (fun _ => ?_))
        rw [show (2 : Int32) * nI u = nI (2 * u) from pk_mul 2 u, nI_add, nI_1 u, nI_1 (2 * u)]
        refine cx_put (d := d + 4) hg hc hx (by omega) ?_
        have ev : vC 1 (nI (k + u)) = nI (k + u) := by
          unfold vC
          rw [if_neg (by decide), if_pos rfl]
          exact short_nI (by omega)
        rw [ev]
        have hx2 := xS_put (k := 2 * u) hx (nI (k + u))
        refine cx_leastOf (d := d + 4) hg (by omega) (cx_put (d := d + 4) hg hc hx2 (by omega) ?_)
        have ev2 : vC 1 (zsI σ3 (49 + 2 * c + 1) (2 * u) (nI (k + u)) 25 (k + u)) = (on (L (k + u))).toInt16.toInt32 := by
          rw [zsI_no (Or.inl (by omega)), h25 (k + u) (by omega)]
          unfold vC
          rw [if_neg (by decide), if_pos rfl]
        rw [ev2]
        have hx3 := xS_put (k := 2 * u + 1) hx2 ((on (L (k + u))).toInt16.toInt32)
        refine ih (u + 1) _ (by omega) (zfr_put (zfr_put hf (by simp)) (by simp)) (fun t ht => ?_) (xS_cg hx3 (fun j _ => filC_up L k u j))
        rw [zsI_no (Or.inl (by omega)), zsI_no (Or.inl (by omega))]
        exact h25 t ht
    exact key M 0 σ2 (by omega) hf12 h25' (xS_cg hS2 (fun j _ => filC_0 L k j))
theorem cm_film (hg : zGA g) {E : zE} {T n : Nat} {fam : Nat → zH} {S : Nat → zS} (ht : mTx σ T E.1 E.2.1 E.2.2) (hF : mF σ n fam) (hS : mSS σ S) (h68 : σ 68 0 = 0) (h69 : σ 69 0 = 0) {s ab sm q : Int32} (h0 : dFil n s ab sm q = none → K (-2) σ)
    (h1 : ∀ c i j k m, dFil n s ab sm q = some (c, i, j, k, m) → c < 4 → i < n → j < n → i ≠ j → k ≤ 99 → m ≤ 20 → k + m ≤ 100 → ∀ σ', zfr [66, 67, 68, 69, 75, 76, 77] σ σ' → σ' 68 0 = 0 → σ' 69 0 = 0 → mSS σ' (filS S c (ls (prc E (fam i) (fam j))) k m) → K (nI m) σ') : zCI mX8_film (d + 6) [.ref 57, .int s, .int ab, .int sm, .int q] g σ K := by
  have n6 := hF.1
  have e0 : (0 : Int32).toInt = 0 := rfl
  have e20 : (20 : Int32).toInt = 20 := rfl
  refine s_X8_film hg (cm_isSheet (d := d + 4) hg (fun w => z0 (h0 (dFil_1 w))) (fun c w hc hs => z1 (t_lt (fun y => h0 (dFil_2 (two_neg (by omega)))) (fun y => cm_areTwo (d := d + 3) hg hF (fun w2 => z0 (h0 (dFil_2 w2))) (fun i j w2 => z1 ?_)))))
  have ed := dFil_3 (sm := sm) (q := q) w w2
  subst hs
  obtain ⟨hi, hj, hij, ei, ej⟩ := two_some n6 w2
  rw [ej, ei]
  have bad : ¬ (0 ≤ sm.toInt ∧ sm.toInt ≤ 99 ∧ 0 ≤ q.toInt ∧ q.toInt ≤ 20) → K (-2) σ := fun u => h0 (by rw [ed, if_neg u])
  refine cm_isSum (d := d + 4) hg (fun u => z0 (bad (by omega))) (fun u u2 => z1 (cm_within (d := d + 5) hg (fun v => z0 (bad (by omega))) (fun v v2 => z1 ?_)))
  rw [if_pos ⟨u, u2, by omega, by omega⟩] at ed
  obtain ⟨k, hk, rfl⟩ := zNat (v := sm) (n := 99) (by omega) (by omega) (by omega)
  obtain ⟨r, hr, rfl⟩ := zNat (v := q) (n := 20) (by omega) (by omega) (by omega)
  rw [nI_toInt' (n := k) (by omega), nI_toInt' (n := r) (by omega), Int.toNat_natCast, Int.toNat_natCast] at ed
  have xi := (hF.2.2 i hi).1
  have yj := (hF.2.2 j hj).1
  have m40 : ∀ a b : Nat, (40 : Int32) * nI a + nI b = nI (40 * a + b) := fun a b => by rw [show (40 : Int32) * nI a = nI (40 * a) from pk_mul 40 a, nI_add]
  have main : ∀ M, M = min r (100 - k) → zCV mX8_sums (d + 5) [.ref 57, .int (nI i), .int (nI j)] g σ (fun σ5 => zCI mX8_sheet (d + 5) [.ref 57, .int (nI c), .int 1, .int (2 * nI M)] g σ5 (fun v5 σ6 => p_X8_film_93 (d + 5) g K σ6 (nI c) (nI k) (nI M) 0)) := by
    intro M hM
    rw [← hM] at ed
    have M1 : M ≤ 20 := by omega
    have M2 : k + M ≤ 100 := by omega
    have fin := h1 c i j k M ed hc hi hj hij hk M1 M2
    refine cm_sums' (d := d) hg xi yj ht (hF.2.2 i hi).2 (hF.2.2 j hj).2 h68 h69 (fun σ1 hf1 hv => ?_)
    have z8 : σ1 68 0 = 0 := by rw [(hv 0 (by omega)).1, ls_0]; rfl
    have z9 : σ1 69 0 = 0 := by rw [(hv 0 (by omega)).2, ls_0]; rfl
    generalize hL : ls (prc E (fam i) (fam j)) = L at *
    have eds := dSh_ok (m := 2 * M) hc (by omega)
    rw [show (2 : Int32) * nI M = nI (2 * M) from pk_mul 2 M]
    refine cm_sheet (d := d + 3) hg (fun y => by rw [eds] at y; cases y) (fun y => by rw [eds] at y; cases y) (fun c2 sz y hc2 σ2 hf2 h7 h8 hS2 => ?_)
    rw [eds] at y
    cases y
    have key : ∀ (r u : Nat) (σ3 : zI), u + r = M → zfr [66, 67, 68, 69, 75, 76, 77] σ σ3 → σ3 68 = σ1 68 → σ3 69 = σ1 69 → (∀ k, k ≠ c → σ3 75 k = σ 75 k ∧ σ3 76 k = σ 76 k) → (∀ k, k < 160 → (k < 40 * c ∨ 40 * c + 40 ≤ k) → σ3 77 k = σ 77 k) → mS σ3 c 1 (2 * M) (filC L k u) → p_X8_film_93 (d + 5) g K σ3 (nI c) (nI k) (nI M) (nI u) := by
      intro r
      induction r with
      | zero =>
        intro u σ3 hr hf g8 g9 h7 h8 hx
        have e : u = M := by omega
        subst e
        exact s_X8_film_93 hg (i_le u u rfl rfl (by omega) (by omega) (fun _ => fin σ3 hf (by rw [g8]; exact z8) (by rw [g9]; exact z9) (mSS_up hS h7 h8 hx)) (fun q => by omega))
      | succ r ih =>
        intro u σ3 hr hf g8 g9 h7 h8 hx
        refine s_X8_film_93 hg (i_le M u rfl rfl (by omega) (by omega) (fun q => by omega) (fun _ => ?_))
        rw [show (2 : Int32) * nI u = nI (2 * u) from pk_mul 2 u, m40, nI_add, nI_1 u, nI_1 (40 * c + 2 * u), c_nI (n := 40 * c + 2 * u) (by omega), c_nI (n := 40 * c + 2 * u + 1) (by omega), c_nI (n := k + u) (by omega), g8, (hv (k + u) (by omega)).1]
        refine ⟨v_in (by omega) (by omega), v_in (by omega) (by omega), v_in (by omega) (by omega), ?_⟩
        have hx2 := mS_put (k := 2 * u) hx (nI (k + u))
        have hx3 := mS_put (k := 2 * u + 1) hx2 ((on (L (k + u))).toInt16.toInt32)
        rw [← Nat.add_assoc] at hx3
        refine ih (u + 1) _ (by omega) (zfr_put (zfr_put hf (by decide)) (by decide)) (by rw [zsI_ne (by decide), zsI_ne (by decide)]; exact g8) (by rw [zsI_ne (by decide), zsI_ne (by decide)]; exact g9) (fun j hj => ?_) (fun j hj hj2 => ?_) (mS_cg hx3 (fun j _ => filC_up L k u j))
        · rw [zsI_no (by omega), zsI_no (by omega), zsI_no (by omega), zsI_no (by omega)]
          exact h7 j hj
        · rw [zsI_no (by omega), zsI_no (by omega)]
          exact h8 j hj hj2
    refine key M 0 σ2 (by omega) (zfr_tr (zfr_up hf1 (by decide)) (zfr_up hf2 (by decide))) (hf2 68 (by decide)) (hf2 69 (by decide)) (fun k hk => ?_) (fun k hk hk2 => ?_) (mS_cg hS2 (fun j _ => filC_0 L k j))
    · rw [(h7 k hk).1, (h7 k hk).2, hf1 75 (by decide), hf1 76 (by decide)]
      exact ⟨rfl, rfl⟩
    · rw [h8 k hk hk2, hf1 77 (by decide)]
  rw [show (100 : Int32) - nI k = nI (100 - k) from pk_sub (a := 100) (by omega)]
  exact i_le (100 - k) r rfl rfl (by omega) (by omega) (fun z => main (100 - k) (by omega)) (fun z => main r (by omega))
end
