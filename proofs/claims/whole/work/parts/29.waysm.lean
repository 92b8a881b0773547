/-! the ways of a SUM: the reference; pays: both sides -/
section
variable {d : Nat} {g : zG} {σ : zI}
theorem cm_ways {K : zI → Prop} (hg : zGA g) {W : Nat → Nat → Option Nat} {n f : Nat} (hn : n ≤ 6) (hf0 : f < n) (hw : ∀ u v w, W u v = some w → w ≤ 40000) (hii : ∀ i, W i i = none)
    (h4 : σ 57 1 = nI n) (hT : ∀ a b, a < n → b < n → a ≠ b → σ 71 (6 * a + b) = on (W a b)) (h1 : ∀ σ', zfr [72, 73] σ σ' → mW σ' n (wyR W n 6 (s0 f)) → K σ') : zCV mX8_ways d [.ref 57, .int (nI f)] g σ K := by
  have m6 : ∀ a b : Nat, (6 : Int32) * nI a + nI b = nI (6 * a + b) := fun a b => by rw [show (6 : Int32) * nI a = nI (6 * a) from pk_mul 6 a, nI_add]
  have keyJ : ∀ (k i t : Nat) (s : Nat → Option (Nat × Nat)), i < n → t ≤ 1000 → bnd t s → (∀ σ2, zfr [72, 73] σ σ2 → mW σ2 n (wyJ W i n s) → p_X8_ways_49 d g K σ2 (nI k) (nI (i + 1))) → ∀ (r j : Nat) (σ1 : zI), j + r = n → zfr [72, 73] σ σ1 → mW σ1 n (wyJ W i j s) → p_X8_ways_60 d g K σ1 (nI k) (nI i) (nI j) := by
    intro k i t s hi ht hb hk r
    induction r with
    | zero =>
      intro j σ1 hr hf hs1
      have e : j = n := by omega
      subst e
      refine s_X8_ways_60 hg ?_
      rw [hf 57 (by decide), h4, nI_1 i]
      exact i_le j j rfl rfl (by omega) (by omega) (fun _ => hk σ1 hf hs1) (fun q => by omega)
    | succ r ih =>
      intro j σ1 hr hf hs1
      have bj := bnd_J (i := i) hw hb j
      generalize hS : wyJ W i j s = S at *
      have eS : wyJ W i (j + 1) s = wyE W i j S := by rw [← hS]; rfl
      have nx : ∀ σ2, zfr [72, 73] σ σ2 → mW σ2 n (wyE W i j S) → p_X8_ways_60 d g K σ2 (nI k) (nI i) (nI (j + 1)) := fun σ2 f1 f2 => ih (j + 1) σ2 (by omega) f1 (by rw [eS]; exact f2)
      obtain ⟨ci, ki⟩ := hs1 i hi
      obtain ⟨cj, kj⟩ := hs1 j (by omega)
      refine s_X8_ways_60 hg ?_
      rw [hf 57 (by decide), h4, m6, c_nI (n := 6 * i + j) (by omega), c_nI (n := i) (by omega), c_nI (n := j) (by omega), nI_1 j]
      refine i_le n j rfl rfl (by omega) (by omega) (fun q => by omega) (fun _ => i_eq i j rfl rfl (by omega) (by omega) (fun q => ?_) (fun q => ⟨v_in (by omega) (by omega), ?_⟩))
      · subst q
        exact nx σ1 hf (by rw [wyE_n2 (hii i)]; exact hs1)
      · rw [ci]
        refine oc_eq (fun x hx => by have := bj i x hx; omega) (fun z => nx σ1 hf (by rw [wyE_n1 z]; exact hs1)) (fun x sf => ⟨v_in (by omega) (by omega), ?_⟩)
        have xb := bj i x sf
        rw [sf] at ci ki
        have ci : σ1 72 i = nI x.1 := ci
        have ki : σ1 73 i = nI x.2 := ki
        have e71 : σ1 71 (6 * i + j) = on (W i j) := by rw [hf 71 (by decide)]; exact hT i j hi (by omega) q
        rw [e71]
        refine o_eq rfl (fun v hv => by have := hw _ _ _ hv; omega) (fun z => nx σ1 hf (by rw [wyE_n2 z]; exact hs1)) (fun w z => ⟨v_in (by omega) (by omega), v_in (by omega) (by omega), v_in (by omega) (by omega), ?_⟩)
        have wl := hw _ _ _ z
        rw [sf, z, ki, show on (some w) = nI w from rfl, show oc (some x) = nI x.1 from rfl, nI_add, nI_1 x.2, cj, kj]
        have no : bt (x.1 + w, x.2 + 1) (S j) = false → p_X8_ways_60 d g K σ1 (nI k) (nI i) (nI (j + 1)) := fun c => nx σ1 hf (by rw [wyE_eq sf z, c]; exact hs1)
        have yes : bt (x.1 + w, x.2 + 1) (S j) = true → p_X8_ways_60 d g K (zsI (zsI σ1 72 j (nI (x.1 + w))) 73 j (nI (x.2 + 1))) (nI k) (nI i) (nI (j + 1)) := fun c => nx _ (zfr_put (zfr_put hf (by decide)) (by decide)) (by
          rw [wyE_eq sf z, c, if_pos rfl]
          intro v hv
          unfold up2
          by_cases e : v = j
          · subst e
            rw [if_pos rfl, zsI_at, zsI_no (Or.inl (by decide)), zsI_at]
            exact ⟨rfl, rfl⟩
          · rw [if_neg e, zsI_no (Or.inr e), zsI_no (Or.inr e), zsI_no (Or.inr e), zsI_no (Or.inr e)]
            exact hs1 v hv)
        refine oc_eq (fun y hy => by have := bj j y hy; omega) (fun u => ⟨v_in (by omega) (by omega), v_in (by omega) (by omega), v_in (by omega) (by omega), ?_⟩) (fun y u => ⟨v_in (by omega) (by omega), ?_⟩)
        · exact yes (by rw [u]; rfl)
        · have yb := bj j y u
          rw [u, show oc (some y) = nI y.1 from rfl, show os 0 (some y) = nI y.2 from rfl]
          have eb : bt (x.1 + w, x.2 + 1) (S j) = (decide (x.1 + w < y.1) || (decide (x.1 + w = y.1) && decide (x.2 + 1 < y.2))) := by rw [u]; rfl
          refine i_lt y.1 (x.1 + w) rfl rfl (by omega) (by omega) (fun k => no ?_) (fun k => ⟨v_in (by omega) (by omega), i_eq (x.1 + w) y.1 rfl rfl (by omega) (by omega) (fun k2 => ⟨v_in (by omega) (by omega), v_in (by omega) (by omega), i_lt (x.2 + 1) y.2 rfl rfl (by omega) (by omega) (fun k3 => ⟨v_in (by omega) (by omega), v_in (by omega) (by omega), v_in (by omega) (by omega), yes ?_⟩) (fun k3 => no ?_)⟩) (fun k2 => ⟨v_in (by omega) (by omega), v_in (by omega) (by omega), v_in (by omega) (by omega), yes ?_⟩)⟩)
          · rw [eb]; simp; omega
          · rw [eb]; simp [k2, k3]
          · rw [eb]; simp; omega
          · rw [eb]; simp; omega
  have keyR : ∀ (r k : Nat) (σ1 : zI), k + r = 6 → zfr [72, 73] σ σ1 → mW σ1 n (wyR W n k (s0 f)) → p_X8_ways_41 d g K σ1 (nI k) := by
    intro r
    induction r with
    | zero =>
      intro k σ1 hr hf hs
      have e : k = 6 := by omega
      subst e
      exact s_X8_ways_41 hg (i_le 6 6 rfl rfl (by omega) (by omega) (fun _ => h1 σ1 hf hs) (fun q => by omega))
    | succ r ih =>
      intro k σ1 hr hf hs
      refine s_X8_ways_41 hg (i_le 6 k rfl rfl (by omega) (by omega) (fun q => by omega) (fun _ => ?_))
      have keyI : ∀ (m i : Nat) (σ2 : zI), i + m = n → zfr [72, 73] σ σ2 → mW σ2 n (wyI W n i (wyR W n k (s0 f))) → p_X8_ways_49 d g K σ2 (nI k) (nI i) := by
        intro m
        induction m with
        | zero =>
          intro i σ2 hm hf2 hs2
          have e : i = n := by omega
          subst e
          refine s_X8_ways_49 hg ?_
          rw [hf2 57 (by decide), h4, nI_1 k]
          exact i_le i i rfl rfl (by omega) (by omega) (fun _ => ih (k + 1) σ2 (by omega) hf2 hs2) (fun q => by omega)
        | succ m ih2 =>
          intro i σ2 hm hf2 hs2
          refine s_X8_ways_49 hg ?_
          rw [hf2 57 (by decide), h4]
          refine i_le n i rfl rfl (by omega) (by omega) (fun q => by omega) (fun _ => ?_)
          exact keyJ k i _ _ (by omega) (by omega) (bnd_I hw hn (bnd_R hw hn k) i) (fun σ3 f3 s3 => ih2 (i + 1) σ3 (by omega) f3 s3) n 0 σ2 (by omega) hf2 hs2
      exact keyI n 0 σ1 (by omega) hf hs
  have key0 : ∀ (r v : Nat) (σ1 : zI), v + r = n → zfr [72, 73] σ σ1 → (∀ u, u < v → σ1 72 u = oc (s0 f u) ∧ σ1 73 u = os 0 (s0 f u)) → p_X8_ways_2 d g K σ1 (nI f) (nI v) := by
    intro r
    induction r with
    | zero =>
      intro v σ1 hr hf hs
      have e : v = n := by omega
      subst e
      refine s_X8_ways_2 hg ?_
      rw [hf 57 (by decide), h4]
      exact i_le v v rfl rfl (by omega) (by omega) (fun _ => keyR 6 0 σ1 (by omega) hf hs) (fun q => by omega)
    | succ r ih =>
      intro v σ1 hr hf hs
      refine s_X8_ways_2 hg ?_
      rw [hf 57 (by decide), h4, c_nI (n := v) (by omega), nI_1 v]
      have nx : ∀ a b, a = oc (s0 f v) → b = os 0 (s0 f v) → p_X8_ways_2 d g K (zsI (zsI σ1 72 v a) 73 v b) (nI f) (nI (v + 1)) := fun a b ha hb => by
        refine ih (v + 1) _ (by omega) (zfr_put (zfr_put hf (by decide)) (by decide)) (fun u hu => ?_)
        by_cases e : u = v
        · subst e
          rw [zsI_at, zsI_no (Or.inl (by decide)), zsI_at]
          exact ⟨ha, hb⟩
        · rw [zsI_no (Or.inr e), zsI_no (Or.inr e), zsI_no (Or.inr e), zsI_no (Or.inr e)]
          exact hs u (by omega)
      have ey : v = f → s0 f v = some (0, 0) := fun e => if_pos e
      have en : v ≠ f → s0 f v = none := fun e => if_neg e
      refine i_le n v rfl rfl (by omega) (by omega) (fun q => by omega) (fun _ => i_eq v f rfl rfl (by omega) (by omega) (fun q => ⟨v_in (by omega) (by omega), v_in (by omega) (by omega), nx _ _ ?_ ?_⟩) (fun q => ⟨v_in (by omega) (by omega), v_in (by omega) (by omega), nx _ _ ?_ ?_⟩))
      · rw [ey q]; rfl
      · rw [ey q]; rfl
      · rw [en q]; rfl
      · rw [en q]; rfl
  exact s_X8_ways hg (key0 n 0 σ (by omega) (zfr_rf _ _) (fun u hu => by omega))
/-- the PAYMENTS of a SUM among n HEIRS -/
def Wn (E : zE) (fam : Nat → zH) (n s u v : Nat) : Option Nat := if u < n ∧ v < n then tl E fam s u v else none
def pval (E : zE) (fam : Nat → zH) (n i j s w : Nat) : Int32 := if w = 0 then on (ls (prc E (fam i) (fam j)) s) else if w = 1 then on (ls (one1 (fam i) (fam j)) s) else if w = 2 then oc (wyR (Wn E fam n s) n (n - 1) (s0 i) j) else os (-1) (wyR (Wn E fam n s) n (n - 1) (s0 i) j)
def aPays (E : zE) (fam : Nat → zH) (n : Nat) (a b s w : Int32) : Int32 := match two n a b with
  | none => -2
  | some (i, j) => if 0 ≤ s.toInt ∧ s.toInt ≤ 99 ∧ 0 ≤ w.toInt ∧ w.toInt ≤ 3 then pval E fam n i j s.toInt.toNat w.toInt.toNat else -2
theorem Wn_in {E : zE} {fam : Nat → zH} {n s u v w : Nat} (h : Wn E fam n s u v = some w) : u < n ∧ v < n := by
  unfold Wn at h
  split at h
  · next q => exact q
  · simp at h
theorem Wn_ii (E : zE) (fam : Nat → zH) (n s i : Nat) : Wn E fam n s i i = none := by
  unfold Wn tl
  simp
theorem Wn_le {E : zE} {fam : Nat → zH} {n s u v w : Nat} (hm : ∀ i, i < n → (fam i).2.2.1 ≤ 9) (hs : s ≤ 99) (h : Wn E fam n s u v = some w) : w ≤ 40000 := by
  have q := Wn_in h
  unfold Wn at h
  rw [if_pos q] at h
  exact tl_le ⟨hm u q.1, hm v q.2⟩ hs h
theorem Wn_tl {E : zE} {fam : Nat → zH} {n s u v : Nat} (hu : u < n) (hv : v < n) : Wn E fam n s u v = tl E fam s u v := if_pos ⟨hu, hv⟩
theorem cx_pays {K : Int32 → zI → Prop} (hg : zGA g) {E : zE} {T n : Nat} {fam : Nat → zH} (ht : xTx σ T E.1 E.2.1 E.2.2) (hF : xF σ n fam) {a b s w : Int32}
    (h1 : ∀ σ', zfr [20, 21, 23, 24, 25, 28, 30, 31, 32, 33, 34, 35, 36, 37] σ σ' → K (aPays E fam n a b s w) σ') : zCI mX7_pays (d + 7) [.ref 0, .int a, .int b, .int s, .int w] g σ K := by
  have n6 := hF.1
  have e0 : (0 : Int32).toInt = 0 := rfl
  have e3 : (3 : Int32).toInt = 3 := rfl
  unfold aPays at h1
  refine s_X7_pays hg (cx_two hg hF (fun q => ?_) (fun i j q => ?_))
  · rw [q] at h1; exact h1 σ (zfr_rf _ _)
  · rw [q] at h1
    obtain ⟨hi, hj, hij, rfl, rfl⟩ := two_some n6 q
    have h1 : ∀ σ', zfr [20, 21, 23, 24, 25, 28, 30, 31, 32, 33, 34, 35, 36, 37] σ σ' → K (if 0 ≤ s.toInt ∧ s.toInt ≤ 99 ∧ 0 ≤ w.toInt ∧ w.toInt ≤ 3 then pval E fam n i j s.toInt.toNat w.toInt.toNat else -2) σ' := h1
    have bad : ¬ (0 ≤ s.toInt ∧ s.toInt ≤ 99 ∧ 0 ≤ w.toInt ∧ w.toInt ≤ 3) → K (-2) σ := fun c => by
      have := h1 σ (zfr_rf _ _)
      rw [if_neg c] at this
      exact this
    refine cx_isSum hg (fun y => z0 (bad (by omega))) (fun y y2 => z1 (t_lt (fun q => bad (by omega)) (fun q => t_le (fun q2 => ?_) (fun q2 => bad (by omega)))))
    rw [if_pos ⟨by omega, by omega, by omega, by omega⟩] at h1
    obtain ⟨m, hm, rfl⟩ := zNat (v := s) (n := 99) (by omega) (by omega) (by omega)
    obtain ⟨k, hk, rfl⟩ := zNat (v := w) (n := 3) (by omega) (by omega) (by omega)
    rw [nI_toInt' (by omega), nI_toInt' (by omega), Int.toNat_natCast, Int.toNat_natCast] at h1
    have hoi := (gr_family_n hg i (by omega)).2
    have hoj := (gr_family_n hg j (by omega)).2
    have hx := (hF.2.2 i hi).2
    have hy := (hF.2.2 j hj).2
    unfold pval at h1
    refine i_le 2 k rfl rfl (by omega) (by omega) (fun c => ?_) (fun c => i_eq k 1 rfl rfl (by omega) (by omega) (fun c1 => ?_) (fun c1 => ?_))
    · rw [hF.2.1]
      refine cx_lay hg ht hF hm (fun σ1 hf h4 hv => ?_)
      refine cx_walk (d := d + 4) hg (W := Wn E fam n m) n6 hi (fun u v w h => Wn_le (fun i hi => xF_more hF hi) hm h) (Wn_ii E fam n m) h4 (fun a b ha hb => by rw [Wn_tl ha hb]; exact hv a b ha hb) (fun σ2 hf2 hs2 => ?_)
      have hk2 := h1 σ2 (zfr_tr (zfr_up hf (by decide)) (zfr_up hf2 (by decide)))
      have f4 : σ2 28 4 = nI n := by rw [hf2 28 (by decide)]; exact h4
      obtain ⟨r1, r2⟩ := hs2 j hj
      refine i_eq k 2 rfl rfl (by omega) (by omega) (fun c2 => s_X6_costTo hg ?_) (fun c2 => s_X6_stepsTo hg ?_)
      · rw [if_neg (nI_pos (by omega)), f4, if_pos (nI_lt (by omega) (by omega)), c_nI (by omega), r1]
        rw [if_neg (by omega), if_neg (by omega), if_pos c2] at hk2
        exact ⟨v_in (by omega) (by omega), hk2⟩
      · rw [if_neg (nI_pos (by omega)), f4, if_pos (nI_lt (by omega) (by omega)), c_nI (by omega), r2]
        rw [if_neg (by omega), if_neg (by omega), if_neg c2] at hk2
        exact ⟨v_in (by omega) (by omega), hk2⟩
    · rw [if_neg (by omega), if_pos c1] at h1
      refine cx_fillOne (d := d + 1) hg ht hoi hoj hx hy hm (fun σ1 hf hv => cx_leastOf (d := d + 5) hg hm ?_)
      rw [hv m (Nat.le_refl _)]
      exact h1 σ1 (zfr_up hf (by decide))
    · rw [if_pos (by omega)] at h1
      refine cx_fillPrice (d := d + 1) hg ht hoi hoj hx hy hm (fun σ1 hf hv => cx_leastOf (d := d + 5) hg hm ?_)
      rw [hv m (Nat.le_refl _)]
      exact h1 σ1 (zfr_up hf (by decide))
theorem cm_pays {K : Int32 → zI → Prop} (hg : zGA g) {E : zE} {T n : Nat} {fam : Nat → zH} (ht : mTx σ T E.1 E.2.1 E.2.2) (hF : mF σ n fam) (h68 : σ 68 0 = 0) (h69 : σ 69 0 = 0) {a b s w : Int32}
    (h1 : ∀ σ', zfr [66, 67, 68, 69, 71, 72, 73] σ σ' → σ' 68 0 = 0 → σ' 69 0 = 0 → K (aPays E fam n a b s w) σ') : zCI mX8_pays (d + 7) [.ref 57, .int a, .int b, .int s, .int w] g σ K := by
  have n6 := hF.1
  have e0 : (0 : Int32).toInt = 0 := rfl
  have e3 : (3 : Int32).toInt = 3 := rfl
  unfold aPays at h1
  refine s_X8_pays hg (cm_areTwo (d := d + 4) hg hF (fun q => z0 ?_) (fun i j q => z1 ?_))
  · rw [q] at h1; exact h1 σ (zfr_rf _ _) h68 h69
  · rw [q] at h1
    obtain ⟨hi, hj, hij, rfl, rfl⟩ := two_some n6 q
    have h1 : ∀ σ', zfr [66, 67, 68, 69, 71, 72, 73] σ σ' → σ' 68 0 = 0 → σ' 69 0 = 0 → K (if 0 ≤ s.toInt ∧ s.toInt ≤ 99 ∧ 0 ≤ w.toInt ∧ w.toInt ≤ 3 then pval E fam n i j s.toInt.toNat w.toInt.toNat else -2) σ' := h1
    have bad : ¬ (0 ≤ s.toInt ∧ s.toInt ≤ 99 ∧ 0 ≤ w.toInt ∧ w.toInt ≤ 3) → K (-2) σ := fun c => by
      have := h1 σ (zfr_rf _ _) h68 h69
      rw [if_neg c] at this
      exact this
    refine cm_isSum (d := d + 5) hg (fun y => z0 (bad (by omega))) (fun y y2 => z1 (cm_within hg (fun q => z0 (bad (by omega))) (fun q q2 => z1 ?_)))
    rw [if_pos ⟨by omega, by omega, by omega, by omega⟩] at h1
    obtain ⟨m, hm, rfl⟩ := zNat (v := s) (n := 99) (by omega) (by omega) (by omega)
    obtain ⟨k, hk, rfl⟩ := zNat (v := w) (n := 3) (by omega) (by omega) (by omega)
    rw [nI_toInt' (by omega), nI_toInt' (by omega), Int.toNat_natCast, Int.toNat_natCast] at h1
    unfold pval at h1
    refine i_le 2 k rfl rfl (by omega) (by omega) (fun c => ?_) (fun c => ?_)
    · refine cm_legs hg ht hF hm h68 h69 (fun σ1 hf z8 z9 hv => ?_)
      have wl : ∀ u v w, Wn E fam n m u v = some w → w ≤ 40000 := fun u v w h => Wn_le (fun i hi => mF_more hF hi) hm h
      refine cm_ways hg (W := Wn E fam n m) n6 hi wl (Wn_ii E fam n m) (by rw [hf 57 (by decide)]; exact hF.2.1) (fun a b ha hb hab => by rw [Wn_tl ha hb]; exact hv a b ha hb hab) (fun σ2 hf2 hs2 => ?_)
      rw [wyR_one (fun u v w h => Wn_in h) (by omega) (by omega)] at hs2
      have hb5 := bnd_R (W := Wn E fam n m) (n := n) (f := i) wl n6 (n - 1)
      have hk2 := h1 σ2 (zfr_tr (zfr_up hf (by decide)) (zfr_up hf2 (by decide))) (by rw [hf2 68 (by decide)]; exact z8) (by rw [hf2 69 (by decide)]; exact z9)
      obtain ⟨r1, r2⟩ := hs2 j hj
      rw [if_neg (by omega), if_neg (by omega)] at hk2
      rw [c_nI (n := j) (by omega), r1, r2]
      generalize wyR (Wn E fam n m) n (n - 1) (s0 i) = S at *
      refine ⟨v_in (by omega) (by omega), oc_eq (fun x hx => by have := hb5 j x hx; omega) (fun z => ?_) (fun x z => i_eq k 2 rfl rfl (by omega) (by omega) (fun c2 => ⟨v_in (by omega) (by omega), ?_⟩) (fun c2 => ⟨v_in (by omega) (by omega), ?_⟩))⟩
      · rw [z] at hk2
        by_cases c2 : k = 2
        · rw [if_pos c2] at hk2; exact hk2
        · rw [if_neg c2] at hk2; exact hk2
      · rw [if_pos c2] at hk2; exact hk2
      · rw [if_neg c2] at hk2
        rw [z] at hk2 ⊢
        exact hk2
    · refine cm_sums' (d := d + 1) hg (hF.2.2 i hi).1 (hF.2.2 j hj).1 ht (hF.2.2 i hi).2 (hF.2.2 j hj).2 h68 h69 (fun σ1 hf hv => ?_)
      rw [c_nI (n := m) (by omega), (hv m (by omega)).1, (hv m (by omega)).2]
      have hk2 := h1 σ1 (zfr_up hf (by decide)) (hv 0 (by omega)).1 (hv 0 (by omega)).2
      refine i_eq k 0 rfl rfl (by omega) (by omega) (fun c2 => ⟨v_in (by omega) (by omega), ?_⟩) (fun c2 => ⟨v_in (by omega) (by omega), ?_⟩)
      · rw [if_pos c2] at hk2; exact hk2
      · rw [if_neg c2, if_pos (by omega)] at hk2; exact hk2
end
