/-! rows as told: the class's loops -/
theorem put_back {l : List Nat} {σ σ1 : zI} {i k : Nat} {v : Int32} (hf : zfr (i :: l) σ σ1) (hk : ∀ j, j ≠ k → σ1 i j = σ i j) (hv : σ i k = v) : zfr l σ (zsI σ1 i k v) := by
  intro a ha
  by_cases e : a = i
  · subst e
    rw [zsI_row]
    funext j
    by_cases z : j = k
    · subst z; rw [u_eq, hv]
    · rw [u_ne z]; exact hk j z
  · rw [zsI_ne e]
    exact hf a (fun q => by rcases List.mem_cons.mp q with u | u
                            · exact e u
                            · exact ha u)
def wKin (x : zH) (k : Nat) : zH := (x.1, k, x.2.2.1, x.2.2.2)
def wMor (x : zH) (k : Nat) : zH := (x.1, x.2.1, k, x.2.2.2)
def fKin (E : zE) (x y : zH) (C : Nat → Int32) (m k : Nat) : Bool := decide (fo E (wKin x k) y C m = -1)
def fMor (E : zE) (x y : zH) (C : Nat → Int32) (m k : Nat) : Bool := decide (fo E (wMor x k) y C m = -1)
def fTxt (E : zE) (x y : zH) (C : Nat → Int32) (m k : Nat) : Bool := decide (fo (k, E.2.1, E.2.2) x y C m = -1)
def fMust (E : zE) (x y : zH) (C : Nat → Int32) (m k : Nat) : Bool := x.2.2.2.testBit k && !decide (fo E (wOwn x (x.2.2.2 - 2 ^ k)) y C m = -1)
def fMay (E : zE) (x y : zH) (C : Nat → Int32) (m k : Nat) : Bool := !x.2.2.2.testBit k && decide (fo E (wOwn x (x.2.2.2 ||| 2 ^ k)) y C m = -1)
theorem mk_y {f : Nat → Bool} {j : Nat} (h : f j = true) : mk f (j + 1) = mk f j ||| 2 ^ j := by
  show (if f j then mk f j ||| 2 ^ j else mk f j) = _
  rw [if_pos h]
theorem mk_n {f : Nat → Bool} {j : Nat} (h : f j = false) : mk f (j + 1) = mk f j := by
  show (if f j then mk f j ||| 2 ^ j else mk f j) = _
  rw [if_neg (by rw [h]; decide)]
theorem orsh {b j : Nat} (hj : j < 32) : nI b ||| ((1 : Int32) <<< (nI j &&& 31)) = nI (b ||| 2 ^ j) := by rw [sh1 hj, fa_or]
theorem xTx_rule {σ : zI} {T R dy t : Nat} {P : Nat → Nat → List Nat} (h : xTx σ T R dy P) (ht : t < T) : xTx (zsI σ 3 6 (nI t)) T t dy P := by
  obtain ⟨p0, p1, p2, p3, p4, p5, p6⟩ := h
  refine ⟨p0, ht, p2, by rw [zsI_no (by omega)]; exact p3, zsI_at, by rw [zsI_no (by omega)]; exact p5, fun u hu q hq => ?_⟩
  obtain ⟨a1, s, a2, a3, a4, a5⟩ := p6 u hu q hq
  exact ⟨a1, s, by rw [zsI_no (by omega)]; exact a2, a3, fun i c hc => by rw [zsI_no (by omega)]; exact a4 i c hc, by rw [zsI_no (by omega)]; exact a5⟩
theorem xH_kin {σ : zI} {a : Nat} {x : zH} {o o' : Nat} (hx : xH σ a (wKin x o)) (ho : o' ≤ 5) : xH (zsI σ a 1 (nI o')) a (wKin x o') := by
  obtain ⟨e0, e1, e2, e3, e4, e5, e6, e7⟩ := hx
  refine ⟨?_, zsI_at, ?_, ?_, e4, ho, e6, e7⟩
  · rw [zsI_no (by omega)]; exact e0
  · rw [zsI_no (by omega)]; exact e2
  · rw [zsI_no (by omega)]; exact e3
theorem xH_mor {σ : zI} {a : Nat} {x : zH} {o o' : Nat} (hx : xH σ a (wMor x o)) (ho : o' ≤ 9) : xH (zsI σ a 2 (nI o')) a (wMor x o') := by
  obtain ⟨e0, e1, e2, e3, e4, e5, e6, e7⟩ := hx
  refine ⟨?_, ?_, zsI_at, ?_, e4, e5, ho, e7⟩
  · rw [zsI_no (by omega)]; exact e0
  · rw [zsI_no (by omega)]; exact e1
  · rw [zsI_no (by omega)]; exact e3
section
variable {d : Nat} {g : zG} {σ : zI} {K : Int32 → zI → Prop}
theorem cx_kinds (hg : zGA g) {E : zE} {T a i j m : Nat} {x y : zH} {so : Int32} {C : Nat → Int32} (ht : xTx σ T E.1 E.2.1 E.2.2) (ha : a < 4) (hS : xS σ a so (2 * m) C) (htk : tsm C 0 m = true) (hi : i < 6) (hj : j < 6) (hx : xH σ (43 + i) x) (hy : xH σ (43 + j) y)
    (h1 : ∀ σ', zfr [20, 21, 23, 24, 25, 41] σ σ' → K (nI (mk (fKin E x y C m) 6)) σ') : zCI mX7_kindsAsTold (d + 7) [.ref 0, .ref (49 + 2 * a), .ref (43 + i), .ref (43 + j)] g σ K := by
  have hoi := (gr_family_n hg i hi).2
  have hoj := (gr_family_n hg j hj).2
  refine s_X7_kindsAsTold hg (gr_sheets_n hg a ha).2 hoi hoj (cx_become hg (gA_41 hg) hoi (by omega) hx (fun σ0 hf0 hx0 => ?_))
  have key : ∀ (r k : Nat) (σ1 : zI) (o : Nat), k + r = 6 → zfr [20, 21, 23, 24, 25, 41] σ σ1 → xH σ1 41 (wKin x o) → p_X7_kindsAsTold_14 (d + 6) g K σ1 (49 + 2 * a) (43 + j) (nI (mk (fKin E x y C m) k)) (nI k) := by
    intro r
    induction r with
    | zero =>
      intro k σ1 o hr hf hx1
      have e : k = 6 := by omega
      subst e
      exact s_X7_kindsAsTold_14 hg (gr_sheets_n hg a ha).2 hoj (i_le 6 6 rfl rfl (by omega) (by omega) (fun _ => h1 σ1 hf) (fun q => by omega))
    | succ r ih =>
      intro k σ1 o hr hf hx1
      refine s_X7_kindsAsTold_14 hg (gr_sheets_n hg a ha).2 hoj (i_le 6 k rfl rfl (by omega) (by omega) (fun q => by omega) (fun _ => ?_))
      rw [orsh (by omega), nI_1 k]
      have hx2 := xH_kin hx1 (show k ≤ 5 by omega)
      have hf2 : zfr [20, 21, 23, 24, 25, 41] σ (zsI σ1 41 1 (nI k)) := zfr_put hf (by decide)
      refine cx_fo (d := d) hg (xTx_fr ht hf2 (by decide) (by decide)) ha (xS_fr hS ha hf2 (by decide)) htk (gA_41 hg) hoj hx2 (xHr_fr hy hf2 (by simp; omega)) (fun σ2 hf3 => ?_)
      have nx := ih (k + 1) σ2 k (by omega) (zfr_tr hf2 (zfr_up hf3 (by decide))) (xHr_fr hx2 hf3 (by decide))
      refine t_eq (fun z => ?_) (fun z => ?_)
      · rw [mk_y (f := fKin E x y C m) (decide_eq_true z)] at nx; exact nx
      · rw [mk_n (f := fKin E x y C m) (decide_eq_false z)] at nx; exact nx
  exact key 6 0 σ0 x.2.1 (by omega) (zfr_up hf0 (by decide)) hx0
theorem cx_mores (hg : zGA g) {E : zE} {T a i j m : Nat} {x y : zH} {so : Int32} {C : Nat → Int32} (ht : xTx σ T E.1 E.2.1 E.2.2) (ha : a < 4) (hS : xS σ a so (2 * m) C) (htk : tsm C 0 m = true) (hi : i < 6) (hj : j < 6) (hx : xH σ (43 + i) x) (hy : xH σ (43 + j) y)
    (h1 : ∀ σ', zfr [20, 21, 23, 24, 25, 41] σ σ' → K (nI (mk (fMor E x y C m) 10)) σ') : zCI mX7_moresAsTold (d + 7) [.ref 0, .ref (49 + 2 * a), .ref (43 + i), .ref (43 + j)] g σ K := by
  have hoi := (gr_family_n hg i hi).2
  have hoj := (gr_family_n hg j hj).2
  refine s_X7_moresAsTold hg (gr_sheets_n hg a ha).2 hoi hoj (cx_become hg (gA_41 hg) hoi (by omega) hx (fun σ0 hf0 hx0 => ?_))
  have key : ∀ (r k : Nat) (σ1 : zI) (o : Nat), k + r = 10 → zfr [20, 21, 23, 24, 25, 41] σ σ1 → xH σ1 41 (wMor x o) → p_X7_moresAsTold_14 (d + 6) g K σ1 (49 + 2 * a) (43 + j) (nI (mk (fMor E x y C m) k)) (nI k) := by
    intro r
    induction r with
    | zero =>
      intro k σ1 o hr hf hx1
      have e : k = 10 := by omega
      subst e
      exact s_X7_moresAsTold_14 hg (gr_sheets_n hg a ha).2 hoj (i_le 10 10 rfl rfl (by omega) (by omega) (fun _ => h1 σ1 hf) (fun q => by omega))
    | succ r ih =>
      intro k σ1 o hr hf hx1
      refine s_X7_moresAsTold_14 hg (gr_sheets_n hg a ha).2 hoj (i_le 10 k rfl rfl (by omega) (by omega) (fun q => by omega) (fun _ => ?_))
      rw [orsh (by omega), nI_1 k]
      have hx2 := xH_mor hx1 (show k ≤ 9 by omega)
      have hf2 : zfr [20, 21, 23, 24, 25, 41] σ (zsI σ1 41 2 (nI k)) := zfr_put hf (by decide)
      refine cx_fo (d := d) hg (xTx_fr ht hf2 (by decide) (by decide)) ha (xS_fr hS ha hf2 (by decide)) htk (gA_41 hg) hoj hx2 (xHr_fr hy hf2 (by simp; omega)) (fun σ2 hf3 => ?_)
      have nx := ih (k + 1) σ2 k (by omega) (zfr_tr hf2 (zfr_up hf3 (by decide))) (xHr_fr hx2 hf3 (by decide))
      refine t_eq (fun z => ?_) (fun z => ?_)
      · rw [mk_y (f := fMor E x y C m) (decide_eq_true z)] at nx; exact nx
      · rw [mk_n (f := fMor E x y C m) (decide_eq_false z)] at nx; exact nx
  exact key 10 0 σ0 x.2.2.1 (by omega) (zfr_up hf0 (by decide)) hx0
theorem cx_texts (hg : zGA g) {E : zE} {T a i j m : Nat} {x y : zH} {so : Int32} {C : Nat → Int32} (ht : xTx σ T E.1 E.2.1 E.2.2) (ha : a < 4) (hS : xS σ a so (2 * m) C) (htk : tsm C 0 m = true) (hi : i < 6) (hj : j < 6) (hx : xH σ (43 + i) x) (hy : xH σ (43 + j) y)
    (h1 : ∀ σ', zfr [20, 21, 23, 24, 25] σ σ' → K (nI (mk (fTxt E x y C m) T)) σ') : zCI mX7_textsAsTold (d + 7) [.ref 0, .ref (49 + 2 * a), .ref (43 + i), .ref (43 + j)] g σ K := by
  have hoi := (gr_family_n hg i hi).2
  have hoj := (gr_family_n hg j hj).2
  have hT := ht.1
  have hR := ht.2.1
  have e6 : σ 3 6 = nI E.1 := ht.2.2.2.2.1
  refine s_X7_textsAsTold hg (gr_sheets_n hg a ha).2 hoi hoj ?_
  rw [e6]
  have key : ∀ (r k : Nat) (σ1 : zI) (o : Nat), k + r = T → zfr [3, 20, 21, 23, 24, 25] σ σ1 → (∀ u, u ≠ 6 → σ1 3 u = σ 3 u) → xTx σ1 T o E.2.1 E.2.2 → p_X7_textsAsTold_15 (d + 6) g K σ1 (49 + 2 * a) (43 + i) (43 + j) (nI (mk (fTxt E x y C m) k)) (nI E.1) (nI k) := by
    intro r
    induction r with
    | zero =>
      intro k σ1 o hr hf hk ht1
      have e : k = T := by omega
      subst e
      refine s_X7_textsAsTold_15 hg (gr_sheets_n hg a ha).2 hoi hoj ?_
      rw [ht1.2.2.2.2.2.1]
      exact i_le k k rfl rfl (by omega) (by omega) (fun _ => h1 _ (put_back hf hk e6)) (fun q => by omega)
    | succ r ih =>
      intro k σ1 o hr hf hk ht1
      refine s_X7_textsAsTold_15 hg (gr_sheets_n hg a ha).2 hoi hoj ?_
      rw [ht1.2.2.2.2.2.1]
      refine i_le T k rfl rfl (by omega) (by omega) (fun q => by omega) (fun _ => ?_)
      rw [orsh (by omega), nI_1 k]
      have ht2 := xTx_rule ht1 (show k < T by omega)
      have hf2 : zfr [3, 20, 21, 23, 24, 25] σ (zsI σ1 3 6 (nI k)) := zfr_put hf (by decide)
      refine cx_fo (d := d) (E := (k, E.2.1, E.2.2)) hg ht2 ha (xS_fr hS ha hf2 (by decide)) htk hoi hoj (xHr_fr hx hf2 (by simp; omega)) (xHr_fr hy hf2 (by simp; omega)) (fun σ2 hf3 => ?_)
      have nx := ih (k + 1) σ2 k (by omega) (zfr_tr hf2 (zfr_up hf3 (by decide))) (fun u hu => by rw [hf3 3 (by decide), zsI_no (Or.inr hu)]; exact hk u hu) (xTx_fr ht2 hf3 (by decide) (by decide))
      refine t_eq (fun z => ?_) (fun z => ?_)
      · rw [mk_y (f := fTxt E x y C m) (decide_eq_true z)] at nx; exact nx
      · rw [mk_n (f := fTxt E x y C m) (decide_eq_false z)] at nx; exact nx
  exact key T 0 σ E.1 (by omega) (zfr_rf _ _) (fun _ _ => rfl) ht
theorem cx_must (hg : zGA g) {E : zE} {T a i j m : Nat} {x y : zH} {so : Int32} {C : Nat → Int32} (ht : xTx σ T E.1 E.2.1 E.2.2) (ha : a < 4) (hS : xS σ a so (2 * m) C) (htk : tsm C 0 m = true) (hi : i < 6) (hj : j < 6) (hx : xH σ (43 + i) x) (hy : xH σ (43 + j) y)
    (h1 : ∀ σ', zfr [20, 21, 23, 24, 25, 41] σ σ' → K (nI (mk (fMust E x y C m) 30)) σ') : zCI mX7_numbersThatMust (d + 7) [.ref 0, .ref (49 + 2 * a), .ref (43 + i), .ref (43 + j)] g σ K := by
  have hoi := (gr_family_n hg i hi).2
  have hoj := (gr_family_n hg j hj).2
  have hob : x.2.2.2 < 1073741824 := hx.2.2.2.2.2.2.2
  refine s_X7_numbersThatMust hg (gr_sheets_n hg a ha).2 hoi hoj (cx_become hg (gA_41 hg) hoi (by omega) hx (fun σ0 hf0 hx0 => ?_))
  have key : ∀ (r k : Nat) (σ1 : zI) (o : Nat), k + r = 30 → zfr [20, 21, 23, 24, 25, 41] σ σ1 → xH σ1 41 (wOwn x o) → p_X7_numbersThatMust_14 (d + 6) g K σ1 (49 + 2 * a) (43 + i) (43 + j) (nI (mk (fMust E x y C m) k)) (nI (k + 1)) := by
    intro r
    induction r with
    | zero =>
      intro k σ1 o hr hf hx1
      have e : k = 30 := by omega
      subst e
      exact s_X7_numbersThatMust_14 hg (gr_sheets_n hg a ha).2 hoi hoj (i_lt 30 31 rfl rfl (by omega) (by omega) (fun _ => h1 σ1 hf) (fun q => by omega))
    | succ r ih =>
      intro k σ1 o hr hf hx1
      have ei : σ1 (43 + i) 3 = nI x.2.2.2 := by rw [hf (43 + i) (by simp; omega)]; exact hx.2.2.2.1
      refine s_X7_numbersThatMust_14 hg (gr_sheets_n hg a ha).2 hoi hoj (i_lt 30 (k + 1) rfl rfl (by omega) (by omega) (fun q => by omega) (fun _ => ?_))
      rw [ei, nI_1 (k + 1)]
      refine cx_has (d := d + 5) hg (by omega) (by omega) (fun z => z0 ?_) (fun z => z1 (cx_bit hg (by omega) (by omega) ?_))
      · rw [show k + 1 - 1 = k by omega] at z
        have nx := ih (k + 1) σ1 o (by omega) hf hx1
        rw [mk_n (f := fMust E x y C m) (by unfold fMust; rw [z]; rfl)] at nx
        exact nx
      · rw [show k + 1 - 1 = k by omega] at z ⊢
        obtain ⟨c1, c2⟩ := clr z hob (by omega)
        rw [ei, nI_andnot, c1]
        have hx2 := xH_own hx1 (Nat.lt_of_le_of_lt (Nat.sub_le _ _) hob : x.2.2.2 - 2 ^ k < 1073741824)
        have hf2 : zfr [20, 21, 23, 24, 25, 41] σ (zsI σ1 41 3 (nI (x.2.2.2 - 2 ^ k))) := zfr_put hf (by decide)
        refine cx_fo (d := d) hg (xTx_fr ht hf2 (by decide) (by decide)) ha (xS_fr hS ha hf2 (by decide)) htk (gA_41 hg) hoj hx2 (xHr_fr hy hf2 (by simp; omega)) (fun σ2 hf3 => ?_)
        have nx := ih (k + 1) σ2 (x.2.2.2 - 2 ^ k) (by omega) (zfr_tr hf2 (zfr_up hf3 (by decide))) (xHr_fr hx2 hf3 (by decide))
        refine t_eq (fun w => ?_) (fun w => cx_bit hg (by omega) (by omega) ?_)
        · rw [mk_n (f := fMust E x y C m) (by unfold fMust; rw [z, decide_eq_true w]; rfl)] at nx; exact nx
        · rw [mk_y (f := fMust E x y C m) (by unfold fMust; rw [z, decide_eq_false w]; rfl)] at nx
          rw [show k + 1 - 1 = k by omega, fa_or]
          exact nx
  exact key 30 0 σ0 x.2.2.2 (by omega) (zfr_up hf0 (by decide)) hx0
theorem cx_may (hg : zGA g) {E : zE} {T a i j m : Nat} {x y : zH} {so : Int32} {C : Nat → Int32} (ht : xTx σ T E.1 E.2.1 E.2.2) (ha : a < 4) (hS : xS σ a so (2 * m) C) (htk : tsm C 0 m = true) (hi : i < 6) (hj : j < 6) (hx : xH σ (43 + i) x) (hy : xH σ (43 + j) y)
    (h1 : ∀ σ', zfr [20, 21, 23, 24, 25, 41] σ σ' → K (nI (mk (fMay E x y C m) 30)) σ') : zCI mX7_numbersThatMay (d + 7) [.ref 0, .ref (49 + 2 * a), .ref (43 + i), .ref (43 + j)] g σ K := by
  have hoi := (gr_family_n hg i hi).2
  have hoj := (gr_family_n hg j hj).2
  have hob : x.2.2.2 < 1073741824 := hx.2.2.2.2.2.2.2
  refine s_X7_numbersThatMay hg (gr_sheets_n hg a ha).2 hoi hoj (cx_become hg (gA_41 hg) hoi (by omega) hx (fun σ0 hf0 hx0 => ?_))
  have key : ∀ (r k : Nat) (σ1 : zI) (o : Nat), k + r = 30 → zfr [20, 21, 23, 24, 25, 41] σ σ1 → xH σ1 41 (wOwn x o) → p_X7_numbersThatMay_14 (d + 6) g K σ1 (49 + 2 * a) (43 + i) (43 + j) (nI (mk (fMay E x y C m) k)) (nI (k + 1)) := by
    intro r
    induction r with
    | zero =>
      intro k σ1 o hr hf hx1
      have e : k = 30 := by omega
      subst e
      exact s_X7_numbersThatMay_14 hg (gr_sheets_n hg a ha).2 hoi hoj (i_lt 30 31 rfl rfl (by omega) (by omega) (fun _ => h1 σ1 hf) (fun q => by omega))
    | succ r ih =>
      intro k σ1 o hr hf hx1
      have ei : σ1 (43 + i) 3 = nI x.2.2.2 := by rw [hf (43 + i) (by simp; omega)]; exact hx.2.2.2.1
      refine s_X7_numbersThatMay_14 hg (gr_sheets_n hg a ha).2 hoi hoj (i_lt 30 (k + 1) rfl rfl (by omega) (by omega) (fun q => by omega) (fun _ => ?_))
      rw [ei, nI_1 (k + 1)]
      refine cx_has (d := d + 5) hg (by omega) (by omega) (fun z => z0 (cx_bit hg (by omega) (by omega) ?_)) (fun z => z1 ?_)
      · rw [show k + 1 - 1 = k by omega] at z ⊢
        have hlt : x.2.2.2 ||| 2 ^ k < 1073741824 := or_lt30 hob (Nat.pow_lt_pow_right (by omega) (by omega) : 2 ^ k < 2 ^ 30)
        rw [ei, fa_or]
        have hx2 := xH_own hx1 hlt
        have hf2 : zfr [20, 21, 23, 24, 25, 41] σ (zsI σ1 41 3 (nI (x.2.2.2 ||| 2 ^ k))) := zfr_put hf (by decide)
        refine cx_fo (d := d) hg (xTx_fr ht hf2 (by decide) (by decide)) ha (xS_fr hS ha hf2 (by decide)) htk (gA_41 hg) hoj hx2 (xHr_fr hy hf2 (by simp; omega)) (fun σ2 hf3 => ?_)
        have nx := ih (k + 1) σ2 (x.2.2.2 ||| 2 ^ k) (by omega) (zfr_tr hf2 (zfr_up hf3 (by decide))) (xHr_fr hx2 hf3 (by decide))
        refine t_eq (fun w => cx_bit hg (by omega) (by omega) ?_) (fun w => ?_)
        · rw [mk_y (f := fMay E x y C m) (by unfold fMay; rw [z, decide_eq_true w]; rfl)] at nx
          rw [show k + 1 - 1 = k by omega, fa_or]
          exact nx
        · rw [mk_n (f := fMay E x y C m) (by unfold fMay; rw [z, decide_eq_false w]; rfl)] at nx; exact nx
      · rw [show k + 1 - 1 = k by omega] at z
        have nx := ih (k + 1) σ1 o (by omega) hf hx1
        rw [mk_n (f := fMay E x y C m) (by unfold fMay; rw [z]; rfl)] at nx
        exact nx
  exact key 30 0 σ0 x.2.2.2 (by omega) (zfr_up hf0 (by decide)) hx0
end
