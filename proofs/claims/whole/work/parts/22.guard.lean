/-! HEIRS by their numbers; middle: both sides -/
def hA (n : Nat) (v : Int32) : Option Nat := if 0 ≤ v.toInt ∧ v.toInt < n then some v.toInt.toNat else none
theorem hA_some {n i : Nat} {v : Int32} (hn : n ≤ 6) (h : hA n v = some i) : i < n ∧ v = nI i := by
  unfold hA at h
  split at h
  · next q =>
    have e : v.toInt.toNat = i := by simpa using h
    refine ⟨by omega, ?_⟩
    apply Int32.toInt_inj.mp
    rw [nI_toInt' (by omega)]
    omega
  · simp at h
theorem hA_no {n : Nat} {v : Int32} (h : v.toInt < 0 ∨ (n : Int) ≤ v.toInt) : hA n v = none := by
  unfold hA
  rw [if_neg (by omega)]
theorem hA_yes {n : Nat} {v : Int32} (h : 0 ≤ v.toInt) (h2 : v.toInt < (n : Int)) : hA n v = some v.toInt.toNat := by
  unfold hA
  rw [if_pos ⟨h, h2⟩]
def two (n : Nat) (a b : Int32) : Option (Nat × Nat) := match hA n a, hA n b with
  | some i, some j => if i = j then none else some (i, j)
  | _, _ => none
theorem two_some {n i j : Nat} {a b : Int32} (hn : n ≤ 6) (h : two n a b = some (i, j)) : i < n ∧ j < n ∧ i ≠ j ∧ a = nI i ∧ b = nI j := by
  unfold two at h
  cases h1 : hA n a with
  | none => rw [h1] at h; simp at h
  | some x =>
    cases h2 : hA n b with
    | none => rw [h1, h2] at h; simp at h
    | some y =>
      rw [h1, h2] at h
      have h : (if x = y then none else some (x, y)) = some (i, j) := h
      by_cases e : x = y
      · rw [if_pos e] at h; simp at h
      · rw [if_neg e] at h
        have e1 : x = i ∧ y = j := by simpa using h
        obtain ⟨rfl, rfl⟩ := e1
        obtain ⟨a1, a2⟩ := hA_some hn h1
        obtain ⟨b1, b2⟩ := hA_some hn h2
        exact ⟨a1, b1, e, a2, b2⟩
section
variable {d : Nat} {g : zG} {σ : zI}
theorem cx_heirAt {K : Option Nat → zI → Prop} (hg : zGA g) {n : Nat} {fam : Nat → zH} (hF : xF σ n fam) {v : Int32} (h0 : hA n v = none → K none σ) (h1 : ∀ i, hA n v = some i → i < n → v = nI i → K (some (43 + i)) σ) : zCR mX7_heirAt d [.ref 0, .int v] g σ K := by
  have n6 := hF.1
  refine s_X7_heirAt hg ?_
  rw [hF.2.1]
  have e0 : (0 : Int32).toInt = 0 := rfl
  refine t_lt (fun q => h0 (hA_no (by omega))) (fun q => t_le (fun q2 => h0 (hA_no ?_)) (fun q2 => ?_))
  · rw [nI_toInt' (by omega)] at q2; omega
  · rw [nI_toInt' (by omega)] at q2
    have hs := hA_yes (n := n) (v := v) (by omega) q2
    obtain ⟨k1, k2⟩ := hA_some n6 hs
    have hk := h1 _ hs k1 k2
    generalize v.toInt.toNat = i at *
    subst k2
    rw [if_pos (nI_lt (by omega) (by omega)), c_nI (by omega)]
    exact ⟨v_in (by omega) (by omega), hk⟩
theorem cx_two (hg : zGA g) {n : Nat} {fam : Nat → zH} (hF : xF σ n fam) {a b : Int32} {Kb : zI → Prop} {Kr : Nat → Nat → zI → Prop} (h0 : two n a b = none → Kb σ) (h1 : ∀ i j, two n a b = some (i, j) → Kr (43 + i) (43 + j) σ) :
    zCR mX7_heirAt d [.ref 0, .int a] g σ (fun x1 σ1 => match x1 with | none => zCR mX7_heirAt d [.ref 0, .int b] g σ1 (fun x2 σ2 => match x2 with | none => Kb σ2 | some r2 => zOb g r2 0 ∧ Kb σ2) | some r1 => zOb g r1 0 ∧ zCR mX7_heirAt d [.ref 0, .int b] g σ1 (fun x2 σ2 => match x2 with | none => Kb σ2 | some r2 => zOb g r2 0 ∧ (if ((r1 : Nat) = r2) then Kb σ2 else Kr r1 r2 σ2))) := by
  have n6 := hF.1
  refine cx_heirAt hg hF (fun q => ?_) (fun i q hi ha => ⟨(gr_family_n hg i (by omega)).2, ?_⟩)
  · have e : two n a b = none := by unfold two; rw [q]
    exact cx_heirAt hg hF (fun q => h0 e) (fun j q hj hb => ⟨(gr_family_n hg j (by omega)).2, h0 e⟩)
  · refine cx_heirAt hg hF (fun q2 => ?_) (fun j q2 hj hb => ⟨(gr_family_n hg j (by omega)).2, ?_⟩)
    · exact h0 (by unfold two; rw [q, q2])
    · have e : two n a b = if i = j then none else some (i, j) := by unfold two; rw [q, q2]
      refine t_n (fun u => h0 ?_) (fun u => h1 i j ?_)
      · rw [e, if_pos (by omega)]
      · rw [e, if_neg (by omega)]
theorem cm_isHeir {K : Int32 → zI → Prop} (hg : zGA g) {n : Nat} {fam : Nat → zH} (hF : mF σ n fam) {v : Int32} (h0 : hA n v = none → K 0 σ) (h1 : ∀ i, hA n v = some i → i < n → v = nI i → K 1 σ) : zCI mX8_isHeir (d + 1) [.ref 57, .int v] g σ K := by
  have n6 := hF.1
  refine s_X8_isHeir hg ?_
  rw [hF.2.1]
  have e0 : (0 : Int32).toInt = 0 := rfl
  have en : (nI n - 1).toInt = (n : Int) - 1 := pk_sub_toInt (a := n) (b := 1) (by omega) (by omega)
  refine cm_within hg (fun q => ⟨Or.inl rfl, h0 (hA_no ?_)⟩) (fun q q2 => ⟨Or.inr rfl, ?_⟩)
  · rw [en] at q; omega
  · rw [en] at q2
    have hs := hA_yes (n := n) (v := v) (by omega) (by omega)
    obtain ⟨k1, k2⟩ := hA_some n6 hs
    exact h1 _ hs k1 k2
theorem cm_areTwo {K : Int32 → zI → Prop} (hg : zGA g) {n : Nat} {fam : Nat → zH} (hF : mF σ n fam) {a b : Int32} (h0 : two n a b = none → K 0 σ) (h1 : ∀ i j, two n a b = some (i, j) → K 1 σ) : zCI mX8_areTwo (d + 2) [.ref 57, .int a, .int b] g σ K := by
  have n6 := hF.1
  refine s_X8_areTwo hg (cm_isHeir hg hF (fun q => z0 (h0 ?_)) (fun i q hi ha => z1 (cm_isHeir hg hF (fun q2 => z0 (h0 ?_)) (fun j q2 hj hb => z1 ?_))))
  · unfold two; rw [q]
  · unfold two; rw [q, q2]
  · have e : two n a b = if i = j then none else some (i, j) := by unfold two; rw [q, q2]
    subst ha; subst hb
    refine i_eq i j rfl rfl (by omega) (by omega) (fun u => h0 ?_) (fun u => h1 i j ?_)
    · rw [e, if_pos u]
    · rw [e, if_neg u]
theorem cm_isSum {K : Int32 → zI → Prop} (hg : zGA g) {v : Int32} (h0 : v.toInt < 0 ∨ 99 < v.toInt → K 0 σ) (h1 : 0 ≤ v.toInt → v.toInt ≤ 99 → K 1 σ) : zCI mX8_isSum (d + 1) [.int v] g σ K :=
  s_X8_isSum hg (cm_within hg (fun q => ⟨Or.inl rfl, h0 q⟩) (fun q r => ⟨Or.inr rfl, h1 q r⟩))
theorem sR_zero {f : Nat → Nat} {a : Nat} : ∀ r, (∀ i, f i = 0) → sR f a r = 0
  | 0, _ => rfl
  | r + 1, h => by unfold sR; rw [sR_zero r h, h]
theorem lost_bit {x y j : Nat} (hx : x < 64) (hj : j < 6) : (((nI x &&& (nI y ^^^ (-1))) >>> (nI j &&& 31)) &&& 1) = nI (if x.testBit j = true ∧ y.testBit j = false then 1 else 0) := by
  have hlt : x &&& (y ^^^ (2 ^ 32 - 1)) < 64 := Nat.lt_of_le_of_lt Nat.and_le_left hx
  rw [show (-1 : Int32) = nI (2 ^ 32 - 1) from rfl, fa_xor, fa_and, b_has (by omega) (by omega), Nat.testBit_and, Nat.testBit_xor, Nat.testBit_two_pow_sub_one, decide_eq_true (show j < 32 by omega)]
  cases x.testBit j <;> cases y.testBit j <;> rfl
theorem cx_parted {K : Int32 → zI → Prop} (hg : zGA g) {A : Nat → Nat → Bool} {n h : Nat} (hn : n ≤ 6) (hh : h < n) (h4 : σ 28 4 = nI n)
    (hA : ∀ a b, a < n → b < n → (σ (30 + a) b = -1 ↔ A a b = false)) (h1 : K (nI (pwo A n h)) σ) : zCI mX6_partedWithout (d + 1) [.ref 28, .int (nI h)] g σ K := by
  have key : ∀ (r i : Nat), i + r = n → p_X6_partedWithout_4 d g K σ (nI h) (nI (t1 (prt A n h) n i)) (nI i) := by
    intro r
    induction r with
    | zero =>
      intro i hr
      have e : i = n := by omega
      subst e
      refine s_X6_partedWithout_4 hg ?_
      rw [h4]
      exact i_le i i rfl rfl (by omega) (by omega) (fun _ => h1) (fun q => by omega)
    | succ r ih =>
      intro i hr
      have nx := ih (i + 1) (by omega)
      have e1 : t1 (prt A n h) n (i + 1) = t1 (prt A n h) n i + sR (prt A n h i) (i + 1) (n - (i + 1)) := rfl
      refine s_X6_partedWithout_4 hg ?_
      rw [h4, nI_1 i]
      refine i_le n i rfl rfl (by omega) (by omega) (fun q => by omega) (fun _ => i_eq i h rfl rfl (by omega) (by omega) (fun q => ?_) (fun q => ?_))
      · have z : sR (prt A n h i) (i + 1) (n - (i + 1)) = 0 := sR_zero _ (fun j => by unfold prt; rw [if_pos (Or.inl q)])
        rw [e1, z, Nat.add_zero] at nx
        exact nx
      · refine cx_reached hg hn (by omega) h_none h4 hA (cx_reached hg hn (by omega) (h_some (by omega)) h4 hA ?_)
        have key2 : ∀ (m : Nat), m ≤ n - (i + 1) → ∀ c, c + m = n - (i + 1) → p_X6_partedWithout_39 d g K σ (nI h) (nI (t1 (prt A n h) n i + sR (prt A n h i) (i + 1) c)) (nI i) (nI (rch A 7 n i) &&& (nI (rch A h n i) ^^^ (-1))) (nI (i + 1 + c)) := by
          intro m
          induction m with
          | zero =>
            intro _ c hc
            have ec : c = n - (i + 1) := by omega
            subst ec
            refine s_X6_partedWithout_39 hg ?_
            rw [h4, nI_1 i]
            refine i_le n (i + 1 + (n - (i + 1))) rfl rfl (by omega) (by omega) (fun _ => ?_) (fun q => by omega)
            rw [← e1]
            exact nx
          | succ m ih2 =>
            intro hm c hc
            have n2 := ih2 (by omega) (c + 1) (by omega)
            have e2 : sR (prt A n h i) (i + 1) (c + 1) = sR (prt A n h i) (i + 1) c + prt A n h i (i + 1 + c) := rfl
            rw [e2, ← Nat.add_assoc, ← Nat.add_assoc (i + 1) c 1] at n2
            refine s_X6_partedWithout_39 hg ?_
            rw [h4, nI_1 (i + 1 + c), lost_bit (rch_lt A 7 (by omega) hn) (by omega)]
            refine i_le n (i + 1 + c) rfl rfl (by omega) (by omega) (fun q => by omega) (fun _ => i_eq (i + 1 + c) h rfl rfl (by omega) (by omega) (fun q2 => ?_) (fun q2 => ?_))
            · have z : prt A n h i (i + 1 + c) = 0 := by unfold prt; rw [if_pos (Or.inr q2)]
              rw [z, Nat.add_zero] at n2
              rw [show (0 : Int32) = nI 0 from rfl, nI_add]
              exact n2
            · have z : prt A n h i (i + 1 + c) = if (rch A 7 n i).testBit (i + 1 + c) = true ∧ (rch A h n i).testBit (i + 1 + c) = false then 1 else 0 := by unfold prt; rw [if_neg (by omega)]
              rw [z] at n2
              rw [nI_add]
              exact n2
        exact key2 (n - (i + 1)) (Nat.le_refl _) 0 (by omega)
  exact s_X6_partedWithout hg (key n 0 (by omega))
/-- what middle answers -/
def aMid (E : zE) (fam : Nat → zH) (n : Nat) (s w : Int32) : Int32 :=
  if 1 ≤ s.toInt ∧ s.toInt ≤ 99 ∧ 0 ≤ w.toInt ∧ w.toInt ≤ 1 then (if w = 0 then (mdl (fun a b => decide (a < n) && (decide (b < n) && (tl E fam s.toInt.toNat a b).isSome)) n n).1 else nI (mdl (fun a b => decide (a < n) && (decide (b < n) && (tl E fam s.toInt.toNat a b).isSome)) n n).2) else -2
theorem adj_iff {E : zE} {fam : Nat → zH} {n s a b : Nat} {x : Int32} (ha : a < n) (hb : b < n) (hw : ∀ v, tl E fam s a b = some v → v < 2147483648) (hx : x = on (tl E fam s a b)) : x = -1 ↔ (decide (a < n) && (decide (b < n) && (tl E fam s a b).isSome)) = false := by
  subst hx
  rw [decide_eq_true ha, decide_eq_true hb]
  cases h : tl E fam s a b with
  | none => simp [on]
  | some v =>
    constructor
    · intro e; exact absurd e (on_ne (hw v h))
    · intro e; simp at e
theorem tl_le {E : zE} {fam : Nat → zH} {s a b v : Nat} (hm : (fam a).2.2.1 ≤ 9 ∧ (fam b).2.2.1 ≤ 9) (hs : s ≤ 99) (h : tl E fam s a b = some v) : v ≤ 40000 := by
  unfold tl at h
  split at h
  · simp at h
  · have := ls_le' (prc_wgt E (fam a) (fam b) hm.1 hm.2) h
    omega
theorem xF_more {n : Nat} {fam : Nat → zH} (h : xF σ n fam) {i : Nat} (hi : i < n) : (fam i).2.2.1 ≤ 9 := (h.2.2 i hi).2.2.2.2.2.2.2.1
theorem mF_more {n : Nat} {fam : Nat → zH} (h : mF σ n fam) {i : Nat} (hi : i < n) : (fam i).2.2.1 ≤ 9 := (h.2.2 i hi).2.2.2.2.2.2.1
theorem cx_middle {K : Int32 → zI → Prop} (hg : zGA g) {E : zE} {T n : Nat} {fam : Nat → zH} (ht : xTx σ T E.1 E.2.1 E.2.2) (hF : xF σ n fam) {s w : Int32}
    (h1 : ∀ σ', zfr [20, 21, 23, 24, 25, 28, 30, 31, 32, 33, 34, 35] σ σ' → K (aMid E fam n s w) σ') : zCI mX7_middle (d + 7) [.ref 0, .int s, .int w] g σ K := by
  have n6 := hF.1
  have e0 : (0 : Int32).toInt = 0 := rfl
  have e1 : (1 : Int32).toInt = 1 := rfl
  have e9 : (99 : Int32).toInt = 99 := rfl
  have bad : ¬ (1 ≤ s.toInt ∧ s.toInt ≤ 99 ∧ 0 ≤ w.toInt ∧ w.toInt ≤ 1) → K (-2) σ := fun q => by
    have := h1 σ (zfr_rf _ _)
    unfold aMid at this
    rw [if_neg q] at this
    exact this
  refine s_X7_middle hg (t_lt (fun q => bad (by omega)) (fun q => t_lt (fun q2 => bad (by omega)) (fun q2 => t_lt (fun q3 => bad (by omega)) (fun q3 => t_le (fun q4 => ?_) (fun q4 => bad (by omega))))))
  have ok : ∀ σ', zfr [20, 21, 23, 24, 25, 28, 30, 31, 32, 33, 34, 35] σ σ' → K (if w = 0 then (mdl (fun a b => decide (a < n) && (decide (b < n) && (tl E fam s.toInt.toNat a b).isSome)) n n).1 else nI (mdl (fun a b => decide (a < n) && (decide (b < n) && (tl E fam s.toInt.toNat a b).isSome)) n n).2) σ' := fun σ' hf => by
    have := h1 σ' hf
    unfold aMid at this
    rw [if_pos (by omega)] at this
    exact this
  obtain ⟨k, hk, rfl⟩ := zNat (v := s) (n := 99) (by omega) (by omega) (by omega)
  rw [nI_toInt' (by omega), Int.toNat_natCast] at ok
  rw [hF.2.1]
  refine cx_lay hg ht hF hk (fun σ1 hf h4 hv => ?_)
  have hAd : ∀ a b, a < n → b < n → (σ1 (30 + a) b = -1 ↔ (decide (a < n) && (decide (b < n) && (tl E fam k a b).isSome)) = false) := fun a b ha hb => adj_iff ha hb (fun v hv => by have := tl_le ⟨xF_more hF ha, xF_more hF hb⟩ hk hv; omega) (hv a b ha hb)
  generalize hAA : (fun a b => decide (a < n) && (decide (b < n) && (tl E fam k a b).isSome)) = A at *
  have hAd' : ∀ a b, a < n → b < n → (σ1 (30 + a) b = -1 ↔ A a b = false) := by rw [← hAA]; exact hAd
  have f0 : σ1 0 8 = nI n := by rw [hf 0 (by decide)]; exact hF.2.1
  have key : ∀ (r i : Nat), i + r = n → p_X7_middle_47 (d + 6) g K σ1 w (mdl A n i).1 (nI (mdl A n i).2) (nI i) := by
    intro r
    induction r with
    | zero =>
      intro i hr
      have e : i = n := by omega
      subst e
      refine s_X7_middle_47 hg ?_
      rw [f0]
      refine i_le i i rfl rfl (by omega) (by omega) (fun _ => ?_) (fun q => by omega)
      have := ok σ1 hf
      refine t_eq (fun z => ?_) (fun z => ?_)
      · rw [if_pos z] at this; exact this
      · rw [if_neg z] at this; exact this
    | succ r ih =>
      intro i hr
      have nx := ih (i + 1) (by omega)
      have em : mdl A n (i + 1) = if (mdl A n i).2 < pwo A n i then (nI i, pwo A n i) else mdl A n i := rfl
      have ml : ∀ j, (mdl A n j).2 ≤ 36 := by
        intro j
        induction j with
        | zero => exact Nat.zero_le _
        | succ j ihj =>
          show (if (mdl A n j).2 < pwo A n j then (nI j, pwo A n j) else mdl A n j).2 ≤ 36
          split
          · exact pwo_le A n6 j
          · exact ihj
      have m1 := ml i
      have m2 := pwo_le A n6 i
      refine s_X7_middle_47 hg ?_
      rw [f0, nI_1 i]
      refine i_le n i rfl rfl (by omega) (by omega) (fun q => by omega) (fun _ => ?_)
      refine cx_parted (d := d + 5) hg n6 (by omega) h4 hAd' (i_le (pwo A n i) (mdl A n i).2 rfl rfl (by omega) (by omega) (fun z => ?_) (fun z => ?_))
      · rw [em, if_neg (by omega)] at nx; exact nx
      · rw [em, if_pos z] at nx; exact nx
  exact key n 0 (by omega)
end
