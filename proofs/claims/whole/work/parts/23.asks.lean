/-! middle (the reference), says, common, barred: both sides -/
section
variable {d : Nat} {g : zG} {σ : zI}
theorem cm_middle {K : Int32 → zI → Prop} (hg : zGA g) {E : zE} {T n : Nat} {fam : Nat → zH} (ht : mTx σ T E.1 E.2.1 E.2.2) (hF : mF σ n fam) (h68 : σ 68 0 = 0) (h69 : σ 69 0 = 0) {s w : Int32}
    (h1 : ∀ σ', zfr [66, 67, 68, 69, 71] σ σ' → σ' 68 0 = 0 → σ' 69 0 = 0 → K (aMid E fam n s w) σ') : zCI mX8_middle (d + 7) [.ref 57, .int s, .int w] g σ K := by
  have n6 := hF.1
  have e0 : (0 : Int32).toInt = 0 := rfl
  have e1 : (1 : Int32).toInt = 1 := rfl
  have e9 : (99 : Int32).toInt = 99 := rfl
  have bad : ¬ (1 ≤ s.toInt ∧ s.toInt ≤ 99 ∧ 0 ≤ w.toInt ∧ w.toInt ≤ 1) → K (-2) σ := fun q => by
    have := h1 σ (zfr_rf _ _) h68 h69
    unfold aMid at this
    rw [if_neg q] at this
    exact this
  refine s_X8_middle hg (cm_within hg (fun q => z0 (bad (by omega))) (fun q q2 => z1 (cm_within hg (fun q3 => z0 (bad (by omega))) (fun q3 q4 => z1 ?_))))
  have ok : ∀ σ', zfr [66, 67, 68, 69, 71] σ σ' → σ' 68 0 = 0 → σ' 69 0 = 0 → K (if w = 0 then (mdl (fun a b => decide (a < n) && (decide (b < n) && (tl E fam s.toInt.toNat a b).isSome)) n n).1 else nI (mdl (fun a b => decide (a < n) && (decide (b < n) && (tl E fam s.toInt.toNat a b).isSome)) n n).2) σ' := fun σ' hf z8 z9 => by
    have := h1 σ' hf z8 z9
    unfold aMid at this
    rw [if_pos (by omega)] at this
    exact this
  obtain ⟨k, hk, rfl⟩ := zNat (v := s) (n := 99) (by omega) (by omega) (by omega)
  rw [nI_toInt' (by omega), Int.toNat_natCast] at ok
  refine cm_legs hg ht hF hk h68 h69 (fun σ1 hf z8 z9 hv => ?_)
  have hAd : ∀ a b, a < n → b < n → a ≠ b → (σ1 71 (6 * a + b) = -1 ↔ (decide (a < n) && (decide (b < n) && (tl E fam k a b).isSome)) = false) := fun a b ha hb hab => adj_iff ha hb (fun v hv => by have := tl_le ⟨mF_more hF ha, mF_more hF hb⟩ hk hv; omega) (hv a b ha hb hab)
  have hdA : ∀ a, (decide (a < n) && (decide (a < n) && (tl E fam k a a).isSome)) = false := fun a => by unfold tl; simp
  have hsA : ∀ a b, (decide (a < n) && (decide (b < n) && (tl E fam k a b).isSome)) = (decide (b < n) && (decide (a < n) && (tl E fam k b a).isSome)) := fun a b => by
    rw [tl_comm E fam k a b]
    cases decide (a < n) <;> cases decide (b < n) <;> rfl
  have hnA : ∀ a b, (decide (a < n) && (decide (b < n) && (tl E fam k a b).isSome)) = true → a < n ∧ b < n := fun a b h => by
    rw [Bool.and_eq_true, Bool.and_eq_true] at h
    exact ⟨of_decide_eq_true h.1, of_decide_eq_true h.2.1⟩
  generalize hAA : (fun a b => decide (a < n) && (decide (b < n) && (tl E fam k a b).isSome)) = A at *
  have hAd' : ∀ a b, a < n → b < n → a ≠ b → (σ1 71 (6 * a + b) = -1 ↔ A a b = false) := by rw [← hAA]; exact hAd
  have hdA' : ∀ a, A a a = false := by rw [← hAA]; exact hdA
  have hsA' : ∀ a b, A a b = A b a := by rw [← hAA]; exact hsA
  have hnA' : ∀ a b, A a b = true → a < n ∧ b < n := by rw [← hAA]; exact hnA
  have f0 : σ1 57 1 = nI n := by rw [hf 57 (by decide)]; exact hF.2.1
  have ml : ∀ j, (mdl A n j).2 ≤ 36 := by
    intro j
    induction j with
    | zero => exact Nat.zero_le _
    | succ j ihj =>
      show (if (mdl A n j).2 < pwo A n j then (nI j, pwo A n j) else mdl A n j).2 ≤ 36
      split
      · exact pwo_le A n6 j
      · exact ihj
  have key : ∀ (r i : Nat), i + r = n → p_X8_middle_35 (d + 6) g K σ1 w (mdl A n i).1 (nI (mdl A n i).2) (nI i) := by
    intro r
    induction r with
    | zero =>
      intro i hr
      have e : i = n := by omega
      subst e
      refine s_X8_middle_35 hg ?_
      rw [f0]
      refine i_le i i rfl rfl (by omega) (by omega) (fun _ => ?_) (fun q => by omega)
      have := ok σ1 hf z8 z9
      refine t_eq (fun z => ?_) (fun z => ?_)
      · rw [if_pos z] at this; exact this
      · rw [if_neg z] at this; exact this
    | succ r ih =>
      intro i hr
      have nx := ih (i + 1) (by omega)
      have em : mdl A n (i + 1) = if (mdl A n i).2 < pwo A n i then (nI i, pwo A n i) else mdl A n i := rfl
      have m1 := ml i
      have m2 := pwo_le A n6 i
      have et : t2 (prt A n i) n = pwo A n i := (t1_t2 (prt A n i) n).symm
      refine s_X8_middle_35 hg ?_
      rw [f0]
      refine i_le n i rfl rfl (by omega) (by omega) (fun q => by omega) (fun _ => ?_)
      have key5 : ∀ (r b : Nat), b + r = n → p_X8_middle_50 (d + 6) g K σ1 w (mdl A n i).1 (nI (mdl A n i).2) (nI i) (nI (t2 (prt A n i) b)) (nI b) := by
        intro r
        induction r with
        | zero =>
          intro b hb
          have e : b = n := by omega
          subst e
          refine s_X8_middle_50 hg ?_
          rw [f0, et, nI_1 i]
          refine i_le b b rfl rfl (by omega) (by omega) (fun _ => ?_) (fun q => by omega)
          refine i_lt (mdl A b i).2 (pwo A b i) rfl rfl (by omega) (by omega) (fun z => ?_) (fun z => ?_)
          · rw [em, if_pos z] at nx; exact nx
          · rw [em, if_neg (by omega)] at nx; exact nx
        | succ r ih5 =>
          intro b hb
          have n5 := ih5 (b + 1) (by omega)
          have e5 : t2 (prt A n i) (b + 1) = t2 (prt A n i) b + sR (fun a => prt A n i a b) 0 b := rfl
          rw [e5] at n5
          refine s_X8_middle_50 hg ?_
          rw [f0]
          refine i_le n b rfl rfl (by omega) (by omega) (fun q => by omega) (fun _ => ?_)
          have key6 : ∀ (r a : Nat), a + r = b → p_X8_middle_62 (d + 6) g K σ1 w (mdl A n i).1 (nI (mdl A n i).2) (nI i) (nI (t2 (prt A n i) b + sR (fun a => prt A n i a b) 0 a)) (nI b) (nI a) := by
            intro r
            induction r with
            | zero =>
              intro a ha
              have e : a = b := by omega
              subst e
              refine s_X8_middle_62 hg ?_
              rw [nI_1 a]
              exact i_le a a rfl rfl (by omega) (by omega) (fun _ => n5) (fun q => by omega)
            | succ r ih6 =>
              intro a ha
              have n6' := ih6 (a + 1) (by omega)
              have e6 : sR (fun a => prt A n i a b) 0 (a + 1) = sR (fun a => prt A n i a b) 0 a + prt A n i (0 + a) b := rfl
              rw [e6, Nat.zero_add, prt_sym A hnA' hsA' (show a < n by omega) (show b < n by omega) n6, ← Nat.add_assoc] at n6'
              refine s_X8_middle_62 hg ?_
              rw [nI_1 a]
              have skip : prt A n i b a = 0 → p_X8_middle_62 (d + 6) g K σ1 w (mdl A n i).1 (nI (mdl A n i).2) (nI i) (nI (t2 (prt A n i) b + sR (fun a => prt A n i a b) 0 a)) (nI b) (nI (a + 1)) := fun z => by
                rw [z, Nat.add_zero] at n6'; exact n6'
              refine i_le b a rfl rfl (by omega) (by omega) (fun q => by omega) (fun _ => i_eq b i rfl rfl (by omega) (by omega) (fun q => skip ?_) (fun q => i_eq a i rfl rfl (by omega) (by omega) (fun q2 => skip ?_) (fun q2 => ?_)))
              · unfold prt; rw [if_pos (Or.inl q)]
              · unfold prt; rw [if_pos (Or.inr q2)]
              · have ep : prt A n i b a = if (rch A 7 n b).testBit a = true ∧ (rch A i n b).testBit a = false then 1 else 0 := by unfold prt; rw [if_neg (by omega)]
                have l1 := rch_lt A 7 (show b < n by omega) n6
                have l2 := rch_lt A i (show b < n by omega) n6
                refine cm_reached (d := d + 5) hg n6 (by omega) h_none f0 hAd' hdA' (cm_has hg (by omega) (by omega) (fun z => z0 (skip ?_)) (fun z => z1 ?_))
                · rw [ep, if_neg (fun u => by rw [u.1] at z; exact absurd z (by decide))]
                · refine cm_reached (d := d + 5) hg n6 (by omega) (h_some (by omega)) f0 hAd' hdA' (cm_has hg (by omega) (by omega) (fun z2 => z0 ?_) (fun z2 => z1 (skip ?_)))
                  · rw [ep, if_pos ⟨z, z2⟩] at n6'
                    rw [nI_1]
                    exact n6'
                  · rw [ep, if_neg (fun u => by rw [u.2] at z2; exact absurd z2 (by decide))]
          exact key6 b 0 (by omega)
      exact key5 n 0 (by omega)
  exact key n 0 (by omega)
def sval (E : zE) (x : zH) (v w : Nat) : Int32 := if w = 0 then bI (sd x v) else if w = 1 then nI (cst E x v) else if w = 2 then bI (meant E.2.2 E.1 E.2.1 x.1 x.2.2.1 x.2.2.2 v) else nI (worth E.2.2 E.1 E.2.1 x.1 x.2.2.1 x.2.2.2 v)
def aSays (E : zE) (fam : Nat → zH) (n : Nat) (h v w : Int32) : Int32 := match hA n h with
  | none => -2
  | some i => if 0 ≤ w.toInt ∧ w.toInt ≤ 3 ∧ (w.toInt < 2 → 1 ≤ v.toInt ∧ v.toInt ≤ 30) ∧ (2 ≤ w.toInt → 0 ≤ v.toInt ∧ v.toInt ≤ 99) then sval E (fam i) v.toInt.toNat w.toInt.toNat else -2
theorem cx_says {K : Int32 → zI → Prop} (hg : zGA g) {E : zE} {T n : Nat} {fam : Nat → zH} (ht : xTx σ T E.1 E.2.1 E.2.2) (hF : xF σ n fam) {h v w : Int32}
    (h1 : ∀ σ', zfr [20, 21] σ σ' → K (aSays E fam n h v w) σ') : zCI mX7_says (d + 5) [.ref 0, .int h, .int v, .int w] g σ K := by
  have n6 := hF.1
  have e0 : (0 : Int32).toInt = 0 := rfl
  have e2 : (2 : Int32).toInt = 2 := rfl
  have e3 : (3 : Int32).toInt = 3 := rfl
  refine s_X7_says hg (cx_heirAt hg hF (fun q => ?_) (fun i q hi hh => ?_))
  · have := h1 σ (zfr_rf _ _)
    unfold aSays at this
    rw [q] at this
    exact this
  · have h2 : ∀ σ', zfr [20, 21] σ σ' → K (if 0 ≤ w.toInt ∧ w.toInt ≤ 3 ∧ (w.toInt < 2 → 1 ≤ v.toInt ∧ v.toInt ≤ 30) ∧ (2 ≤ w.toInt → 0 ≤ v.toInt ∧ v.toInt ≤ 99) then sval E (fam i) v.toInt.toNat w.toInt.toNat else -2) σ' := fun σ' hf => by
      have := h1 σ' hf
      unfold aSays at this
      rw [q] at this
      exact this
    have bad : ¬ (0 ≤ w.toInt ∧ w.toInt ≤ 3 ∧ (w.toInt < 2 → 1 ≤ v.toInt ∧ v.toInt ≤ 30) ∧ (2 ≤ w.toInt → 0 ≤ v.toInt ∧ v.toInt ≤ 99)) → K (-2) σ := fun c => by
      have := h2 σ (zfr_rf _ _)
      rw [if_neg c] at this
      exact this
    have ok : (0 ≤ w.toInt ∧ w.toInt ≤ 3 ∧ (w.toInt < 2 → 1 ≤ v.toInt ∧ v.toInt ≤ 30) ∧ (2 ≤ w.toInt → 0 ≤ v.toInt ∧ v.toInt ≤ 99)) → ∀ σ', zfr [20, 21] σ σ' → K (sval E (fam i) v.toInt.toNat w.toInt.toNat) σ' := fun c σ' hf => by
      have := h2 σ' hf
      rw [if_pos c] at this
      exact this
    have ho := (gr_family_n hg i (by omega)).2
    have hx := (hF.2.2 i hi).2
    refine ⟨ho, t_lt (fun q => bad (by omega)) (fun q => t_le (fun q2 => ?_) (fun q2 => bad (by omega)))⟩
    obtain ⟨k, hk, rfl⟩ := zNat (v := w) (n := 3) (by omega) (by omega) (by omega)
    rw [nI_toInt' (by omega), Int.toNat_natCast] at ok
    rw [nI_toInt' (by omega)] at bad
    refine i_le 2 k rfl rfl (by omega) (by omega) (fun z => cx_isSum hg (fun y => z0 (bad (by omega))) (fun y y2 => z1 ?_)) (fun z => cx_isNumber hg (fun y => z0 (bad (by omega))) (fun y y2 => z1 ?_))
    · obtain ⟨m, hm, rfl⟩ := zNat (v := v) (n := 99) (by omega) (by omega) (by omega)
      rw [nI_toInt' (by omega)] at ok
      have ok := ok (by omega)
      rw [Int.toNat_natCast] at ok
      unfold sval at ok
      refine s_X7_says_49 hg ho (i_eq k 0 rfl rfl (by omega) (by omega) (fun c => by omega) (fun c => i_eq k 1 rfl rfl (by omega) (by omega) (fun c => by omega) (fun c1 => i_eq k 2 rfl rfl (by omega) (by omega) (fun c2 => ?_) (fun c2 => ?_))))
      · rw [if_neg c, if_neg c1, if_pos c2] at ok
        refine cx_isMeant hg ht ho hx (fun σ1 hf => ?_)
        have := ok σ1 hf
        cases hm : meant E.2.2 E.1 E.2.1 (fam i).1 (fam i).2.2.1 (fam i).2.2.2 m with
        | false => rw [hm] at this; exact cx_truth hg (fun _ => this) (fun z => absurd rfl z)
        | true => rw [hm] at this; exact cx_truth hg (fun z => absurd z (by decide)) (fun _ => this)
      · rw [if_neg c, if_neg c1, if_neg c2] at ok
        exact cx_worthOf hg ht ho hx ok
    · have y1 : 1 ≤ v.toInt := y
      obtain ⟨m, hm, rfl⟩ := zNat (v := v) (n := 30) (by omega) (by omega) (by omega)
      rw [nI_toInt' (by omega)] at ok y1
      have ok := ok (by omega)
      rw [Int.toNat_natCast] at ok
      unfold sval at ok
      refine s_X7_says_49 hg ho (i_eq k 0 rfl rfl (by omega) (by omega) (fun c => ?_) (fun c => i_eq k 1 rfl rfl (by omega) (by omega) (fun c1 => ?_) (fun c1 => by omega)))
      · rw [if_pos c] at ok
        have es := sy_bit (fam i).2.1 (fam i).2.2.1 (fam i).2.2.2 m (by omega) (by omega)
        have := ok σ (zfr_rf _ _)
        refine cx_sayable (d := d + 1) hg ho hx (cx_has (d := d + 3) hg (by omega) (by omega) (fun z => ?_) (fun z => ?_))
        · rw [es] at z
          unfold sd at this
          rw [z] at this
          exact cx_truth hg (fun _ => this) (fun z => absurd rfl z)
        · rw [es] at z
          unfold sd at this
          rw [z] at this
          exact cx_truth hg (fun z => absurd z (by decide)) (fun _ => this)
      · rw [if_neg c, if_pos c1] at ok
        exact cx_costs hg ht ho hx (by omega) (by omega) ok
theorem cm_says {K : Int32 → zI → Prop} (hg : zGA g) {E : zE} {T n : Nat} {fam : Nat → zH} (ht : mTx σ T E.1 E.2.1 E.2.2) (hF : mF σ n fam) {h v w : Int32}
    (h1 : ∀ σ', zfr [66] σ σ' → K (aSays E fam n h v w) σ') : zCI mX8_says (d + 5) [.ref 57, .int h, .int v, .int w] g σ K := by
  have n6 := hF.1
  have e0 : (0 : Int32).toInt = 0 := rfl
  have e2 : (2 : Int32).toInt = 2 := rfl
  have e3 : (3 : Int32).toInt = 3 := rfl
  refine s_X8_says hg (cm_isHeir (d := d + 3) hg hF (fun q => z0 ?_) (fun i q hi hh => z1 ?_))
  · have := h1 σ (zfr_rf _ _)
    unfold aSays at this
    rw [q] at this
    exact this
  · have h2 : ∀ σ', zfr [66] σ σ' → K (if 0 ≤ w.toInt ∧ w.toInt ≤ 3 ∧ (w.toInt < 2 → 1 ≤ v.toInt ∧ v.toInt ≤ 30) ∧ (2 ≤ w.toInt → 0 ≤ v.toInt ∧ v.toInt ≤ 99) then sval E (fam i) v.toInt.toNat w.toInt.toNat else -2) σ' := fun σ' hf => by
      have := h1 σ' hf
      unfold aSays at this
      rw [q] at this
      exact this
    have bad : ¬ (0 ≤ w.toInt ∧ w.toInt ≤ 3 ∧ (w.toInt < 2 → 1 ≤ v.toInt ∧ v.toInt ≤ 30) ∧ (2 ≤ w.toInt → 0 ≤ v.toInt ∧ v.toInt ≤ 99)) → K (-2) σ := fun c => by
      have := h2 σ (zfr_rf _ _)
      rw [if_neg c] at this
      exact this
    have ok : (0 ≤ w.toInt ∧ w.toInt ≤ 3 ∧ (w.toInt < 2 → 1 ≤ v.toInt ∧ v.toInt ≤ 30) ∧ (2 ≤ w.toInt → 0 ≤ v.toInt ∧ v.toInt ≤ 99)) → ∀ σ', zfr [66] σ σ' → K (sval E (fam i) v.toInt.toNat w.toInt.toNat) σ' := fun c σ' hf => by
      have := h2 σ' hf
      rw [if_pos c] at this
      exact this
    have hx := (hF.2.2 i hi).2
    have e1 := (hF.2.2 i hi).1
    subst hh
    refine cm_within hg (fun q => z0 (bad (by omega))) (fun q q2 => z1 ?_)
    obtain ⟨k, hk, rfl⟩ := zNat (v := w) (n := 3) (by omega) (by omega) (by omega)
    rw [nI_toInt' (by omega), Int.toNat_natCast] at ok
    rw [nI_toInt' (by omega)] at bad
    have hx : mHr σ i (fam i).2.1 (fam i).2.2.1 (fam i).2.2.2 := by
      have hx : mHr σ (fam i).1 (fam i).2.1 (fam i).2.2.1 (fam i).2.2.2 := hx
      rw [e1] at hx; exact hx
    refine i_le 2 k rfl rfl (by omega) (by omega) (fun z => cm_isSum (d := d + 3) hg (fun y => z0 (bad (by omega))) (fun y y2 => z1 ?_)) (fun z => cm_isNumber (d := d + 3) hg (fun y => z0 (bad (by omega))) (fun y y2 => z1 ?_))
    · obtain ⟨m, hm, rfl⟩ := zNat (v := v) (n := 99) (by omega) (by omega) (by omega)
      rw [nI_toInt' (by omega)] at ok
      have ok := ok (by omega)
      rw [Int.toNat_natCast] at ok
      unfold sval at ok
      rw [e1] at ok
      refine s_X8_says_42 hg (i_eq k 0 rfl rfl (by omega) (by omega) (fun c => by omega) (fun c => i_eq k 1 rfl rfl (by omega) (by omega) (fun c => by omega) (fun c1 => i_eq k 2 rfl rfl (by omega) (by omega) (fun c2 => ?_) (fun c2 => ?_))))
      · rw [if_neg c, if_neg c1, if_pos c2] at ok
        refine cm_isMeant (d := d + 1) hg ht hx (by omega) (fun σ1 hf => ?_)
        have := ok σ1 hf
        cases hm : meant E.2.2 E.1 E.2.1 i (fam i).2.2.1 (fam i).2.2.2 m with
        | false => rw [hm] at this; rw [show (if false = true then (1 : Int32) else 0) = 0 from rfl]; exact z0 this
        | true => rw [hm] at this; rw [show (if true = true then (1 : Int32) else 0) = 1 from rfl]; exact z1 this
      · rw [if_neg c, if_neg c1, if_neg c2] at ok
        exact cm_worthOf (d := d + 1) hg ht hx (by omega) ok
    · have y1 : 1 ≤ v.toInt := y
      obtain ⟨m, hm, rfl⟩ := zNat (v := v) (n := 30) (by omega) (by omega) (by omega)
      rw [nI_toInt' (by omega)] at ok y1
      have ok := ok (by omega)
      rw [Int.toNat_natCast] at ok
      unfold sval at ok
      refine s_X8_says_42 hg (i_eq k 0 rfl rfl (by omega) (by omega) (fun c => ?_) (fun c => i_eq k 1 rfl rfl (by omega) (by omega) (fun c1 => ?_) (fun c1 => by omega)))
      · rw [if_pos c] at ok
        have := ok σ (zfr_rf _ _)
        unfold sd at this
        refine cm_isSaid hg hx (by omega) (by omega) (fun z => z0 ?_) (fun z => z1 ?_)
        · rw [z] at this; exact this
        · rw [z] at this; exact this
      · rw [if_neg c, if_pos c1] at ok
        unfold cst at ok
        rw [e1] at ok
        exact cm_costs (d := d + 1) hg ht hx (by omega) (by omega) ok
def aCom (fam : Nat → zH) (n : Nat) (a b : Int32) : Int32 := match two n a b with
  | none => -2
  | some (i, j) => nI (sb (fam i) &&& sb (fam j))
theorem cx_common {K : Int32 → zI → Prop} (hg : zGA g) {n : Nat} {fam : Nat → zH} (hF : xF σ n fam) {a b : Int32} (h1 : K (aCom fam n a b) σ) : zCI mX7_common (d + 4) [.ref 0, .int a, .int b] g σ K := by
  have n6 := hF.1
  unfold aCom at h1
  refine s_X7_common hg (cx_two hg hF (fun q => ?_) (fun i j q => ?_))
  · rw [q] at h1; exact h1
  · rw [q] at h1
    obtain ⟨hi, hj, hij, rfl, rfl⟩ := two_some n6 q
    refine cx_sayable hg (gr_family_n hg i (by omega)).2 (hF.2.2 i hi).2 (cx_sayable hg (gr_family_n hg j (by omega)).2 (hF.2.2 j hj).2 ?_)
    rw [fa_and]
    exact h1
theorem cm_common {K : Int32 → zI → Prop} (hg : zGA g) {n : Nat} {fam : Nat → zH} (hF : mF σ n fam) {a b : Int32} (h1 : K (aCom fam n a b) σ) : zCI mX8_common (d + 6) [.ref 57, .int a, .int b] g σ K := by
  have n6 := hF.1
  unfold aCom at h1
  refine s_X8_common hg (cm_areTwo (d := d + 3) hg hF (fun q => z0 ?_) (fun i j q => z1 ?_))
  · rw [q] at h1; exact h1
  · rw [q] at h1
    obtain ⟨hi, hj, hij, rfl, rfl⟩ := two_some n6 q
    have hx : mHr σ (fam i).1 (fam i).2.1 (fam i).2.2.1 (fam i).2.2.2 := (hF.2.2 i hi).2
    have hy : mHr σ (fam j).1 (fam j).2.1 (fam j).2.2.1 (fam j).2.2.2 := (hF.2.2 j hj).2
    rw [(hF.2.2 i hi).1] at hx
    rw [(hF.2.2 j hj).1] at hy
    refine cm_sayable hg hx (cm_sayable hg hy ?_)
    rw [fa_and]
    exact h1
def aBar (E : zE) (fam : Nat → zH) (n : Nat) (a b w : Int32) : Int32 := match two n a b with
  | none => -2
  | some (i, j) => if 0 ≤ w.toInt ∧ w.toInt ≤ 2 then hq E (fam i) (prc E (fam i) (fam j)) w.toInt.toNat else -2
theorem cx_barred {K : Int32 → zI → Prop} (hg : zGA g) {E : zE} {T n : Nat} {fam : Nat → zH} (ht : xTx σ T E.1 E.2.1 E.2.2) (hF : xF σ n fam) {a b w : Int32} (h1 : ∀ σ', zfr [20, 21, 26] σ σ' → K (aBar E fam n a b w) σ') : zCI mX7_barred (d + 6) [.ref 0, .int a, .int b, .int w] g σ K := by
  have n6 := hF.1
  have e0 : (0 : Int32).toInt = 0 := rfl
  have e2 : (2 : Int32).toInt = 2 := rfl
  unfold aBar at h1
  refine s_X7_barred hg (cx_two hg hF (fun q => ?_) (fun i j q => ?_))
  · rw [q] at h1; exact h1 σ (zfr_rf _ _)
  · rw [q] at h1
    obtain ⟨hi, hj, hij, rfl, rfl⟩ := two_some n6 q
    have h1 : ∀ σ', zfr [20, 21, 26] σ σ' → K (if 0 ≤ w.toInt ∧ w.toInt ≤ 2 then hq E (fam i) (prc E (fam i) (fam j)) w.toInt.toNat else -2) σ' := h1
    have bad : ¬ (0 ≤ w.toInt ∧ w.toInt ≤ 2) → K (-2) σ := fun c => by
      have := h1 σ (zfr_rf _ _)
      rw [if_neg c] at this
      exact this
    refine t_lt (fun q => bad (by omega)) (fun q => t_le (fun q2 => ?_) (fun q2 => bad (by omega)))
    rw [if_pos ⟨by omega, by omega⟩] at h1
    obtain ⟨k, hk, rfl⟩ := zNat (v := w) (n := 2) (by omega) (by omega) (by omega)
    rw [nI_toInt' (by omega), Int.toNat_natCast] at h1
    exact cx_hindered hg ht (gr_family_n hg i (by omega)).2 (gr_family_n hg j (by omega)).2 (hF.2.2 i hi).2 (hF.2.2 j hj).2 (prc_some E (fam i) (fam j)) hk h1
theorem cm_barredOf' {K : Int32 → zI → Prop} (hg : zGA g) {E : zE} {T a b : Nat} {x y : zH} (ea : x.1 = a) (eb : y.1 = b) (ht : mTx σ T E.1 E.2.1 E.2.2) (hx : mH σ x) (hy : mH σ y) (h68 : σ 68 0 = 0) (h69 : σ 69 0 = 0) {w : Nat} (hw : w ≤ 2)
    (h1 : ∀ σ', zfr [66, 67, 68, 69] σ σ' → σ' 68 0 = 0 → σ' 69 0 = 0 → K (hq E x (prc E x y) w) σ') : zCI mX8_barredOf (d + 6) [.ref 57, .int (nI a), .int (nI b), .int (nI w)] g σ K := by
  subst ea; subst eb
  exact cm_barredOf hg ht hx hy h68 h69 hw h1
end
