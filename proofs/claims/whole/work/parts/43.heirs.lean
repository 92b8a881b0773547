/-! heirs: both sides -/
abbrev zFm := Nat × (Nat → zH)
def addH (F : zFm) (k m : Int32) : zFm × Bool := if (0 ≤ k.toInt ∧ k.toInt ≤ 5 ∧ 0 ≤ m.toInt ∧ m.toInt ≤ 9) ∧ F.1 < 6 then ((F.1 + 1, upF F.2 F.1 (F.1, k.toInt.toNat, m.toInt.toNat, 0)), true) else (F, false)
def hsT (C : Nat → Int32) (sz : Nat) : Nat → Int → zFm → Nat → Int32 × zFm
  | 0, _, F, c => (nI c, F)
  | r + 1, f, F, c => if 0 ≤ f ∧ f + 1 < (sz : Int) then hsT C sz r (f + 2) (addH F (C f.toNat) (C (f.toNat + 1))).1 (if (addH F (C f.toNat) (C (f.toNat + 1))).2 then c + 1 else c) else (-12, F)
def dHs (S : Nat → zS) (F : zFm) (s so f n : Int32) : Int32 × zFm := match hA 4 s with
  | none => (-2, F)
  | some a => if 0 ≤ so.toInt ∧ so.toInt ≤ 2 ∧ 0 ≤ n.toInt ∧ n.toInt ≤ 6 then (if (S a).1 = -1 then (-11, F) else if (S a).1 = so then hsT (S a).2.2 (S a).2.1 n.toInt.toNat f.toInt F 0 else (-13, F)) else (-2, F)
theorem dHs_no {S : Nat → zS} {F : zFm} {s so f n : Int32} (h : hA 4 s = none) : dHs S F s so f n = (-2, F) := by
  unfold dHs
  rw [h]
theorem dHs_eq {S : Nat → zS} {F : zFm} {s so f n : Int32} {a : Nat} (h : hA 4 s = some a) : dHs S F s so f n = if 0 ≤ so.toInt ∧ so.toInt ≤ 2 ∧ 0 ≤ n.toInt ∧ n.toInt ≤ 6 then (if (S a).1 = -1 then (-11, F) else if (S a).1 = so then hsT (S a).2.2 (S a).2.1 n.toInt.toNat f.toInt F 0 else (-13, F)) else (-2, F) := by
  unfold dHs
  rw [h]
section
variable {d : Nat} {g : zG} {σ : zI} {K : Int32 → zI → Prop}
theorem cx_heirF (hg : zGA g) {F : zFm} (hF : xF σ F.1 F.2) {k m : Int32}
    (h0 : (addH F k m).2 = false → (addH F k m).1 = F → ∀ v : Int32, v.toInt < 0 → K v σ) (h1 : (addH F k m).2 = true → ∀ v : Int32, 0 ≤ v.toInt → ∀ σ', zfr [0, 43, 44, 45, 46, 47, 48] σ σ' → xF σ' (addH F k m).1.1 (addH F k m).1.2 → K v σ') : zCI mX7_heir d [.ref 0, .int k, .int m] g σ K := by
  have n6 := hF.1
  refine cx_heir hg hF (fun q => ?_) (fun q q2 => ?_) (fun a b ha hb hk hm hn σ' hf hF' => ?_)
  · have e : addH F k m = (F, false) := if_neg (fun u => q u.1)
    exact h0 (by rw [e]) (by rw [e]) _ (by decide)
  · have e : addH F k m = (F, false) := if_neg (fun u => by omega)
    exact h0 (by rw [e]) (by rw [e]) _ (by decide)
  · subst hk
    subst hm
    have e : addH F (nI a) (nI b) = ((F.1 + 1, upF F.2 F.1 (F.1, a, b, 0)), true) := by
      unfold addH
      rw [nI_toInt' (by omega), nI_toInt' (by omega), Int.toNat_natCast, Int.toNat_natCast, if_pos (by omega)]
    rw [e] at h1
    refine h1 rfl (nI F.1) (by rw [nI_toInt' (by omega)]; omega) σ' (zfr_up hf (fun x hx => ?_)) hF'
    have hx : x = 0 ∨ x = 43 + F.1 := by simpa using hx
    simp
    omega
theorem cm_heirF (hg : zGA g) {F : zFm} (hF : mF σ F.1 F.2) {k m : Int32}
    (h0 : (addH F k m).2 = false → (addH F k m).1 = F → ∀ v : Int32, v.toInt < 0 → K v σ) (h1 : (addH F k m).2 = true → ∀ v : Int32, 0 ≤ v.toInt → ∀ σ', zfr [57, 58, 59, 60] σ σ' → (∀ j, j ≠ 1 → σ' 57 j = σ 57 j) → mF σ' (addH F k m).1.1 (addH F k m).1.2 → K v σ') : zCI mX8_heir (d + 1) [.ref 57, .int k, .int m] g σ K := by
  have n6 := hF.1
  refine cm_heir hg hF (fun q => ?_) (fun q q2 => ?_) (fun a b ha hb hk hm hn σ' hf hj hF' => ?_)
  · have e : addH F k m = (F, false) := if_neg (fun u => q u.1)
    exact h0 (by rw [e]) (by rw [e]) _ (by decide)
  · have e : addH F k m = (F, false) := if_neg (fun u => by omega)
    exact h0 (by rw [e]) (by rw [e]) _ (by decide)
  · subst hk
    subst hm
    have e : addH F (nI a) (nI b) = ((F.1 + 1, upF F.2 F.1 (F.1, a, b, 0)), true) := by
      unfold addH
      rw [nI_toInt' (by omega), nI_toInt' (by omega), Int.toNat_natCast, Int.toNat_natCast, if_pos (by omega)]
    rw [e] at h1
    exact h1 rfl (nI F.1) (by rw [nI_toInt' (by omega)]; omega) σ' hf hj hF'
theorem neg_if {A B : Prop} {v : Int32} (h : v.toInt < 0) (a : A) : if v < 0 then A else B := by
  rw [if_pos (Int32.lt_iff_toInt_lt.mpr (by have e0 : (0 : Int32).toInt = 0 := rfl
                                            omega))]
  exact a
theorem pos_if {A B : Prop} {v : Int32} (h : 0 ≤ v.toInt) (b : B) : if v < 0 then A else B := by
  rw [if_neg (fun q => by have := Int32.lt_iff_toInt_lt.mp q
                          have e0 : (0 : Int32).toInt = 0 := rfl
                          omega)]
  exact b
theorem cx_heirs (hg : zGA g) {S : Nat → zS} (hS : xSS σ S) {F : zFm} (hF : xF σ F.1 F.2) {s so f n : Int32}
    (h1 : ∀ σ', zfr [0, 43, 44, 45, 46, 47, 48] σ σ' → xF σ' (dHs S F s so f n).2.1 (dHs S F s so f n).2.2 → K (dHs S F s so f n).1 σ') : zCI mX7_heirs (d + 2) [.ref 0, .int s, .int so, .int f, .int n] g σ K := by
  have e0 : (0 : Int32).toInt = 0 := rfl
  have e1 : (1 : Int32).toInt = 1 := rfl
  have e2 : (2 : Int32).toInt = 2 := rfl
  have e6 : (6 : Int32).toInt = 6 := rfl
  refine s_X7_heirs hg (cx_sheetAt hg (fun q => ?_) (fun a q ha hs => ⟨(gr_sheets_n hg a ha).2, ?_⟩))
  · rw [dHs_no q] at h1; exact h1 σ (zfr_rf _ _) hF
  · rw [dHs_eq q] at h1
    obtain ⟨p0, p1, p2, p3⟩ := hS a ha
    have bad : ¬ (0 ≤ so.toInt ∧ so.toInt ≤ 2 ∧ 0 ≤ n.toInt ∧ n.toInt ≤ 6) → K (-2) σ := fun u => by
      rw [if_neg u] at h1
      exact h1 σ (zfr_rf _ _) hF
    refine t_lt (fun u => bad (by omega)) (fun u1 => t_lt (fun u => bad (by omega)) (fun u2 => t_lt (fun u => bad (by omega)) (fun u3 => t_le (fun u4 => ?_) (fun u => bad (by omega)))))
    rw [if_pos (by omega)] at h1
    rw [p1]
    refine t_eq (fun z => ?_) (fun z => ?_)
    · rw [if_pos z]
      rw [if_pos z] at h1
      exact h1 σ (zfr_rf _ _) hF
    · rw [if_neg z] at h1
      refine t_eq (fun y => ?_) (fun y => ?_)
      · rw [if_neg z]
        rw [if_pos y] at h1
        obtain ⟨m, hm, rfl⟩ := zNat (v := n) (n := 6) (by omega) (by omega) (by omega)
        rw [nI_toInt' (by omega), Int.toNat_natCast] at h1
        have key : ∀ (r k : Nat) (F1 : zFm) (c : Nat) (v : Int32) (σ1 : zI), k + r = m → c ≤ k → zfr [0, 43, 44, 45, 46, 47, 48] σ σ1 → xF σ1 F1.1 F1.2 →
            (∀ σ', zfr [0, 43, 44, 45, 46, 47, 48] σ σ' → xF σ' (hsT (S a).2.2 (S a).2.1 r v.toInt F1 c).2.1 (hsT (S a).2.2 (S a).2.1 r v.toInt F1 c).2.2 → K (hsT (S a).2.2 (S a).2.1 r v.toInt F1 c).1 σ') → p_X7_heirs_78 (d + 1) g K σ1 (nI m) (49 + 2 * a) (nI c) v (nI k) := by
          intro r
          induction r with
          | zero =>
            intro k F1 c v σ1 hr hc hf hF1 hK
            exact s_X7_heirs_78 hg (gr_sheets_n hg a ha).2 (i_le m k rfl rfl (by omega) (by omega) (fun _ => hK σ1 hf hF1) (fun q => by omega))
          | succ r ih =>
            intro k F1 c v σ1 hr hc hf hF1 hK
            have hx1 : xS σ1 a (S a).1 (S a).2.1 (S a).2.2 := xSS_fr hS hf (by intro x hx; simp at hx; omega) a ha
            have et : hsT (S a).2.2 (S a).2.1 (r + 1) v.toInt F1 c = if 0 ≤ v.toInt ∧ v.toInt + 1 < ((S a).2.1 : Int) then hsT (S a).2.2 (S a).2.1 r (v.toInt + 2) (addH F1 ((S a).2.2 v.toInt.toNat) ((S a).2.2 (v.toInt.toNat + 1))).1 (if (addH F1 ((S a).2.2 v.toInt.toNat) ((S a).2.2 (v.toInt.toNat + 1))).2 then c + 1 else c) else (-12, F1) := rfl
            refine s_X7_heirs_78 hg (gr_sheets_n hg a ha).2 (i_le m k rfl rfl (by omega) (by omega) (fun q => by omega) (fun _ => cx_holdsRun hg ha p0 hx1.2.2.1 (fun w => z0 ?_) (fun w => z1 ?_)))
            · rw [et, if_neg (by omega)] at hK
              exact hK σ1 hf hF1
            · rw [et, if_pos (by omega)] at hK
              obtain ⟨j, hj, rfl⟩ := zNat (v := v) (n := 38) (by omega) (by omega) (by omega)
              rw [nI_toInt' (by omega)] at w
              rw [nI_toInt' (by omega), Int.toNat_natCast] at hK
              rw [nI_1 j, nI_1 k, show nI j + 2 = nI (j + 2) from nI_add j 2]
              refine cx_at (d := d) hg ha hx1 (by omega) (cx_at (d := d) hg ha hx1 (by omega) (cx_heirF hg hF1 (fun b1 b2 v hv => neg_if hv ?_) (fun b1 v hv σ2 hf2 hF2 => pos_if hv ?_)))
              · rw [b1, b2] at hK
                refine ih (k + 1) F1 c (nI (j + 2)) σ1 (by omega) (by omega) hf hF1 ?_
                rw [nI_toInt' (by omega)]
                exact hK
              · rw [b1] at hK
                rw [nI_1 c]
                refine ih (k + 1) _ (c + 1) (nI (j + 2)) σ2 (by omega) (by omega) (zfr_tr hf hf2) hF2 ?_
                rw [nI_toInt' (by omega)]
                exact hK
        exact key m 0 F 0 f σ (by omega) (by omega) (zfr_rf _ _) hF h1
      · rw [if_neg y] at h1
        exact h1 σ (zfr_rf _ _) hF
theorem cm_heirs (hg : zGA g) {S : Nat → zS} (hS : mSS σ S) (hk : sok S) {F : zFm} (hF : mF σ F.1 F.2) {s so f n : Int32}
    (h1 : ∀ σ', zfr [57, 58, 59, 60] σ σ' → (∀ j, j ≠ 1 → σ' 57 j = σ 57 j) → mF σ' (dHs S F s so f n).2.1 (dHs S F s so f n).2.2 → K (dHs S F s so f n).1 σ') : zCI mX8_heirs (d + 2) [.ref 57, .int s, .int so, .int f, .int n] g σ K := by
  have e0 : (0 : Int32).toInt = 0 := rfl
  have e1 : (1 : Int32).toInt = 1 := rfl
  have e2 : (2 : Int32).toInt = 2 := rfl
  have e6 : (6 : Int32).toInt = 6 := rfl
  have em : (-1 : Int32).toInt = -1 := rfl
  refine s_X8_heirs hg (cm_isSheet (d := d) hg (fun q => z0 ?_) (fun a q ha hs => z1 ?_))
  · rw [dHs_no q] at h1; exact h1 σ (zfr_rf _ _) (fun _ _ => rfl) hF
  · rw [dHs_eq q] at h1
    subst hs
    obtain ⟨p0, p1, p2, p3⟩ := hS a ha
    have bad : ¬ (0 ≤ so.toInt ∧ so.toInt ≤ 2 ∧ 0 ≤ n.toInt ∧ n.toInt ≤ 6) → K (-2) σ := fun u => by
      rw [if_neg u] at h1
      exact h1 σ (zfr_rf _ _) (fun _ _ => rfl) hF
    refine cm_within (d := d + 1) hg (fun u => z0 (bad (by omega))) (fun u1 u2 => z1 (cm_within (d := d + 1) hg (fun u => z0 (bad (by omega))) (fun u3 u4 => z1 ⟨v_in ha (by omega), ?_⟩)))
    rw [if_pos (by omega)] at h1
    rw [c_nI (n := a) (by omega), p1]
    refine t_le (fun z => ⟨v_in ha (by omega), ?_⟩) (fun z => ?_)
    · rw [if_neg (fun u => by rw [u] at z; omega)] at h1
      refine t_eq (fun y => ?_) (fun y => ?_)
      · rw [if_pos y] at h1
        obtain ⟨m, hm, rfl⟩ := zNat (v := n) (n := 6) (by omega) (by omega) (by omega)
        rw [nI_toInt' (n := m) (by omega), Int.toNat_natCast] at h1
        have fb := Int32.toInt_lt f
        have fb2 := Int32.le_toInt f
        have L0 : ∀ k : Nat, k ≤ 6 → (f.toInt64 + 2 * (nI k).toInt64).toInt = f.toInt + 2 * (k : Int) := fun k hk => by
          have a1 : ((2 : Int64) * (nI k).toInt64).toInt = 2 * (k : Int) := by
            rw [Int64.toInt_mul, Int32.toInt_toInt64, nI_toInt' (by omega), show (2 : Int64).toInt = 2 from rfl]
            exact Int.bmod_eq_of_le (by omega) (by omega)
          rw [Int64.toInt_add, a1, Int32.toInt_toInt64]
          exact Int.bmod_eq_of_le (by omega) (by omega)
        have L1 : ∀ k : Nat, k ≤ 6 → (f.toInt64 + 2 * (nI k).toInt64 + 1).toInt = f.toInt + 2 * (k : Int) + 1 := fun k hk => by
          rw [Int64.toInt_add, L0 k hk, show (1 : Int64).toInt = 1 from rfl]
          exact Int.bmod_eq_of_le (by omega) (by omega)
        have L2 : ∀ (k j : Nat), k ≤ 6 → j < 100 → f.toInt + 2 * (k : Int) = j → (f.toInt64 + 2 * (nI k).toInt64).toInt32 = nI j := fun k j hk hj he => by
          apply Int32.toInt_inj.mp
          rw [Int64.toInt_toInt32, L0 k hk, he, nI_toInt' (by omega)]
          exact Int.bmod_eq_of_le (by omega) (by omega)
        have m40 : ∀ a b : Nat, (40 : Int32) * nI a + nI b = nI (40 * a + b) := fun a b => by rw [show (40 : Int32) * nI a = nI (40 * a) from pk_mul 40 a, nI_add]
        have key : ∀ (r k : Nat) (F1 : zFm) (c : Nat) (σ1 : zI), k + r = m → c ≤ k → zfr [57, 58, 59, 60] σ σ1 → (∀ j, j ≠ 1 → σ1 57 j = σ 57 j) → mF σ1 F1.1 F1.2 →
            (∀ σ', zfr [57, 58, 59, 60] σ σ' → (∀ j, j ≠ 1 → σ' 57 j = σ 57 j) → mF σ' (hsT (S a).2.2 (S a).2.1 r (f.toInt + 2 * (k : Int)) F1 c).2.1 (hsT (S a).2.2 (S a).2.1 r (f.toInt + 2 * (k : Int)) F1 c).2.2 → K (hsT (S a).2.2 (S a).2.1 r (f.toInt + 2 * (k : Int)) F1 c).1 σ') → p_X8_heirs_61 (d + 1) g K σ1 (nI a) f (nI m) (nI c) (nI k) := by
          intro r
          induction r with
          | zero =>
            intro k F1 c σ1 hr hc hf h57 hF1 hK
            exact s_X8_heirs_61 hg (i_le m k rfl rfl (by omega) (by omega) (fun _ => hK σ1 hf h57 hF1) (fun q => by omega))
          | succ r ih =>
            intro k F1 c σ1 hr hc hf h57 hF1 hK
            obtain ⟨r0, r1, r2, r3⟩ := mSS_fr hS hf (by decide) a ha
            generalize hv : f.toInt + 2 * (k : Int) = v at *
            have et : hsT (S a).2.2 (S a).2.1 (r + 1) v F1 c = if 0 ≤ v ∧ v + 1 < ((S a).2.1 : Int) then hsT (S a).2.2 (S a).2.1 r (v + 2) (addH F1 ((S a).2.2 v.toNat) ((S a).2.2 (v.toNat + 1))).1 (if (addH F1 ((S a).2.2 v.toNat) ((S a).2.2 (v.toNat + 1))).2 then c + 1 else c) else (-12, F1) := rfl
            refine s_X8_heirs_61 hg (i_le m k rfl rfl (by omega) (by omega) (fun q => by omega) (fun _ => ?_))
            have bad : ¬ (0 ≤ v ∧ v + 1 < ((S a).2.1 : Int)) → K (-12) σ1 := fun u => by
              rw [et, if_neg u] at hK
              exact hK σ1 hf h57 hF1
            by_cases c1 : lg_cmp (f.toInt64 + 2 * (nI k).toInt64) 0 < 0
            · rw [if_pos c1]
              rw [lg_cmp_lt, Int64.lt_iff_toInt_lt, L0 k (by omega), hv, show (0 : Int64).toInt = 0 from rfl] at c1
              exact bad (by omega)
            · rw [if_neg c1]
              rw [lg_cmp_lt, Int64.lt_iff_toInt_lt, L0 k (by omega), hv, show (0 : Int64).toInt = 0 from rfl] at c1
              rw [c_nI (n := a) (by omega), r2]
              refine ⟨v_in ha (by omega), ?_⟩
              by_cases c2 : lg_cmp (f.toInt64 + 2 * (nI k).toInt64 + 1) (nI (S a).2.1).toInt64 < 0
              · rw [if_pos c2]
                rw [lg_cmp_lt, Int64.lt_iff_toInt_lt, L1 k (by omega), hv, Int32.toInt_toInt64, nI_toInt' (by omega)] at c2
                rw [et, if_pos (by omega)] at hK
                obtain ⟨j, rfl⟩ : ∃ j : Nat, v = (j : Int) := ⟨v.toNat, by omega⟩
                rw [Int.toNat_natCast] at hK
                rw [L2 k j (by omega) (by omega) hv, m40, nI_1 (40 * a + j), c_nI (n := 40 * a + j) (by omega), c_nI (n := 40 * a + j + 1) (by omega), r3 j (by omega), show 40 * a + j + 1 = 40 * a + (j + 1) by omega, r3 (j + 1) (by omega), nI_1 k]
                have ev : f.toInt + 2 * ((k + 1 : Nat) : Int) = (j : Int) + 2 := by omega
                refine ⟨v_in (by omega) (by omega), v_in (by omega) (by omega), cm_heirF (d := d) hg hF1 (fun b1 b2 v hv => neg_if hv ?_) (fun b1 v hv σ2 hf2 h572 hF2 => pos_if hv ?_)⟩
                · rw [b1, b2] at hK
                  refine ih (k + 1) F1 c σ1 (by omega) (by omega) hf h57 hF1 ?_
                  rw [ev]
                  exact hK
                · rw [b1] at hK
                  rw [nI_1 c]
                  refine ih (k + 1) _ (c + 1) σ2 (by omega) (by omega) (zfr_tr hf hf2) (fun j hj => (h572 j hj).trans (h57 j hj)) hF2 ?_
                  rw [ev]
                  exact hK
              · rw [if_neg c2]
                rw [lg_cmp_lt, Int64.lt_iff_toInt_lt, L1 k (by omega), hv, Int32.toInt_toInt64, nI_toInt' (by omega)] at c2
                exact bad (by omega)
        refine key m 0 F 0 σ (by omega) (by omega) (zfr_rf _ _) (fun _ _ => rfl) hF ?_
        rw [show f.toInt + 2 * ((0 : Nat) : Int) = f.toInt by omega]
        exact h1
      · rw [if_neg y] at h1
        exact h1 σ (zfr_rf _ _) (fun _ _ => rfl) hF
    · have zz : (S a).1 = -1 := by
        rcases hk a ha with u | u
        · exact u
        · omega
      rw [if_pos zz] at h1
      exact h1 σ (zfr_rf _ _) (fun _ _ => rfl) hF
end
