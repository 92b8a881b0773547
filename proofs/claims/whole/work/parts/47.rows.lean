/-! rows: both sides -/
def rwv (E : zE) (T : Nat) (x y : zH) (C : Nat → Int32) (m w : Nat) : Int32 := if w = 0 then fo E x y C m else if w = 1 then nI (mk (fKin E x y C m) 6) else if w = 2 then nI (mk (fMor E x y C m) 10) else if w = 3 then nI (mk (fTxt E x y C m) T) else if w = 4 then nI (mk (fMust E x y C m) 30) else nI (mk (fMay E x y C m) 30)
def rwq (E : zE) (T : Nat) (x y : zH) (s : zS) (w : Nat) : Int32 := if s.1 = -1 then -11 else if s.2.1 = 2 * (s.2.1 / 2) ∧ tsm s.2.2 0 (s.2.1 / 2) = true then rwv E T x y s.2.2 (s.2.1 / 2) w else -2
def aRow (E : zE) (T : Nat) (S : Nat → zS) (fam : Nat → zH) (n : Nat) (s a b w : Int32) : Int32 := match hA 4 s with
  | none => -2
  | some c => match two n a b with
    | none => -2
    | some (i, j) => if 0 ≤ w.toInt ∧ w.toInt ≤ 5 then rwq E T (fam i) (fam j) (S c) w.toInt.toNat else -2
theorem aRow_1 {E : zE} {T : Nat} {S : Nat → zS} {fam : Nat → zH} {n : Nat} {s a b w : Int32} (h : hA 4 s = none) : aRow E T S fam n s a b w = -2 := by
  unfold aRow
  rw [h]
theorem aRow_2 {E : zE} {T : Nat} {S : Nat → zS} {fam : Nat → zH} {n : Nat} {s a b w : Int32} (h : two n a b = none) : aRow E T S fam n s a b w = -2 := by
  unfold aRow
  rw [h]
  cases hA 4 s <;> rfl
theorem aRow_3 {E : zE} {T : Nat} {S : Nat → zS} {fam : Nat → zH} {n : Nat} {s a b w : Int32} {c i j : Nat} (h : hA 4 s = some c) (h2 : two n a b = some (i, j)) : aRow E T S fam n s a b w = if 0 ≤ w.toInt ∧ w.toInt ≤ 5 then rwq E T (fam i) (fam j) (S c) w.toInt.toNat else -2 := by
  unfold aRow
  rw [h, h2]
section
variable {d : Nat} {g : zG} {σ : zI} {K : Int32 → zI → Prop}
theorem cx_rows (hg : zGA g) {E : zE} {T n : Nat} {fam : Nat → zH} {S : Nat → zS} (ht : xTx σ T E.1 E.2.1 E.2.2) (hF : xF σ n fam) (hS : xSS σ S) {s a b w : Int32}
    (h1 : ∀ σ', zfr [20, 21, 23, 24, 25, 41] σ σ' → K (aRow E T S fam n s a b w) σ') : zCI mX7_rows (d + 8) [.ref 0, .int s, .int a, .int b, .int w] g σ K := by
  have n6 := hF.1
  have e0 : (0 : Int32).toInt = 0 := rfl
  have e5 : (5 : Int32).toInt = 5 := rfl
  refine s_X7_rows hg (cx_sheetAt hg (fun q => ?_) (fun c q hc hs => ⟨(gr_sheets_n hg c hc).2, cx_two hg hF (fun q2 => ?_) (fun i j q2 => ?_)⟩))
  · have h2 : K (-2) σ := by
      have := h1 σ (zfr_rf _ _)
      rw [aRow_1 q] at this
      exact this
    refine cx_heirAt hg hF (fun _ => cx_heirAt hg hF (fun _ => h2) (fun j _ hj _ => ⟨(gr_family_n hg j (by omega)).2, h2⟩)) (fun i _ hi _ => ⟨(gr_family_n hg i (by omega)).2, cx_heirAt hg hF (fun _ => h2) (fun j _ hj _ => ⟨(gr_family_n hg j (by omega)).2, h2⟩)⟩)
  · have := h1 σ (zfr_rf _ _)
    rw [aRow_2 q2] at this
    exact this
  · rw [aRow_3 q q2] at h1
    obtain ⟨hi, hj, hij, rfl, rfl⟩ := two_some n6 q2
    have bad : ¬ (0 ≤ w.toInt ∧ w.toInt ≤ 5) → K (-2) σ := fun u => by
      have := h1 σ (zfr_rf _ _)
      rw [if_neg u] at this
      exact this
    refine t_lt (fun u => bad (by omega)) (fun u => t_le (fun u2 => ?_) (fun u2 => bad (by omega)))
    rw [if_pos ⟨by omega, by omega⟩] at h1
    obtain ⟨k, hk, rfl⟩ := zNat (v := w) (n := 5) (by omega) (by omega) (by omega)
    rw [nI_toInt' (by omega), Int.toNat_natCast] at h1
    unfold rwq at h1
    have hSc := hS c hc
    rw [hSc.2.1]
    refine t_eq (fun z => ?_) (fun z => ?_)
    · have := h1 σ (zfr_rf _ _)
      rw [if_pos z] at this
      exact this
    · rw [if_neg z] at h1
      refine cx_tells (d := d + 5) hg hc hSc (fun y => z0 ?_) (fun y y2 => z1 ?_)
      · have := h1 σ (zfr_rf _ _)
        rw [if_neg y] at this
        exact this
      · rw [if_pos ⟨y, y2⟩] at h1
        have hx := (hF.2.2 i hi).2
        have hy := (hF.2.2 j hj).2
        rw [y] at hSc
        generalize (S c).2.1 / 2 = m at *
        unfold rwv at h1
        refine i_eq k 0 rfl rfl (by omega) (by omega) (fun c0 => ?_) (fun c0 => i_eq k 1 rfl rfl (by omega) (by omega) (fun c1 => ?_) (fun c1 => i_eq k 2 rfl rfl (by omega) (by omega) (fun c2 => ?_) (fun c2 => i_eq k 3 rfl rfl (by omega) (by omega) (fun c3 => ?_) (fun c3 => i_eq k 4 rfl rfl (by omega) (by omega) (fun c4 => ?_) (fun c4 => ?_)))))
        · rw [if_pos c0] at h1
          exact cx_fo (d := d + 1) hg ht hc hSc y2 (gr_family_n hg i (by omega)).2 (gr_family_n hg j (by omega)).2 hx hy (fun σ' hf => h1 σ' (zfr_up hf (by decide)))
        · rw [if_neg c0, if_pos c1] at h1
          exact cx_kinds hg ht hc hSc y2 (by omega) (by omega) hx hy h1
        · rw [if_neg c0, if_neg c1, if_pos c2] at h1
          exact cx_mores hg ht hc hSc y2 (by omega) (by omega) hx hy h1
        · rw [if_neg c0, if_neg c1, if_neg c2, if_pos c3] at h1
          exact cx_texts hg ht hc hSc y2 (by omega) (by omega) hx hy (fun σ' hf => h1 σ' (zfr_up hf (by decide)))
        · rw [if_neg c0, if_neg c1, if_neg c2, if_neg c3, if_pos c4] at h1
          exact cx_must hg ht hc hSc y2 (by omega) (by omega) hx hy h1
        · rw [if_neg c0, if_neg c1, if_neg c2, if_neg c3, if_neg c4] at h1
          exact cx_may hg ht hc hSc y2 (by omega) (by omega) hx hy h1
theorem cm_rows (hg : zGA g) {E : zE} {T n : Nat} {fam : Nat → zH} {S : Nat → zS} (ht : mTx σ T E.1 E.2.1 E.2.2) (hF : mF σ n fam) (hS : mSS σ S) (hsk : sok S) (h68 : σ 68 0 = 0) (h69 : σ 69 0 = 0) {s a b w : Int32}
    (h1 : ∀ σ', zfr [66, 67, 68, 69] σ σ' → σ' 68 0 = 0 → σ' 69 0 = 0 → K (aRow E T S fam n s a b w) σ') : zCI mX8_rows (d + 9) [.ref 57, .int s, .int a, .int b, .int w] g σ K := by
  have n6 := hF.1
  have e0 : (0 : Int32).toInt = 0 := rfl
  have e5 : (5 : Int32).toInt = 5 := rfl
  have em : (-1 : Int32).toInt = -1 := rfl
  refine s_X8_rows hg (cm_isSheet (d := d + 7) hg (fun q => z0 ?_) (fun c q hc hs => z1 (cm_areTwo (d := d + 6) hg hF (fun q2 => z0 ?_) (fun i j q2 => z1 ?_))))
  · have := h1 σ (zfr_rf _ _) h68 h69
    rw [aRow_1 q] at this
    exact this
  · have := h1 σ (zfr_rf _ _) h68 h69
    rw [aRow_2 q2] at this
    exact this
  · rw [aRow_3 q q2] at h1
    subst hs
    obtain ⟨hi, hj, hij, rfl, rfl⟩ := two_some n6 q2
    have bad : ¬ (0 ≤ w.toInt ∧ w.toInt ≤ 5) → K (-2) σ := fun u => by
      have := h1 σ (zfr_rf _ _) h68 h69
      rw [if_neg u] at this
      exact this
    refine cm_within (d := d + 8) hg (fun u => z0 (bad (by omega))) (fun u u2 => z1 ⟨v_in hc (by omega), ?_⟩)
    rw [if_pos ⟨by omega, by omega⟩] at h1
    obtain ⟨k, hk, rfl⟩ := zNat (v := w) (n := 5) (by omega) (by omega) (by omega)
    rw [nI_toInt' (by omega), Int.toNat_natCast] at h1
    unfold rwq at h1
    have hSc := hS c hc
    have hz := hSc.1
    rw [c_nI (n := c) (by omega), hSc.2.1, hSc.2.2.1]
    refine t_le (fun z => ⟨v_in hc (by omega), ?_⟩) (fun z => ?_)
    · rw [if_neg (fun u => by rw [u] at z; omega)] at h1
      have bad2 : ¬ ((S c).2.1 = 2 * ((S c).2.1 / 2) ∧ tsm (S c).2.2 0 ((S c).2.1 / 2) = true) → K (-2) σ := fun u => by
        have := h1 σ (zfr_rf _ _) h68 h69
        rw [if_neg u] at this
        exact this
      rw [show nI (S c).2.1 - nI (S c).2.1 / 2 * 2 = nI ((S c).2.1 % 2) from pk_rem (d := 2) (by omega) (by omega) (by omega)]
      refine i_eq ((S c).2.1 % 2) 1 rfl rfl (by omega) (by omega) (fun y => bad2 (fun u => by omega)) (fun y => ?_)
      have ez : (S c).2.1 = 2 * ((S c).2.1 / 2) := by omega
      have ok : tsm (S c).2.2 0 ((S c).2.1 / 2) = true → ∀ σ', zfr [66, 67, 68, 69] σ σ' → σ' 68 0 = 0 → σ' 69 0 = 0 → K (rwv E T (fam i) (fam j) (S c).2.2 ((S c).2.1 / 2) k) σ' := fun u => by
        rw [if_pos ⟨ez, u⟩] at h1
        exact h1
      have bad3 : tsm (S c).2.2 0 ((S c).2.1 / 2) = false → K (-2) σ := fun u => bad2 (fun w => by rw [w.2] at u; cases u)
      have hx := (hF.2.2 i hi).2
      have hy := (hF.2.2 j hj).2
      have xi := (hF.2.2 i hi).1
      have yj := (hF.2.2 j hj).1
      rw [ez] at hSc
      generalize (S c).2.1 / 2 = m at *
      generalize (S c).2.2 = C at *
      obtain ⟨r0, r1, r2, r3⟩ := hSc
      have m40 : ∀ a b : Nat, (40 : Int32) * nI a + nI b = nI (40 * a + b) := fun a b => by rw [show (40 : Int32) * nI a = nI (40 * a) from pk_mul 40 a, nI_add]
      have key : ∀ (r u : Nat), u + r = m → (tsm C u r = false → K (-2) σ) → (tsm C u r = true → tsm C 0 m = true) → p_X8_rows_59 (d + 8) g K σ (nI c) (nI i) (nI j) (nI k) (nI (2 * u)) := by
        intro r
        induction r with
        | zero =>
          intro u hu k0 k1
          have y2 := k1 rfl
          have ok := ok y2
          refine s_X8_rows_59 hg ⟨v_in hc (by omega), ?_⟩
          rw [c_nI (n := c) (by omega), r2]
          refine i_le (2 * m) (2 * u) rfl rfl (by omega) (by omega) (fun _ => ?_) (fun q => by omega)
          unfold rwv at ok
          refine i_eq k 0 rfl rfl (by omega) (by omega) (fun c0 => ?_) (fun c0 => i_eq k 1 rfl rfl (by omega) (by omega) (fun c1 => ?_) (fun c1 => i_eq k 2 rfl rfl (by omega) (by omega) (fun c2 => ?_) (fun c2 => i_eq k 3 rfl rfl (by omega) (by omega) (fun c3 => ?_) (fun c3 => i_eq k 4 rfl rfl (by omega) (by omega) (fun c4 => ?_) (fun c4 => ?_)))))
          · rw [if_pos c0] at ok
            exact cm_fo (d := d + 2) hg xi yj ht hc ⟨r0, r1, r2, r3⟩ y2 hx hy h68 h69 ok
          · rw [if_neg c0, if_pos c1] at ok
            exact cm_kinds hg hij xi yj ht hc ⟨r0, r1, r2, r3⟩ y2 hx hy h68 h69 ok
          · rw [if_neg c0, if_neg c1, if_pos c2] at ok
            exact cm_mores hg hij xi yj ht hc ⟨r0, r1, r2, r3⟩ y2 hx hy h68 h69 ok
          · rw [if_neg c0, if_neg c1, if_neg c2, if_pos c3] at ok
            exact cm_texts hg hij xi yj ht hc ⟨r0, r1, r2, r3⟩ y2 hx hy h68 h69 ok
          · rw [if_neg c0, if_neg c1, if_neg c2, if_neg c3, if_pos c4] at ok
            exact cm_must hg hij xi yj ht hc ⟨r0, r1, r2, r3⟩ y2 hx hy h68 h69 ok
          · rw [if_neg c0, if_neg c1, if_neg c2, if_neg c3, if_neg c4] at ok
            exact cm_may hg hij xi yj ht hc ⟨r0, r1, r2, r3⟩ y2 hx hy h68 h69 ok
        | succ r ih =>
          intro u hu k0 k1
          refine s_X8_rows_59 hg ⟨v_in hc (by omega), ?_⟩
          rw [c_nI (n := c) (by omega), r2, m40, c_nI (n := 40 * c + 2 * u) (by omega), r3 (2 * u) (by omega)]
          refine i_le (2 * m) (2 * u) rfl rfl (by omega) (by omega) (fun q => by omega) (fun _ => ⟨v_in (by omega) (by omega), cm_isSum (d := d + 7) hg (fun y => z0 (k0 (tsm_3 (by omega)))) (fun y y2 => z1 ?_)⟩)
          rw [tsm_2 ⟨y, y2⟩] at k0 k1
          rw [show nI (2 * u) + 2 = nI (2 * (u + 1)) from nI_add (2 * u) 2]
          exact ih (u + 1) (by omega) k0 k1
      exact key m 0 (by omega) bad3 (fun u => u)
    · have zz : (S c).1 = -1 := by
        rcases hsk c hc with u | u
        · exact u
        · omega
      have := h1 σ (zfr_rf _ _) h68 h69
      rw [if_pos zz] at this
      exact this
end
