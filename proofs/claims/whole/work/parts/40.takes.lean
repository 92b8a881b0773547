/-! taken: both sides, the calls -/
section
variable {d : Nat} {g : zG} {σ : zI} {K : Int32 → zI → Prop}
theorem cx_taken (hg : zGA g) {n : Nat} {fam : Nat → zH} (hF : xF σ n fam) {h k : Int32} (h1 : K (aTak fam n h k) σ) : zCI mX7_taken (d + 2) [.ref 0, .int h, .int k] g σ K := by
  have n6 := hF.1
  have e0 : (0 : Int32).toInt = 0 := rfl
  have e6 : (6 : Int32).toInt = 6 := rfl
  unfold aTak at h1
  refine s_X7_taken hg (t_lt (fun q => ?_) (fun q => t_lt (fun q2 => ?_) (fun q2 => ?_)))
  · rw [if_neg (by omega)] at h1; exact h1
  · rw [if_pos (by omega)] at h1
    obtain ⟨t, ht, rfl⟩ := zNat (v := k) (n := 5) (by omega) (by omega) (by omega)
    rw [nI_toInt' (by omega), Int.toNat_natCast] at h1
    refine cx_heirAt hg hF (fun y => by rw [y] at h1; exact h1) (fun i y hi hh => ⟨(gr_family_n hg i (by omega)).2, ?_⟩)
    rw [y] at h1
    have h1 : K (if undr (fam i).2.1 t then nI (fam i).2.2.1 else -13) σ := h1
    obtain ⟨p0, p1, p2, p3, p4, p5, p6, p7⟩ := (hF.2.2 i hi).2
    rw [p1]
    refine cx_isUnder hg ht p5 (fun w => z1 ?_) (fun w => z0 ?_)
    · rw [p2]; rw [if_pos w] at h1; exact h1
    · rw [w, if_neg (by decide)] at h1; exact h1
  · rw [if_neg (by omega)] at h1; exact h1
theorem ct_step (hg : zGA g) {i t k : Nat} (hi : i < 6) (ht : t ≤ 5) (hk : k ≤ 5) (h1 : k = t → K (σ 59 i) σ) (h0 : k ≠ t → k = 0 → K (-13) σ) (h2 : k ≠ t → k ≠ 0 → p_X8_taken_30 d g K σ (nI i) (nI t) (nI (over k))) : p_X8_taken_30 d g K σ (nI i) (nI t) (nI k) := by
  refine s_X8_taken_30 hg ?_
  rw [c_nI (by omega)]
  refine i_eq k t rfl rfl (by omega) (by omega) (fun q => i_eq k t rfl rfl (by omega) (by omega) (fun _ => ⟨v_in hi (by omega), h1 q⟩) (fun u => absurd q u)) (fun q => i_le k 0 rfl rfl (by omega) (by omega) (fun q2 => i_eq k t rfl rfl (by omega) (by omega) (fun u => absurd u q) (fun _ => h0 q (by omega))) (fun q2 => ?_))
  have nx := h2 q (by omega)
  unfold over at nx
  refine i_eq k 3 rfl rfl (by omega) (by omega) (fun c => ?_) (fun c => i_eq k 4 rfl rfl (by omega) (by omega) (fun c2 => ?_) (fun c2 => ?_))
  · rw [if_pos c] at nx; exact nx
  · rw [if_neg c, if_pos c2] at nx; exact nx
  · rw [if_neg c, if_neg c2] at nx; exact nx
theorem over_le (k : Nat) : over k ≤ 2 := by unfold over; split <;> (try split) <;> omega
theorem over_2 {k : Nat} (h : k ≤ 2) : over k = 0 := by unfold over; rw [if_neg (by omega), if_neg (by omega)]
theorem cm_taken (hg : zGA g) {n : Nat} {fam : Nat → zH} (hF : mF σ n fam) {h k : Int32} (h1 : K (aTak fam n h k) σ) : zCI mX8_taken (d + 2) [.ref 57, .int h, .int k] g σ K := by
  have n6 := hF.1
  have e0 : (0 : Int32).toInt = 0 := rfl
  have e5 : (5 : Int32).toInt = 5 := rfl
  unfold aTak at h1
  refine s_X8_taken hg (cm_within hg (fun q => z0 ?_) (fun q q2 => z1 ?_))
  · rw [if_neg (by omega)] at h1; exact h1
  · rw [if_pos (by omega)] at h1
    obtain ⟨t, ht, rfl⟩ := zNat (v := k) (n := 5) (by omega) (by omega) (by omega)
    rw [nI_toInt' (by omega), Int.toNat_natCast] at h1
    refine cm_isHeir (d := d) hg hF (fun y => z0 (by rw [y] at h1; exact h1)) (fun i y hi hh => z1 ?_)
    rw [y] at h1
    have h1 : K (if undr (fam i).2.1 t then nI (fam i).2.2.1 else -13) σ := h1
    subst hh
    have hx : mHr σ (fam i).1 (fam i).2.1 (fam i).2.2.1 (fam i).2.2.2 := (hF.2.2 i hi).2
    rw [(hF.2.2 i hi).1] at hx
    obtain ⟨p1, p2, p3, p4, p5, p6, p7⟩ := hx
    rw [c_nI (by omega), p2]
    generalize (fam i).2.1 = c at *
    have yes : undr c t = true → K (σ 59 i) σ := fun w => by rw [p3]; rw [if_pos w] at h1; exact h1
    have no : undr c t = false → K (-13) σ := fun w => by rw [w, if_neg (by decide)] at h1; exact h1
    have o1 := over_le c
    refine ⟨v_in (by omega) (by omega), ct_step hg (by omega) ht p5 (fun u => yes (by simp [undr, u])) (fun u u2 => no (by subst u2; simp [undr, u])) (fun u u2 => ?_)⟩
    refine ct_step hg (by omega) ht (by omega) (fun w => yes (by unfold undr; simp [w]; omega)) (fun w w2 => no (by unfold undr; rw [w2] at w ⊢; simp [u, w])) (fun w w2 => ?_)
    rw [over_2 (k := over c) o1]
    refine ct_step hg (by omega) ht (by omega) (fun x => yes (by unfold undr; rw [over_2 (k := over c) o1]; simp [x]; omega)) (fun x _ => no (by unfold undr; rw [over_2 (k := over c) o1]; simp [u, w, x])) (fun x x2 => absurd rfl x2)
end
