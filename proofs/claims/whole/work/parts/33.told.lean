/-! told, count, taken: both sides -/
def aTold (fam : Nat → zH) (n dy : Nat) (h w : Int32) : Int32 := if w = 0 then nI dy else match hA n h with
  | none => -2
  | some i => if w = 1 then nI (fam i).2.2.1 else if w = 2 then nI (fam i).2.2.2 else if w = 3 then nI (fam i).2.1 else if w = 4 then nI (pcn (fam i).2.2.2 30) else if w = 5 then nI (sb (fam i)) else -2
def sOwn (fam : Nat → zH) : Nat → Nat
  | 0 => 0
  | i + 1 => sOwn fam i + pcn (fam i).2.2.2 30
theorem sOwn_le (fam : Nat → zH) : ∀ i, sOwn fam i ≤ 30 * i
  | 0 => Nat.le_refl _
  | i + 1 => by
    have := sOwn_le fam i
    have := pcn_le (fam i).2.2.2 30
    unfold sOwn
    omega
def aCnt (fam : Nat → zH) (n T R z : Nat) (w : Int32) : Int32 := if w = 0 then nI n else if w = 1 then nI T else if w = 2 then nI z else if w = 3 then nI R else if w = 4 then nI (sOwn fam n) else -2
section
variable {d : Nat} {g : zG} {σ : zI} {K : Int32 → zI → Prop}
theorem cx_told (hg : zGA g) {n dy : Nat} {fam : Nat → zH} (hF : xF σ n fam) (hd : σ 3 7 = nI dy) {h w : Int32} (h1 : K (aTold fam n dy h w) σ) : zCI mX7_told (d + 4) [.ref 0, .int h, .int w] g σ K := by
  have n6 := hF.1
  unfold aTold at h1
  refine s_X7_told hg ?_
  rw [hd]
  refine t_eq (fun z => by rw [if_pos z] at h1; exact h1) (fun z => ?_)
  rw [if_neg z] at h1
  refine cx_heirAt hg hF (fun q => by rw [q] at h1; exact h1) (fun i q hi hh => ?_)
  rw [q] at h1
  have ho := (gr_family_n hg i (by omega)).2
  have hx := (hF.2.2 i hi).2
  have hx' := hx
  obtain ⟨p0, p1, p2, p3, p4, p5, p6, p7⟩ := hx'
  refine ⟨ho, ?_⟩
  rw [p1, p2, p3]
  have h1 : K (if w = 1 then nI (fam i).2.2.1 else if w = 2 then nI (fam i).2.2.2 else if w = 3 then nI (fam i).2.1 else if w = 4 then nI (pcn (fam i).2.2.2 30) else if w = 5 then nI (sb (fam i)) else -2) σ := h1
  refine t_eq (fun c => by rw [if_pos c] at h1; exact h1) (fun c1 => t_eq (fun c => by rw [if_neg c1, if_pos c] at h1; exact h1) (fun c2 => t_eq (fun c => by rw [if_neg c1, if_neg c2, if_pos c] at h1; exact h1) (fun c3 => t_eq (fun c => ?_) (fun c4 => t_eq (fun c => ?_) (fun c5 => ?_)))))
  · rw [if_neg c1, if_neg c2, if_neg c3, if_pos c] at h1
    exact cx_bitCount hg.L p7 h1
  · rw [if_neg c1, if_neg c2, if_neg c3, if_neg c4, if_pos c] at h1
    exact cx_sayable hg ho hx h1
  · rw [if_neg c1, if_neg c2, if_neg c3, if_neg c4, if_neg c5] at h1
    exact h1
theorem cm_told (hg : zGA g) {n dy : Nat} {fam : Nat → zH} (hF : mF σ n fam) (hd : σ 57 0 = nI dy) {h w : Int32} (h1 : K (aTold fam n dy h w) σ) : zCI mX8_told (d + 7) [.ref 57, .int h, .int w] g σ K := by
  have n6 := hF.1
  have e0 : (0 : Int32).toInt = 0 := rfl
  have e1 : (1 : Int32).toInt = 1 := rfl
  have e2 : (2 : Int32).toInt = 2 := rfl
  have e3 : (3 : Int32).toInt = 3 := rfl
  have e4 : (4 : Int32).toInt = 4 := rfl
  have e5 : (5 : Int32).toInt = 5 := rfl
  unfold aTold at h1
  refine s_X8_told hg (cm_within hg (fun q => z0 ?_) (fun q q2 => z1 (t_eq (fun z => s_X8_get hg ?_) (fun z => cm_isHeir (d := d + 5) hg hF (fun q3 => z0 ?_) (fun i q3 hi hh => z1 (s_X8_get hg ?_))))))
  · have c0 : ¬ w = 0 := fun u => by rw [u] at q; omega
    have c1 : ¬ w = 1 := fun u => by rw [u] at q; omega
    have c2 : ¬ w = 2 := fun u => by rw [u] at q; omega
    have c3 : ¬ w = 3 := fun u => by rw [u] at q; omega
    have c4 : ¬ w = 4 := fun u => by rw [u] at q; omega
    have c5 : ¬ w = 5 := fun u => by rw [u] at q; omega
    rw [if_neg c0] at h1
    cases h2 : hA n h with
    | none => rw [h2] at h1; exact h1
    | some i =>
      rw [h2] at h1
      have h1 : K (if w = 1 then nI (fam i).2.2.1 else if w = 2 then nI (fam i).2.2.2 else if w = 3 then nI (fam i).2.1 else if w = 4 then nI (pcn (fam i).2.2.2 30) else if w = 5 then nI (sb (fam i)) else -2) σ := h1
      rw [if_neg c1, if_neg c2, if_neg c3, if_neg c4, if_neg c5] at h1
      exact h1
  · rw [if_pos z, hd]
    rw [if_pos z] at h1
    exact h1
  · rw [if_neg z, q3] at h1; exact h1
  · rw [if_neg z, q3] at h1
    have h1 : K (if w = 1 then nI (fam i).2.2.1 else if w = 2 then nI (fam i).2.2.2 else if w = 3 then nI (fam i).2.1 else if w = 4 then nI (pcn (fam i).2.2.2 30) else if w = 5 then nI (sb (fam i)) else -2) σ := h1
    subst hh
    have hx : mHr σ (fam i).1 (fam i).2.1 (fam i).2.2.1 (fam i).2.2.2 := (hF.2.2 i hi).2
    rw [(hF.2.2 i hi).1] at hx
    have hx' := hx
    obtain ⟨p0, p1, p2, p3, p4, p5, p6⟩ := hx'
    rw [if_neg z, c_nI (by omega), p1, p2, p3]
    refine t_eq (fun c => ⟨v_in (by omega) (by omega), by rw [if_pos c] at h1; exact h1⟩) (fun c1 => t_eq (fun c => ⟨v_in (by omega) (by omega), by rw [if_neg c1, if_pos c] at h1; exact h1⟩) (fun c2 => t_eq (fun c => ⟨v_in (by omega) (by omega), by rw [if_neg c1, if_neg c2, if_pos c] at h1; exact h1⟩) (fun c3 => t_eq (fun c => ⟨v_in (by omega) (by omega), ?_⟩) (fun c4 => ?_))))
    · rw [if_neg c1, if_neg c2, if_neg c3, if_pos c] at h1
      exact cm_bitsOf hg p6 h1
    · have ne : ∀ {y : Int32}, ¬ w = y → w.toInt ≠ y.toInt := fun k u => k (Int32.toInt_inj.mp u)
      have k0 := ne z
      have k1 := ne c1
      have k2 := ne c2
      have k3 := ne c3
      have k4 := ne c4
      have c5 : w = 5 := Int32.toInt_inj.mp (by omega)
      rw [if_neg c1, if_neg c2, if_neg c3, if_neg c4, if_pos c5] at h1
      exact cm_sayable hg hx h1
theorem cx_count (hg : zGA g) {n T R z : Nat} {fam : Nat → zH} (hF : xF σ n fam) (hT : σ 3 5 = nI T) (hR : σ 3 6 = nI R) (hz : σ 4 1 = nI z) {w : Int32} (h1 : K (aCnt fam n T R z w) σ) : zCI mX7_count (d + 2) [.ref 0, .int w] g σ K := by
  have n6 := hF.1
  unfold aCnt at h1
  refine s_X7_count hg ?_
  rw [hF.2.1, hT, hR, hz]
  refine t_eq (fun c => by rw [if_pos c] at h1; exact h1) (fun c0 => t_eq (fun c => by rw [if_neg c0, if_pos c] at h1; exact h1) (fun c1 => t_eq (fun c => by rw [if_neg c0, if_neg c1, if_pos c] at h1; exact h1) (fun c2 => t_eq (fun c => by rw [if_neg c0, if_neg c1, if_neg c2, if_pos c] at h1; exact h1) (fun c3 => t_eq (fun c => ?_) (fun c4 => ?_)))))
  · rw [if_neg c0, if_neg c1, if_neg c2, if_neg c3, if_pos c] at h1
    have key : ∀ (r i : Nat), i + r = n → p_X7_allOwn_4 d g K σ (nI (sOwn fam i)) (nI i) := by
      intro r
      induction r with
      | zero =>
        intro i hr
        have e : i = n := by omega
        subst e
        refine s_X7_allOwn_4 hg ?_
        rw [hF.2.1]
        exact i_le i i rfl rfl (by omega) (by omega) (fun _ => h1) (fun q => by omega)
      | succ r ih =>
        intro i hr
        refine s_X7_allOwn_4 hg ?_
        obtain ⟨p0, p1, p2, p3, p4, p5, p6, p7⟩ := (hF.2.2 i (by omega)).2
        rw [hF.2.1, c_nI (n := i) (by omega), p3, nI_1 i]
        refine i_le n i rfl rfl (by omega) (by omega) (fun q => by omega) (fun _ => i_le 6 i rfl rfl (by omega) (by omega) (fun q => by omega) (fun _ => ⟨v_in (by omega) (by omega), cx_bitCount hg.L p7 ?_⟩))
        rw [nI_add]
        exact ih (i + 1) (by omega)
    exact s_X7_allOwn hg (key n 0 (by omega))
  · rw [if_neg c0, if_neg c1, if_neg c2, if_neg c3, if_neg c4] at h1
    exact h1
theorem cm_count (hg : zGA g) {n T R z : Nat} {fam : Nat → zH} (hF : mF σ n fam) (hT : σ 57 8 = nI T) (hR : σ 57 5 = nI R) (hz : σ 57 6 = nI z) {w : Int32} (h1 : K (aCnt fam n T R z w) σ) : zCI mX8_count (d + 1) [.ref 57, .int w] g σ K := by
  have n6 := hF.1
  unfold aCnt at h1
  refine s_X8_count hg ?_
  rw [hF.2.1, hT, hR, hz]
  refine t_eq (fun c => by rw [if_pos c] at h1; exact h1) (fun c0 => t_eq (fun c => by rw [if_neg c0, if_pos c] at h1; exact h1) (fun c1 => t_eq (fun c => by rw [if_neg c0, if_neg c1, if_pos c] at h1; exact h1) (fun c2 => t_eq (fun c => by rw [if_neg c0, if_neg c1, if_neg c2, if_pos c] at h1; exact h1) (fun c3 => t_eq (fun c => ?_) (fun c4 => ?_)))))
  · rw [if_neg c0, if_neg c1, if_neg c2, if_neg c3, if_pos c] at h1
    have key : ∀ (r i : Nat), i + r = n → p_X8_count_58 d g K σ (nI (sOwn fam i)) (nI i) := by
      intro r
      induction r with
      | zero =>
        intro i hr
        have e : i = n := by omega
        subst e
        refine s_X8_count_58 hg ?_
        rw [hF.2.1]
        exact i_le i i rfl rfl (by omega) (by omega) (fun _ => h1) (fun q => by omega)
      | succ r ih =>
        intro i hr
        refine s_X8_count_58 hg ?_
        have hx : mHr σ (fam i).1 (fam i).2.1 (fam i).2.2.1 (fam i).2.2.2 := (hF.2.2 i (by omega)).2
        rw [(hF.2.2 i (by omega)).1] at hx
        obtain ⟨p0, p1, p2, p3, p4, p5, p6⟩ := hx
        rw [hF.2.1, c_nI (n := i) (by omega), p3, nI_1 i]
        refine i_le n i rfl rfl (by omega) (by omega) (fun q => by omega) (fun _ => ⟨v_in (by omega) (by omega), cm_bitsOf hg p6 ?_⟩)
        rw [nI_add]
        exact ih (i + 1) (by omega)
    exact key n 0 (by omega)
  · rw [if_neg c0, if_neg c1, if_neg c2, if_neg c3, if_neg c4] at h1
    exact h1
end
