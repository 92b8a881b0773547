/-! set, force, heir: both sides -/
def dSet (n : Nat) (w h v : Int32) : Option (Nat × Nat) :=
  if w = 0 then (if 0 ≤ v.toInt ∧ v.toInt ≤ 99 then some (0, 0) else none)
  else match hA n h with
    | none => none
    | some i => if w = 1 then (if 0 ≤ v.toInt ∧ v.toInt ≤ 9 then some (1, i) else none) else if w = 2 then (if 0 ≤ v.toInt ∧ v.toInt ≤ 1073741823 then some (2, i) else none) else none
section
variable {d : Nat} {g : zG} {σ : zI}
theorem cx_set {K : Int32 → zI → Prop} (hg : zGA g) {n : Nat} {fam : Nat → zH} (hF : xF σ n fam) {w h v : Int32} (h0 : dSet n w h v = none → K (-2) σ) (hd : dSet n w h v = some (0, 0) → K (σ 3 7) (zsI σ 3 7 v))
    (h1 : ∀ i, dSet n w h v = some (1, i) → K (σ (43 + i) 2) (zsI σ (43 + i) 2 v)) (h2 : ∀ i, dSet n w h v = some (2, i) → K (σ (43 + i) 3) (zsI σ (43 + i) 3 v)) : zCI mX7_set (d + 1) [.ref 0, .int w, .int h, .int v] g σ K := by
  have n6 := hF.1
  have e0 : (0 : Int32).toInt = 0 := rfl
  have e1 : (1 : Int32).toInt = 1 := rfl
  have e2 : (2 : Int32).toInt = 2 := rfl
  have e10 : (10 : Int32).toInt = 10 := rfl
  have e99 : (99 : Int32).toInt = 99 := rfl
  have eM : (1073741823 : Int32).toInt = 1073741823 := rfl
  unfold dSet at h0 hd h1 h2
  refine s_X7_set hg (t_eq (fun z => s_X7_setDay hg ?_) (fun z => ?_))
  · rw [if_pos z] at h0 hd
    refine t_lt (fun q => h0 (if_neg (by omega))) (fun q => t_le (fun q2 => hd (if_pos (by omega))) (fun q2 => h0 (if_neg (by omega))))
  · rw [if_neg z] at h0
    have h1 : ∀ i, (match hA n h with | none => none | some i => if w = 1 then (if 0 ≤ v.toInt ∧ v.toInt ≤ 9 then some (1, i) else none) else if w = 2 then (if 0 ≤ v.toInt ∧ v.toInt ≤ 1073741823 then some (2, i) else none) else none) = some (1, i) → K (σ (43 + i) 2) (zsI σ (43 + i) 2 v) := fun i hi => h1 i (by rw [if_neg z]; exact hi)
    have h2 : ∀ i, (match hA n h with | none => none | some i => if w = 1 then (if 0 ≤ v.toInt ∧ v.toInt ≤ 9 then some (1, i) else none) else if w = 2 then (if 0 ≤ v.toInt ∧ v.toInt ≤ 1073741823 then some (2, i) else none) else none) = some (2, i) → K (σ (43 + i) 3) (zsI σ (43 + i) 3 v) := fun i hi => h2 i (by rw [if_neg z]; exact hi)
    refine cx_heirAt hg hF (fun q => h0 (by rw [q])) (fun i q hi hh => ⟨(gr_family_n hg i (by omega)).2, ?_⟩)
    rw [q] at h0
    have h1 := h1 i
    have h2 := h2 i
    rw [q] at h1 h2
    have h0 : (if w = 1 then (if 0 ≤ v.toInt ∧ v.toInt ≤ 9 then some (1, i) else none) else if w = 2 then (if 0 ≤ v.toInt ∧ v.toInt ≤ 1073741823 then some (2, i) else none) else none) = none → K (-2) σ := h0
    have h1 : (if w = 1 then (if 0 ≤ v.toInt ∧ v.toInt ≤ 9 then some (1, i) else none) else if w = 2 then (if 0 ≤ v.toInt ∧ v.toInt ≤ 1073741823 then some (2, i) else none) else none) = some (1, i) → K (σ (43 + i) 2) (zsI σ (43 + i) 2 v) := h1
    have h2 : (if w = 1 then (if 0 ≤ v.toInt ∧ v.toInt ≤ 9 then some (1, i) else none) else if w = 2 then (if 0 ≤ v.toInt ∧ v.toInt ≤ 1073741823 then some (2, i) else none) else none) = some (2, i) → K (σ (43 + i) 3) (zsI σ (43 + i) 3 v) := h2
    have bad : ¬ w = 1 → ¬ w = 2 → K (-2) σ := fun c1 c2 => h0 (by rw [if_neg c1, if_neg c2])
    refine t_lt (fun k => bad (fun u => by rw [u] at k; omega) (fun u => by rw [u] at k; omega)) (fun k => t_le (fun k2 => t_eq (fun c => s_X7_setMore hg (gr_family_n hg i (by omega)).2 ?_) (fun c => s_X7_setOwn hg (gr_family_n hg i (by omega)).2 ?_)) (fun k2 => bad (fun u => by rw [u] at k2; omega) (fun u => by rw [u] at k2; omega)))
    · rw [if_pos c] at h0 h1
      exact t_lt (fun q => h0 (if_neg (by omega))) (fun q => t_lt (fun q2 => h1 (if_pos (by omega))) (fun q2 => h0 (if_neg (by omega))))
    · have c2 : w = 2 := by
        apply Int32.toInt_inj.mp
        have : w.toInt ≠ 1 := fun u => c (Int32.toInt_inj.mp (u.trans e1.symm))
        omega
      rw [if_neg c, if_pos c2] at h0 h2
      exact t_lt (fun q => h0 (if_neg (by omega))) (fun q => t_le (fun q2 => h2 (if_pos (by omega))) (fun q2 => h0 (if_neg (by omega))))
theorem cm_set {K : Int32 → zI → Prop} (hg : zGA g) {n : Nat} {fam : Nat → zH} (hF : mF σ n fam) {w h v : Int32} (h0 : dSet n w h v = none → K (-2) σ) (hd : dSet n w h v = some (0, 0) → K (σ 57 0) (zsI σ 57 0 v))
    (h1 : ∀ i, dSet n w h v = some (1, i) → K (σ 59 i) (zsI σ 59 i v)) (h2 : ∀ i, dSet n w h v = some (2, i) → K (σ 60 i) (zsI σ 60 i v)) : zCI mX8_set (d + 3) [.ref 57, .int w, .int h, .int v] g σ K := by
  have n6 := hF.1
  have e0 : (0 : Int32).toInt = 0 := rfl
  have e1 : (1 : Int32).toInt = 1 := rfl
  have e2 : (2 : Int32).toInt = 2 := rfl
  have e9 : (9 : Int32).toInt = 9 := rfl
  have e99 : (99 : Int32).toInt = 99 := rfl
  have eM : (1073741823 : Int32).toInt = 1073741823 := rfl
  unfold dSet at h0 hd h1 h2
  have t01 : ¬ (1 : Int32) = 0 := by decide
  have t02 : ¬ (2 : Int32) = 0 := by decide
  have t12 : ¬ (2 : Int32) = 1 := by decide
  refine s_X8_set hg (cm_within hg (fun q => z0 ?_) (fun q q2 => z1 (t_le (fun k => ?_) (fun k => ?_))))
  · have c0 : ¬ w = 0 := fun u => by rw [u] at q; omega
    have c1 : ¬ w = 1 := fun u => by rw [u] at q; omega
    have c2 : ¬ w = 2 := fun u => by rw [u] at q; omega
    refine h0 ?_
    rw [if_neg c0]
    cases hA n h with
    | none => rfl
    | some i => show (if w = 1 then _ else if w = 2 then _ else _) = _
                rw [if_neg c1, if_neg c2]
  · have z : w = 0 := Int32.toInt_inj.mp (by omega)
    subst z
    rw [if_pos rfl] at h0 hd
    refine s_X8_set_21 hg (s_X8_may hg ?_)
    rw [if_pos rfl]
    refine cm_within hg (fun q => ⟨Or.inl rfl, z0 (h0 (if_neg (by omega)))⟩) (fun q q2 => ⟨Or.inr rfl, z1 (s_X8_get hg ?_)⟩)
    rw [if_pos rfl, if_pos rfl]
    exact hd (if_pos (by omega))
  · have z : ¬ w = 0 := fun u => by rw [u] at k; omega
    refine cm_isHeir (d := d + 1) hg hF (fun q => z0 (h0 ?_)) (fun i q hi hh => z1 ?_)
    · rw [if_neg z, q]
    · subst hh
      rw [if_neg z, q] at h0
      have h1 := h1 i
      have h2 := h2 i
      rw [if_neg z, q] at h1 h2
      have h0 : (if w = 1 then (if 0 ≤ v.toInt ∧ v.toInt ≤ 9 then some (1, i) else none) else if w = 2 then (if 0 ≤ v.toInt ∧ v.toInt ≤ 1073741823 then some (2, i) else none) else none) = none → K (-2) σ := h0
      have h1 : (if w = 1 then (if 0 ≤ v.toInt ∧ v.toInt ≤ 9 then some (1, i) else none) else if w = 2 then (if 0 ≤ v.toInt ∧ v.toInt ≤ 1073741823 then some (2, i) else none) else none) = some (1, i) → K (σ 59 i) (zsI σ 59 i v) := h1
      have h2 : (if w = 1 then (if 0 ≤ v.toInt ∧ v.toInt ≤ 9 then some (1, i) else none) else if w = 2 then (if 0 ≤ v.toInt ∧ v.toInt ≤ 1073741823 then some (2, i) else none) else none) = some (2, i) → K (σ 60 i) (zsI σ 60 i v) := h2
      refine s_X8_set_21 hg (s_X8_may hg ?_)
      rw [if_neg z]
      by_cases c : w = 1
      · subst c
        rw [if_pos rfl] at h0 h1
        rw [if_pos rfl]
        refine cm_within hg (fun q => ⟨Or.inl rfl, z0 (h0 (if_neg (by omega)))⟩) (fun q q2 => ⟨Or.inr rfl, z1 (s_X8_get hg ?_)⟩)
        rw [if_neg t01, if_pos rfl, if_neg t01, if_pos rfl, c_nI (by omega)]
        exact ⟨v_in (by omega) (by omega), v_in (by omega) (by omega), h1 (if_pos (by omega))⟩
      · have c2 : w = 2 := by
          apply Int32.toInt_inj.mp
          have : w.toInt ≠ 1 := fun u => c (Int32.toInt_inj.mp (u.trans e1.symm))
          have : w.toInt ≠ 0 := fun u => z (Int32.toInt_inj.mp (u.trans e0.symm))
          omega
        subst c2
        rw [if_neg c, if_pos rfl] at h0 h2
        rw [if_neg c]
        refine cm_within hg (fun q => ⟨Or.inl rfl, z0 (h0 (if_neg (by omega)))⟩) (fun q q2 => ⟨Or.inr rfl, z1 (s_X8_get hg ?_)⟩)
        rw [if_neg t02, if_neg t12, if_pos rfl, if_neg t02, if_neg t12, c_nI (by omega)]
        exact ⟨v_in (by omega) (by omega), v_in (by omega) (by omega), h2 (if_pos (by omega))⟩
theorem cx_force {K : Int32 → zI → Prop} (hg : zGA g) {T : Nat} (hT : T ≤ 6) (h5 : σ 3 5 = nI T) {v : Int32} (h0 : ¬ (0 ≤ v.toInt ∧ v.toInt < (T : Int)) → K (-2) σ) (h1 : 0 ≤ v.toInt ∧ v.toInt < (T : Int) → K (σ 3 6) (zsI σ 3 6 v)) : zCI mX7_force d [.ref 0, .int v] g σ K := by
  have e0 : (0 : Int32).toInt = 0 := rfl
  have eT : (nI T).toInt = (T : Int) := nI_toInt' (by omega)
  refine s_X7_force hg (t_lt (fun q => h0 (by omega)) (fun q => ?_))
  rw [h5]
  exact t_lt (fun q2 => h1 (by omega)) (fun q2 => h0 (by omega))
theorem cm_force {K : Int32 → zI → Prop} (hg : zGA g) {T : Nat} (hT : T ≤ 6) (h5 : σ 57 8 = nI T) {v : Int32} (h0 : ¬ (0 ≤ v.toInt ∧ v.toInt < (T : Int)) → K (-2) σ) (h1 : 0 ≤ v.toInt ∧ v.toInt < (T : Int) → K (σ 57 5) (zsI σ 57 5 v)) : zCI mX8_force (d + 1) [.ref 57, .int v] g σ K := by
  have e0 : (0 : Int32).toInt = 0 := rfl
  have en : (nI T - 1).toInt = (T : Int) - 1 := pk_sub_toInt (a := T) (b := 1) (by omega) (by omega)
  refine s_X8_force hg ?_
  rw [h5]
  exact cm_within hg (fun q => z0 (h0 (by rw [en] at q; omega))) (fun q q2 => z1 (h1 (by rw [en] at q2; omega)))
end
