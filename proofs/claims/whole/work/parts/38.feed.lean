/-! feed, taken: both sides -/
def xP (σ : zI) (z : Nat) (B : Nat → Nat) : Prop := z ≤ 160 ∧ σ 4 1 = nI z ∧ ∀ i, i < z → σ 5 i = nI (B i) ∧ B i ≤ 255
def mP (σ : zI) (z : Nat) (B : Nat → Nat) : Prop := z ≤ 160 ∧ σ 57 6 = nI z ∧ ∀ i, i < z → σ 61 i = nI (B i) ∧ B i ≤ 255
def upB (B : Nat → Nat) (z v : Nat) : Nat → Nat := fun i => if i = z then v else B i
def over (k : Nat) : Nat := if k = 3 then 1 else if k = 4 then 2 else 0
/-- k is the kind t, or one under it -/
def undr (k t : Nat) : Bool := decide (k = t) || (decide (0 < k) && (decide (over k = t) || (decide (0 < over k) && decide (over (over k) = t))))
def aTak (fam : Nat → zH) (n : Nat) (h k : Int32) : Int32 := if 0 ≤ k.toInt ∧ k.toInt ≤ 5 then (match hA n h with
  | none => -11
  | some i => if undr (fam i).2.1 k.toInt.toNat then nI (fam i).2.2.1 else -13) else -2
section
variable {d : Nat} {g : zG} {σ : zI} {K : Int32 → zI → Prop}
theorem cx_feed (hg : zGA g) {z : Nat} {B : Nat → Nat} (hP : xP σ z B) {v : Int32} (h0 : ¬ (0 ≤ v.toInt ∧ v.toInt ≤ 255) → K (-2) σ) (h6 : (0 ≤ v.toInt ∧ v.toInt ≤ 255) → z = 160 → K (-4) σ)
    (h1 : ∀ b, b ≤ 255 → v = nI b → z < 160 → ∀ σ', zfr [4, 5] σ σ' → (∀ j, j ≠ 1 → σ' 4 j = σ 4 j) → xP σ' (z + 1) (upB B z b) → K (nI (z + 1)) σ') : zCI mX7_feed (d + 1) [.ref 0, .int v] g σ K := by
  obtain ⟨z1', z2, z3⟩ := hP
  have e0 : (0 : Int32).toInt = 0 := rfl
  have e255 : (255 : Int32).toInt = 255 := rfl
  refine s_X7_feed hg (t_lt (fun q => h0 (by omega)) (fun q => t_le (fun q2 => s_X4_put hg.L ?_) (fun q2 => h0 (by omega))))
  obtain ⟨b, hb, rfl⟩ := zNat (v := v) (n := 255) (by omega) (by omega) (by omega)
  rw [z2]
  refine i_lt z 160 rfl rfl (by omega) (by omega) (fun c => ⟨v_in (by omega) (by omega), z1 ?_⟩) (fun c => z0 (h6 (by omega) (by omega)))
  rw [c_nI (by omega), zsI_at, nI_1 z]
  refine h1 b hb rfl c _ (zfr_put (zfr_put (zfr_rf _ _) (by decide)) (by decide)) (fun j hj => ?_) ⟨by omega, zsI_at, fun i hi => ?_⟩
  · rw [zsI_no (Or.inr hj), zsI_no (Or.inl (by decide))]
  · rw [zsI_no (Or.inl (by decide))]
    unfold upB
    by_cases e : i = z
    · subst e; rw [zsI_at, if_pos rfl]; exact ⟨rfl, hb⟩
    · rw [zsI_no (Or.inr e), if_neg e]; exact z3 i (by omega)
theorem cm_feed (hg : zGA g) {z : Nat} {B : Nat → Nat} (hP : mP σ z B) {v : Int32} (h0 : ¬ (0 ≤ v.toInt ∧ v.toInt ≤ 255) → K (-2) σ) (h6 : (0 ≤ v.toInt ∧ v.toInt ≤ 255) → z = 160 → K (-4) σ)
    (h1 : ∀ b, b ≤ 255 → v = nI b → z < 160 → ∀ σ', zfr [57, 61] σ σ' → (∀ j, j ≠ 6 → σ' 57 j = σ 57 j) → mP σ' (z + 1) (upB B z b) → K (nI (z + 1)) σ') : zCI mX8_feed (d + 1) [.ref 57, .int v] g σ K := by
  obtain ⟨z1', z2, z3⟩ := hP
  have e0 : (0 : Int32).toInt = 0 := rfl
  have e255 : (255 : Int32).toInt = 255 := rfl
  refine s_X8_feed hg (cm_within hg (fun q => z0 (h0 (by omega))) (fun q q2 => z1 ?_))
  obtain ⟨b, hb, rfl⟩ := zNat (v := v) (n := 255) (by omega) (by omega) (by omega)
  rw [z2]
  refine i_eq z 160 rfl rfl (by omega) (by omega) (fun c => h6 (by omega) c) (fun c => ⟨v_in (by omega) (by omega), ?_⟩)
  rw [c_nI (by omega), nI_1 z]
  refine h1 b hb rfl (by omega) _ (zfr_put (zfr_put (zfr_rf _ _) (by decide)) (by decide)) (fun j hj => ?_) ⟨by omega, ?_, fun i hi => ?_⟩
  · rw [zsI_no (Or.inl (by decide)), zsI_no (Or.inr hj)]
  · rw [zsI_no (Or.inl (by decide)), zsI_at]
  · unfold upB
    by_cases e : i = z
    · subst e; rw [zsI_at, if_pos rfl]; exact ⟨rfl, hb⟩
    · rw [zsI_no (Or.inr e), if_neg e, zsI_no (Or.inl (by decide))]; exact z3 i (by omega)
end
