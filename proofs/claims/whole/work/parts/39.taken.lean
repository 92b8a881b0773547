/-! taken: both sides -/
section
variable {d : Nat} {g : zG} {σ : zI} {K : Int32 → zI → Prop}
theorem xu_step (hg : zGA g) {t k i : Nat} (hk : k ≤ 5) (ht : t ≤ 5) (hi : i ≤ 5) (h1 : k = t → K 1 σ) (h2 : k ≠ t → zCI mX7_kindAbove d [.int (nI k)] g σ (fun v σ1 => p_X7_isUnder_4 d g K σ1 (nI t) v (nI (i + 1)))) : p_X7_isUnder_4 d g K σ (nI t) (nI k) (nI i) := by
  refine s_X7_isUnder_4 hg ?_
  rw [nI_1 i]
  exact i_le 6 i rfl rfl (by omega) (by omega) (fun q => by omega) (fun _ => i_lt k 0 rfl rfl (by omega) (by omega) (fun q => by omega) (fun _ => i_le 6 k rfl rfl (by omega) (by omega) (fun q => by omega) (fun _ => i_eq k t rfl rfl (by omega) (by omega) h1 h2)))
theorem xu_end (hg : zGA g) {t i : Nat} (hi : i ≤ 5) (h0 : K 0 σ) : p_X7_isUnder_4 d g K σ (nI t) (-1) (nI i) := by
  refine s_X7_isUnder_4 hg ?_
  exact i_le 6 i rfl rfl (by omega) (by omega) (fun q => by omega) (fun _ => by rw [if_pos (show (-1 : Int32) < 0 by decide)]; exact h0)
theorem xu_0 (hg : zGA g) {t i : Nat} (ht : t ≤ 5) (hi : i ≤ 4) (h1 : 0 = t → K 1 σ) (h0 : 0 ≠ t → K 0 σ) : p_X7_isUnder_4 d g K σ (nI t) (nI 0) (nI i) := by
  refine xu_step hg (by omega) ht (by omega) h1 (fun q => s_X7_kindAbove hg ?_)
  rw [if_neg (by decide), if_neg (by decide), if_neg (by decide), if_neg (by decide), if_neg (by decide)]
  exact xu_end hg (by omega) (h0 q)
theorem xu_1 (hg : zGA g) {t k i : Nat} (ht : t ≤ 5) (hk : k = 1 ∨ k = 2 ∨ k = 5) (hi : i ≤ 3) (h1 : (k = t ∨ 0 = t) → K 1 σ) (h0 : k ≠ t → 0 ≠ t → K 0 σ) : p_X7_isUnder_4 d g K σ (nI t) (nI k) (nI i) := by
  refine xu_step hg (by omega) ht (by omega) (fun q => h1 (Or.inl q)) (fun q => s_X7_kindAbove hg ?_)
  have nx : p_X7_isUnder_4 d g K σ (nI t) 0 (nI (i + 1)) := xu_0 hg ht (by omega) (fun u => h1 (Or.inr u)) (fun u => h0 q u)
  rcases hk with rfl | rfl | rfl
  · rw [if_pos (by decide)]; exact nx
  · rw [if_neg (by decide), if_pos (by decide)]; exact nx
  · rw [if_neg (by decide), if_neg (by decide), if_neg (by decide), if_neg (by decide), if_pos (by decide)]; exact nx
theorem cx_isUnder (hg : zGA g) {t k : Nat} (ht : t ≤ 5) (hk : k ≤ 5) (h1 : undr k t = true → K 1 σ) (h0 : undr k t = false → K 0 σ) : zCI mX7_isUnder (d + 1) [.int (nI k), .int (nI t)] g σ K := by
  refine s_X7_isUnder hg ?_
  rcases (show k = 0 ∨ k = 1 ∨ k = 2 ∨ k = 3 ∨ k = 4 ∨ k = 5 by omega) with rfl | rfl | rfl | rfl | rfl | rfl
  · exact xu_0 (i := 0) hg ht (by omega) (fun q => h1 (by simp [undr, over, q])) (fun q => h0 (by simp [undr, over, q]))
  · exact xu_1 (i := 0) hg ht (by omega) (by omega) (fun q => h1 (by simp [undr, over]; omega)) (fun q q2 => h0 (by simp [undr, over, q, q2]))
  · exact xu_1 (i := 0) hg ht (by omega) (by omega) (fun q => h1 (by simp [undr, over]; omega)) (fun q q2 => h0 (by simp [undr, over, q, q2]))
  · refine xu_step (i := 0) hg (by omega) ht (by omega) (fun q => h1 (by simp [undr, over, q])) (fun q => s_X7_kindAbove hg ?_)
    rw [if_neg (by decide), if_neg (by decide), if_pos (by decide)]
    exact xu_1 (k := 1) (i := 1) hg ht (by omega) (by omega) (fun u => h1 (by simp [undr, over]; omega)) (fun u u2 => h0 (by simp [undr, over, q, u, u2]))
  · refine xu_step (i := 0) hg (by omega) ht (by omega) (fun q => h1 (by simp [undr, over, q])) (fun q => s_X7_kindAbove hg ?_)
    rw [if_neg (by decide), if_neg (by decide), if_neg (by decide), if_pos (by decide)]
    exact xu_1 (k := 2) (i := 1) hg ht (by omega) (by omega) (fun u => h1 (by simp [undr, over]; omega)) (fun u u2 => h0 (by simp [undr, over, q, u, u2]))
  · exact xu_1 (i := 0) hg ht (by omega) (by omega) (fun q => h1 (by simp [undr, over]; omega)) (fun q q2 => h0 (by simp [undr, over, q, q2]))
end
