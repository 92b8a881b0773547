/-! text(): the class -/
def upPX (P : Nat → Nat → List Nat) (t : Nat) (a b c : List Nat) : Nat → Nat → List Nat := fun u q => if u = t then sel3 a b c q else P u q
section
variable {d : Nat} {g : zG} {σ : zI} {z : Nat} {B : Nat → Nat}
theorem cx_readText {K : Int32 → zI → Prop} (hg : zGL g) {T : Nat} (hT : T < 6) (h5 : σ 3 5 = nI T) (hP : xP σ z B)
    (hs : ∀ a b e, txX B z = Sum.inr (a, b, e) → ∀ σ', zfr [3, 4, 7 + T, 14 + T] σ σ' → (∀ j, j ≠ 5 → σ' 3 j = σ 3 j) → σ' 3 5 = nI (T + 1) → σ' 4 1 = 0 → (∀ q, q < 3 → xR1 σ' T q (sel3 a b e q)) → K (-1) σ')
    (hfl : ∀ p, txX B z = Sum.inl p → p ≤ z → ∀ σ', zfr [4, 7 + T, 14 + T] σ σ' → σ' 4 1 = 0 → K (nI p) σ') : zCI mX2_readText (d + 58) [.ref 3] g σ K := by
  have z160 := hP.1
  refine s_X2_readText hg ?_
  rw [h5, c_nI (by omega), if_neg (nI_pos (by omega))]
  refine i_lt T 6 rfl rfl (by omega) (by omega) (fun _ => ⟨v_in hT (by omega), v_in hT (by omega), ?_⟩) (fun q => by omega)
  refine cx_read (d := d) hg hT hP (fun a b e he σ' hf h41 hq => ?_) (fun p he hp σ' hf h41 => ?_)
  · rw [if_pos rfl]
    have h3 : σ' 3 = σ 3 := hf 3 (by simp; omega)
    rw [h3, h5, nI_1 T]
    refine hs a b e he _ (zfr_put (zfr_up hf (by intro x hx; simp at hx ⊢; omega)) (by simp)) (fun j hj => by rw [zsI_no (Or.inr hj), h3]) zsI_at (by rw [zsI_no (by omega)]; exact h41) (fun q hq3 => ?_)
    obtain ⟨x1, s, x2, x3, x4, x5⟩ := hq q hq3
    exact ⟨x1, s, by rw [zsI_no (Or.inl (by omega))]; exact x2, x3, fun i c hc => by rw [zsI_no (Or.inl (by omega))]; exact x4 i c hc, by rw [zsI_no (Or.inl (by omega))]; exact x5⟩
  · rw [if_neg (fun u => by have := congrArg Int32.toInt u; rw [nI_toInt' (by omega)] at this; have e : (-1 : Int32).toInt = -1 := rfl; omega)]
    exact hfl p he hp σ' hf h41
theorem xTx_more {σ σ1 : zI} {T R dy : Nat} {P : Nat → Nat → List Nat} {a b e : List Nat} (h : xTx σ T R dy P) (hT : T < 6) (hf : zfr [3, 4, 7 + T, 14 + T] σ σ1) (h3 : ∀ j, j ≠ 5 → σ1 3 j = σ 3 j) (h5 : σ1 3 5 = nI (T + 1)) (hq : ∀ q, q < 3 → xR1 σ1 T q (sel3 a b e q)) : xTx σ1 (T + 1) R dy (upPX P T a b e) := by
  obtain ⟨p0, p1, p2, p3, p4, p5, p6⟩ := h
  refine ⟨by omega, by omega, p2, by rw [h3 7 (by omega)]; exact p3, by rw [h3 6 (by omega)]; exact p4, h5, fun t ht q hq3 => ?_⟩
  by_cases c : t = T
  · subst c
    have : upPX P t a b e t q = sel3 a b e q := if_pos rfl
    rw [this]
    exact hq q hq3
  · have : upPX P T a b e t q = P t q := if_neg c
    rw [this]
    obtain ⟨a1, s, a2, a3, a4, a5⟩ := p6 t (by omega) q hq3
    have f1 := hf (14 + t) (by simp; omega)
    have f2 := hf (7 + t) (by simp; omega)
    exact ⟨a1, s, by rw [f1]; exact a2, a3, fun i c hc => by rw [f2]; exact a4 i c hc, by rw [f2]; exact a5⟩
theorem xTx_same {σ σ1 : zI} {T R dy : Nat} {P : Nat → Nat → List Nat} (h : xTx σ T R dy P) (hf : zfr [4, 7 + T, 14 + T] σ σ1) (hT : T < 6) : xTx σ1 T R dy P := by
  obtain ⟨p0, p1, p2, p3, p4, p5, p6⟩ := h
  have h3 : σ1 3 = σ 3 := hf 3 (by simp; omega)
  refine ⟨p0, p1, p2, by rw [h3]; exact p3, by rw [h3]; exact p4, by rw [h3]; exact p5, fun t ht q hq3 => ?_⟩
  obtain ⟨a1, s, a2, a3, a4, a5⟩ := p6 t (by omega) q hq3
  have f1 := hf (14 + t) (by simp; omega)
  have f2 := hf (7 + t) (by simp; omega)
  exact ⟨a1, s, by rw [f1]; exact a2, a3, fun i c hc => by rw [f2]; exact a4 i c hc, by rw [f2]; exact a5⟩
theorem xP_0 {σ1 : zI} {B : Nat → Nat} (h : σ1 4 1 = 0) : xP σ1 0 B := ⟨by omega, h, fun i hi => by omega⟩
theorem cx_text {K : Int32 → zI → Prop} (hg : zGA g) {T R dy : Nat} {P : Nat → Nat → List Nat} (ht : xTx σ T R dy P) (hP : xP σ z B) (h6 : T = 6 → K (-4) σ)
    (hs : ∀ a b e, T < 6 → txX B z = Sum.inr (a, b, e) → ∀ σ', zfr [3, 4, 7 + T, 14 + T] σ σ' → xTx σ' (T + 1) R dy (upPX P T a b e) → xP σ' 0 B → K (nI T) σ')
    (hfl : ∀ p, T < 6 → txX B z = Sum.inl p → p ≤ z → ∀ σ', zfr [3, 4, 7 + T, 14 + T] σ σ' → xTx σ' T R dy P → xP σ' 0 B → K ((-100) - nI p) σ') : zCI mX7_text (d + 59) [.ref 0] g σ K := by
  have z160 := hP.1
  have T6 := ht.1
  have h5 := ht.2.2.2.2.2.1
  refine s_X7_text hg ?_
  rw [h5]
  refine i_lt T 6 rfl rfl (by omega) (by omega) (fun q => ?_) (fun q => h6 (by omega))
  refine cx_readText (d := d) hg.L q h5 hP (fun a b e he σ' hf h3 h5' h41 hq => ?_) (fun p he hp σ' hf h41 => ?_)
  · rw [if_pos rfl, h5', show nI (T + 1) - 1 = nI T from nI_pred T]
    exact hs a b e q he σ' hf (xTx_more ht q hf h3 h5' hq) (xP_0 h41)
  · rw [if_neg (fun u => by have := congrArg Int32.toInt u; rw [nI_toInt' (by omega)] at this; have e : (-1 : Int32).toInt = -1 := rfl; omega)]
    exact hfl p q he hp σ' (zfr_up hf (by intro x hx; simp at hx ⊢; omega)) (xTx_same ht hf q) (xP_0 h41)
end
