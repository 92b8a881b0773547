/-! heir, give: both sides -/
def upF (fam : Nat → zH) (i : Nat) (x : zH) : Nat → zH := fun k => if k = i then x else fam k
theorem upF_at (fam : Nat → zH) (i : Nat) (x : zH) : upF fam i x i = x := if_pos rfl
theorem upF_no {fam : Nat → zH} {i k : Nat} {x : zH} (h : k ≠ i) : upF fam i x k = fam k := if_neg h
section
variable {d : Nat} {g : zG} {σ : zI}
theorem cx_heir {K : Int32 → zI → Prop} (hg : zGA g) {n : Nat} {fam : Nat → zH} (hF : xF σ n fam) {k m : Int32}
    (h0 : ¬ (0 ≤ k.toInt ∧ k.toInt ≤ 5 ∧ 0 ≤ m.toInt ∧ m.toInt ≤ 9) → K (-2) σ) (h6 : (0 ≤ k.toInt ∧ k.toInt ≤ 5 ∧ 0 ≤ m.toInt ∧ m.toInt ≤ 9) → n = 6 → K (-4) σ)
    (h1 : ∀ a b, a ≤ 5 → b ≤ 9 → k = nI a → m = nI b → n < 6 → ∀ σ', zfr [0, 43 + n] σ σ' → xF σ' (n + 1) (upF fam n (n, a, b, 0)) → K (nI n) σ') : zCI mX7_heir d [.ref 0, .int k, .int m] g σ K := by
  have n6 := hF.1
  have e0 : (0 : Int32).toInt = 0 := rfl
  have e6 : (6 : Int32).toInt = 6 := rfl
  have e10 : (10 : Int32).toInt = 10 := rfl
  refine s_X7_heir hg (t_lt (fun q => h0 (by omega)) (fun q => t_le (fun q2 => h0 (by omega)) (fun q2 => t_lt (fun q3 => h0 (by omega)) (fun q3 => t_lt (fun q4 => ?_) (fun q4 => h0 (by omega))))))
  obtain ⟨a, ha, rfl⟩ := zNat (v := k) (n := 5) (by omega) (by omega) (by omega)
  obtain ⟨b, hb, rfl⟩ := zNat (v := m) (n := 9) (by omega) (by omega) (by omega)
  rw [hF.2.1]
  refine i_lt n 6 rfl rfl (by omega) (by omega) (fun c => ⟨v_in (by omega) (by omega), ?_⟩) (fun c => h6 (by omega) (by omega))
  rw [c_nI (by omega)]
  have i0 : 0 ∈ [0, 43 + n] := by simp
  have i1 : 43 + n ∈ [0, 43 + n] := by simp
  have fr := zfr_put (zfr_put (zfr_put (zfr_put (zfr_put (zfr_rf [0, 43 + n] σ) i1 (k := 0) (x := nI n)) i1 (k := 1) (x := nI a)) i1 (k := 2) (x := nI b)) i1 (k := 3) (x := 0)) i0 (k := 8) (x := nI n + 1)
  have e08 : zsI (zsI (zsI (zsI σ (43 + n) 0 (nI n)) (43 + n) 1 (nI a)) (43 + n) 2 (nI b)) (43 + n) 3 0 0 8 = nI n := by
    rw [zsI_no (by omega), zsI_no (by omega), zsI_no (by omega), zsI_no (by omega)]; exact hF.2.1
  rw [e08]
  have eN : zsI (zsI (zsI (zsI (zsI σ (43 + n) 0 (nI n)) (43 + n) 1 (nI a)) (43 + n) 2 (nI b)) (43 + n) 3 0) 0 8 (nI n + 1) (43 + n) 0 = nI n := by
    rw [zsI_no (by omega), zsI_no (by omega), zsI_no (by omega), zsI_no (by omega), zsI_at]
  rw [eN]
  refine h1 a b ha hb rfl rfl c _ fr ⟨by omega, ?_, fun i hi => ?_⟩
  · rw [zsI_at, nI_1]
  · by_cases z : i = n
    · subst z
      rw [upF_at]
      refine ⟨rfl, eN, ?_, ?_, ?_, by show i < 6; omega, ha, hb, by show 0 < 1073741824; omega⟩
      · rw [zsI_no (by omega), zsI_no (by omega), zsI_no (by omega), zsI_at]
      · rw [zsI_no (by omega), zsI_no (by omega), zsI_at]
      · rw [zsI_no (by omega), zsI_at]; rfl
    · rw [upF_no z]
      exact ⟨(hF.2.2 i (by omega)).1, xHr_fr (hF.2.2 i (by omega)).2 fr (by simp; omega)⟩
theorem cm_heir {K : Int32 → zI → Prop} (hg : zGA g) {n : Nat} {fam : Nat → zH} (hF : mF σ n fam) {k m : Int32}
    (h0 : ¬ (0 ≤ k.toInt ∧ k.toInt ≤ 5 ∧ 0 ≤ m.toInt ∧ m.toInt ≤ 9) → K (-2) σ) (h6 : (0 ≤ k.toInt ∧ k.toInt ≤ 5 ∧ 0 ≤ m.toInt ∧ m.toInt ≤ 9) → n = 6 → K (-4) σ)
    (h1 : ∀ a b, a ≤ 5 → b ≤ 9 → k = nI a → m = nI b → n < 6 → ∀ σ', zfr [57, 58, 59, 60] σ σ' → (∀ j, j ≠ 1 → σ' 57 j = σ 57 j) → mF σ' (n + 1) (upF fam n (n, a, b, 0)) → K (nI n) σ') : zCI mX8_heir (d + 1) [.ref 57, .int k, .int m] g σ K := by
  have n6 := hF.1
  have e0 : (0 : Int32).toInt = 0 := rfl
  have e5 : (5 : Int32).toInt = 5 := rfl
  have e9 : (9 : Int32).toInt = 9 := rfl
  refine s_X8_heir hg (cm_within hg (fun q => z0 (h0 (by omega))) (fun q q2 => z1 (cm_within hg (fun q3 => z0 (h0 (by omega))) (fun q3 q4 => z1 ?_))))
  obtain ⟨a, ha, rfl⟩ := zNat (v := k) (n := 5) (by omega) (by omega) (by omega)
  obtain ⟨b, hb, rfl⟩ := zNat (v := m) (n := 9) (by omega) (by omega) (by omega)
  rw [hF.2.1]
  refine i_eq n 6 rfl rfl (by omega) (by omega) (fun c => h6 (by omega) c) (fun c => ⟨v_in (by omega) (by omega), v_in (by omega) (by omega), v_in (by omega) (by omega), ?_⟩)
  rw [c_nI (by omega)]
  have fr := zfr_put (zfr_put (zfr_put (zfr_put (zfr_rf [57, 58, 59, 60] σ) (by decide) (i := 58) (k := n) (x := nI a)) (by decide) (i := 59) (k := n) (x := nI b)) (by decide) (i := 60) (k := n) (x := 0)) (by decide) (i := 57) (k := 1) (x := nI n + 1)
  refine h1 a b ha hb rfl rfl (by omega) _ fr (fun j hj => ?_) ⟨by omega, ?_, fun i hi => ?_⟩
  · rw [zsI_no (Or.inr hj), zsI_no (Or.inl (by decide)), zsI_no (Or.inl (by decide)), zsI_no (Or.inl (by decide))]
  · rw [zsI_at, nI_1]
  · by_cases z : i = n
    · subst z
      rw [upF_at]
      refine ⟨rfl, by show i < 6; omega, ?_, ?_, ?_, ha, hb, by show 0 < 1073741824; omega⟩
      · show zsI (zsI (zsI (zsI σ 58 i (nI a)) 59 i (nI b)) 60 i 0) 57 1 (nI i + 1) 58 i = nI a
        rw [zsI_no (by omega), zsI_no (by omega), zsI_no (by omega), zsI_at]
      · show zsI (zsI (zsI (zsI σ 58 i (nI a)) 59 i (nI b)) 60 i 0) 57 1 (nI i + 1) 59 i = nI b
        rw [zsI_no (by omega), zsI_no (by omega), zsI_at]
      · show zsI (zsI (zsI (zsI σ 58 i (nI a)) 59 i (nI b)) 60 i 0) 57 1 (nI i + 1) 60 i = 0
        rw [zsI_no (by omega), zsI_at]
    · rw [upF_no z]
      obtain ⟨x1, x2⟩ := hF.2.2 i (by omega)
      have x2 : mHr σ (fam i).1 (fam i).2.1 (fam i).2.2.1 (fam i).2.2.2 := x2
      rw [x1] at x2
      obtain ⟨p1, p2, p3, p4, p5⟩ := x2
      refine ⟨x1, ?_⟩
      show mHr _ (fam i).1 (fam i).2.1 (fam i).2.2.1 (fam i).2.2.2
      rw [x1]
      refine ⟨p1, ?_, ?_, ?_, p5⟩
      · rw [zsI_no (by omega), zsI_no (by omega), zsI_no (by omega), zsI_no (by omega)]; exact p2
      · rw [zsI_no (by omega), zsI_no (by omega), zsI_no (by omega), zsI_no (by omega)]; exact p3
      · rw [zsI_no (by omega), zsI_no (by omega), zsI_no (by omega), zsI_no (by omega)]; exact p4
def aGive (fam : Nat → zH) (n : Nat) (a b v : Int32) : Option (Int32 ⊕ (Nat × Nat × Nat)) := match two n a b with
  | none => none
  | some (i, j) => if 1 ≤ v.toInt ∧ v.toInt ≤ 30 then (if (fam i).2.2.2.testBit (v.toInt.toNat - 1) = true ∧ (fam j).2.2.2.testBit (v.toInt.toNat - 1) = false then some (Sum.inr (i, j, v.toInt.toNat - 1)) else some (Sum.inl (-3))) else none
end
