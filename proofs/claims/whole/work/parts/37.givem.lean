/-! give: the reference -/
section
variable {d : Nat} {g : zG} {σ : zI} {K : Int32 → zI → Prop}
theorem cm_give (hg : zGA g) {n : Nat} {fam : Nat → zH} (hF : mF σ n fam) {a b v : Int32} (h0 : dGive fam n a b v = none → K (-2) σ) (hb : dGive fam n a b v = some none → K (-3) σ)
    (h1 : ∀ i j m, dGive fam n a b v = some (some (i, j, m)) → i < n → j < n → i ≠ j → ∀ σ', zfr [60] σ σ' → mF σ' n (givF fam i j m) → K (nI (pcn ((fam i).2.2.2 - 2 ^ m) 30)) σ') : zCI mX8_give (d + 3) [.ref 57, .int a, .int b, .int v] g σ K := by
  have n6 := hF.1
  refine s_X8_give hg (cm_areTwo hg hF (fun q => z0 (h0 (by unfold dGive; rw [q]))) (fun i j q => z1 ?_))
  have ed : dGive fam n a b v = if 1 ≤ v.toInt ∧ v.toInt ≤ 30 then (if (fam i).2.2.2.testBit (v.toInt.toNat - 1) = true ∧ (fam j).2.2.2.testBit (v.toInt.toNat - 1) = false then some (some (i, j, v.toInt.toNat - 1)) else some none) else none := by unfold dGive; rw [q]
  obtain ⟨hi, hj, hij, rfl, rfl⟩ := two_some n6 q
  rw [ed] at h0 hb
  have hx : mHr σ (fam i).1 (fam i).2.1 (fam i).2.2.1 (fam i).2.2.2 := (hF.2.2 i hi).2
  have hy : mHr σ (fam j).1 (fam j).2.1 (fam j).2.2.1 (fam j).2.2.2 := (hF.2.2 j hj).2
  have xi := (hF.2.2 i hi).1
  have yj := (hF.2.2 j hj).1
  rw [xi] at hx
  rw [yj] at hy
  obtain ⟨p1, p2, p3, p4, p5, p6, p7⟩ := hx
  obtain ⟨r1, r2, r3, r4, r5, r6, r7⟩ := hy
  refine cm_isNumber (d := d + 1) hg (fun y => z0 (h0 (if_neg (by have e1 : (1 : Int32).toInt = 1 := rfl
                                                                  omega)))) (fun y y2 => z1 ?_)
  obtain ⟨k, hk, rfl⟩ := zNat (v := v) (n := 30) (by omega) (by omega) (by omega)
  rw [nI_toInt' (by omega)] at y ed h0 hb
  rw [Int.toNat_natCast] at ed h0 hb
  have k1 : 1 ≤ k := by omega
  rw [if_pos (by omega)] at ed h0 hb
  rw [c_nI (n := i) (by omega), c_nI (n := j) (by omega), show nI k - 1 = nI (k - 1) from pk_sub (b := 1) k1, p4]
  refine ⟨v_in (by omega) (by omega), cm_has hg (by omega) (by omega) (fun w => z0 (hb (if_neg (fun u => by rw [u.1] at w; exact absurd w (by decide))))) (fun w => z1 ⟨v_in (by omega) (by omega), ?_⟩)⟩
  rw [r4]
  refine cm_has hg (by omega) (by omega) (fun w2 => z0 ⟨v_in (by omega) (by omega), v_in (by omega) (by omega), v_in (by omega) (by omega), v_in (by omega) (by omega), v_in (by omega) (by omega), ?_⟩) (fun w2 => z1 (hb (if_neg (fun u => by rw [u.2] at w2; exact absurd w2 (by decide)))))
  rw [if_pos ⟨w, w2⟩] at ed
  obtain ⟨c1, c2⟩ := clr w p7 (by omega)
  have hlt : (fam j).2.2.2 + 2 ^ (k - 1) < 1073741824 := by
    rw [← set_add w2]
    exact or_lt30 r7 (Nat.pow_lt_pow_right (by omega) (by omega) : 2 ^ (k - 1) < 2 ^ 30)
  have hlt2 : (fam i).2.2.2 - 2 ^ (k - 1) < 1073741824 := Nat.lt_of_le_of_lt (Nat.sub_le _ _) p7
  rw [p4, sh1 (by omega), pk_sub c2, zsI_no (a := 60) (i := 60) (j := j) (k := i) (Or.inr (fun u => hij u.symm)), r4, nI_add, zsI_no (a := 60) (i := 60) (j := i) (k := j) (Or.inr hij), zsI_at]
  have fr := zfr_put (zfr_put (zfr_rf [60] σ) (by decide) (i := 60) (k := i) (x := nI ((fam i).2.2.2 - 2 ^ (k - 1)))) (by decide) (i := 60) (k := j) (x := nI ((fam j).2.2.2 + 2 ^ (k - 1)))
  refine cm_bitsOf hg hlt2 (h1 i j (k - 1) ed hi hj hij _ fr ⟨n6, ?_, fun u hu => ?_⟩)
  · rw [fr 57 (by decide)]; exact hF.2.1
  · unfold givF
    by_cases z : u = j
    · subst z
      rw [upF_at]
      refine ⟨yj, ?_⟩
      show mHr _ (fam u).1 (fam u).2.1 (fam u).2.2.1 ((fam u).2.2.2 + 2 ^ (k - 1))
      rw [yj]
      exact ⟨r1, by rw [fr 58 (by decide)]; exact r2, by rw [fr 59 (by decide)]; exact r3, zsI_at, r5, r6, hlt⟩
    · rw [upF_no z]
      by_cases z2 : u = i
      · subst z2
        rw [upF_at]
        refine ⟨xi, ?_⟩
        show mHr _ (fam u).1 (fam u).2.1 (fam u).2.2.1 ((fam u).2.2.2 - 2 ^ (k - 1))
        rw [xi]
        exact ⟨p1, by rw [fr 58 (by decide)]; exact p2, by rw [fr 59 (by decide)]; exact p3, by rw [zsI_no (Or.inr z), zsI_at], p5, p6, hlt2⟩
      · rw [upF_no z2]
        obtain ⟨a1, a2⟩ := hF.2.2 u hu
        have a2 : mHr σ (fam u).1 (fam u).2.1 (fam u).2.2.1 (fam u).2.2.2 := a2
        rw [a1] at a2
        obtain ⟨t1, t2, t3, t4, t5⟩ := a2
        refine ⟨a1, ?_⟩
        show mHr _ (fam u).1 (fam u).2.1 (fam u).2.2.1 (fam u).2.2.2
        rw [a1]
        exact ⟨t1, by rw [fr 58 (by decide)]; exact t2, by rw [fr 59 (by decide)]; exact t3, by rw [zsI_no (Or.inr z), zsI_no (Or.inr z2)]; exact t4, t5⟩
end
