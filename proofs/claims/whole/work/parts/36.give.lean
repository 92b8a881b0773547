/-! give: both sides -/
def dGive (fam : Nat → zH) (n : Nat) (a b v : Int32) : Option (Option (Nat × Nat × Nat)) := match two n a b with
  | none => none
  | some (i, j) => if 1 ≤ v.toInt ∧ v.toInt ≤ 30 then (if (fam i).2.2.2.testBit (v.toInt.toNat - 1) = true ∧ (fam j).2.2.2.testBit (v.toInt.toNat - 1) = false then some (some (i, j, v.toInt.toNat - 1)) else some none) else none
def givF (fam : Nat → zH) (i j m : Nat) : Nat → zH := upF (upF fam i (wOwn (fam i) ((fam i).2.2.2 - 2 ^ m))) j (wOwn (fam j) ((fam j).2.2.2 + 2 ^ m))
section
variable {d : Nat} {g : zG} {σ : zI} {K : Int32 → zI → Prop}
theorem cx_give (hg : zGA g) {n : Nat} {fam : Nat → zH} (hF : xF σ n fam) {a b v : Int32} (h0 : dGive fam n a b v = none → K (-2) σ) (hb : dGive fam n a b v = some none → K (-3) σ)
    (h1 : ∀ i j m, dGive fam n a b v = some (some (i, j, m)) → i < n → j < n → i ≠ j → ∀ σ', zfr [43 + i, 43 + j] σ σ' → xF σ' n (givF fam i j m) → K (nI (pcn ((fam i).2.2.2 - 2 ^ m) 30)) σ') : zCI mX7_give (d + 2) [.ref 0, .int a, .int b, .int v] g σ K := by
  have n6 := hF.1
  refine s_X7_give hg (cx_two hg hF (fun q => h0 (by unfold dGive; rw [q])) (fun i j q => ?_))
  have ed : dGive fam n a b v = if 1 ≤ v.toInt ∧ v.toInt ≤ 30 then (if (fam i).2.2.2.testBit (v.toInt.toNat - 1) = true ∧ (fam j).2.2.2.testBit (v.toInt.toNat - 1) = false then some (some (i, j, v.toInt.toNat - 1)) else some none) else none := by unfold dGive; rw [q]
  obtain ⟨hi, hj, hij, rfl, rfl⟩ := two_some n6 q
  rw [ed] at h0 hb
  obtain ⟨xi, p0, p1, p2, p3, p4, p5, p6, p7⟩ := hF.2.2 i hi
  obtain ⟨yj, r0, r1, r2, r3, r4, r5, r6, r7⟩ := hF.2.2 j hj
  have hFe := hF
  refine cx_isNumber hg (fun y => z0 (h0 (if_neg (by omega)))) (fun y y2 => z1 ?_)
  obtain ⟨k, hk, rfl⟩ := zNat (v := v) (n := 30) (by omega) (by omega) (by omega)
  rw [nI_toInt' (by omega)] at y ed h0 hb
  rw [Int.toNat_natCast] at ed h0 hb
  have k1 : 1 ≤ k := by omega
  rw [if_pos (by omega)] at ed h0 hb
  rw [p3]
  refine cx_has (d := d) hg k1 (by omega) (fun w => z0 (hb (if_neg (fun u => by rw [u.1] at w; exact absurd w (by decide))))) (fun w => z1 ?_)
  rw [r3]
  refine cx_has (d := d) hg k1 (by omega) (fun w2 => z0 (cx_bit hg k1 (by omega) (cx_bit hg k1 (by omega) ?_))) (fun w2 => z1 (hb (if_neg (fun u => by rw [u.2] at w2; exact absurd w2 (by decide)))))
  rw [if_pos ⟨w, w2⟩] at ed
  obtain ⟨c1, c2⟩ := clr w p7 (by omega)
  rw [p3, nI_andnot, c1, zsI_no (a := 43 + j) (i := 43 + i) (by omega), r3, fa_or, set_add w2]
  have hlt : (fam j).2.2.2 + 2 ^ (k - 1) < 1073741824 := by
    rw [← set_add w2]
    exact or_lt30 r7 (Nat.pow_lt_pow_right (by omega) (by omega) : 2 ^ (k - 1) < 2 ^ 30)
  have hlt2 : (fam i).2.2.2 - 2 ^ (k - 1) < 1073741824 := Nat.lt_of_le_of_lt (Nat.sub_le _ _) p7
  rw [zsI_no (a := 43 + i) (i := 43 + j) (by omega), zsI_at]
  refine cx_bitCount hg.L hlt2 (h1 i j (k - 1) ed hi hj hij _ (zfr_put (zfr_put (zfr_rf _ _) (by simp)) (by simp)) ⟨n6, ?_, fun u hu => ?_⟩)
  · rw [zsI_no (by omega), zsI_no (by omega)]; exact hF.2.1
  · unfold givF
    by_cases z : u = j
    · subst z
      rw [upF_at]
      refine ⟨yj, ?_, ?_, ?_, ?_, r4, r5, r6, hlt⟩
      · rw [zsI_no (by omega), zsI_no (by omega)]; exact r0
      · rw [zsI_no (by omega), zsI_no (by omega)]; exact r1
      · rw [zsI_no (by omega), zsI_no (by omega)]; exact r2
      · rw [zsI_at]; rfl
    · rw [upF_no z]
      by_cases z2 : u = i
      · subst z2
        rw [upF_at]
        refine ⟨xi, ?_, ?_, ?_, ?_, p4, p5, p6, hlt2⟩
        · rw [zsI_no (by omega), zsI_no (by omega)]; exact p0
        · rw [zsI_no (by omega), zsI_no (by omega)]; exact p1
        · rw [zsI_no (by omega), zsI_no (by omega)]; exact p2
        · rw [zsI_no (by omega), zsI_at]; rfl
      · rw [upF_no z2]
        obtain ⟨a1, a2⟩ := hF.2.2 u hu
        exact ⟨a1, xHr_fr a2 (zfr_put (zfr_put (zfr_rf [43 + i, 43 + j] σ) (by simp)) (by simp)) (by simp; omega)⟩
end
