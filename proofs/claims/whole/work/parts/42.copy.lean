/-! copy: both sides -/
def cpyS (S : Nat → zS) (a i b j n : Nat) : Nat → zS := upS S b ((S b).1, (S b).2.1, va_cpy (S a).2.2 (S b).2.2 i j n)
def dCpy (S : Nat → zS) (s i o j n : Int32) : Int32 ⊕ (Nat × Nat × Nat × Nat × Nat) := match hA 4 s, hA 4 o with
  | some a, some b => if (S a).1 = -1 ∨ (S b).1 = -1 then Sum.inl (-11) else if (S a).1 = (S b).1 then (if 0 ≤ i.toInt ∧ 0 ≤ j.toInt ∧ 0 ≤ n.toInt ∧ i.toInt + n.toInt ≤ (S a).2.1 ∧ j.toInt + n.toInt ≤ (S b).2.1 then Sum.inr (a, i.toInt.toNat, b, j.toInt.toNat, n.toInt.toNat) else Sum.inl (-12)) else Sum.inl (-13)
  | _, _ => Sum.inl (-2)
theorem dCpy_eq {S : Nat → zS} {s i o j n : Int32} {a b : Nat} (h1 : hA 4 s = some a) (h2 : hA 4 o = some b) : dCpy S s i o j n = if (S a).1 = -1 ∨ (S b).1 = -1 then Sum.inl (-11) else if (S a).1 = (S b).1 then (if 0 ≤ i.toInt ∧ 0 ≤ j.toInt ∧ 0 ≤ n.toInt ∧ i.toInt + n.toInt ≤ (S a).2.1 ∧ j.toInt + n.toInt ≤ (S b).2.1 then Sum.inr (a, i.toInt.toNat, b, j.toInt.toNat, n.toInt.toNat) else Sum.inl (-12)) else Sum.inl (-13) := by
  unfold dCpy
  rw [h1, h2]
theorem dCpy_no1 {S : Nat → zS} {s i o j n : Int32} (h1 : hA 4 s = none) : dCpy S s i o j n = Sum.inl (-2) := by
  unfold dCpy
  rw [h1]
theorem dCpy_no2 {S : Nat → zS} {s i o j n : Int32} (h2 : hA 4 o = none) : dCpy S s i o j n = Sum.inl (-2) := by
  unfold dCpy
  rw [h2]
  cases hA 4 s <;> rfl
section
variable {d : Nat} {g : zG} {σ : zI} {K : Int32 → zI → Prop}
theorem xSS_cpy {S : Nat → zS} (hS : xSS σ S) {a i b j n : Nat} (ha : a < 4) (hb : b < 4) (hi : i + n ≤ 40) : xSS (zsC σ (49 + 2 * a + 1) (49 + 2 * b + 1) i j n) (cpyS S a i b j n) := by
  intro c hc
  obtain ⟨p0, p1, p2, p3⟩ := hS c hc
  have no : ∀ x, x ≠ 49 + 2 * b + 1 → zsC σ (49 + 2 * a + 1) (49 + 2 * b + 1) i j n x = σ x := fun x hx => if_neg hx
  have ye : zsC σ (49 + 2 * a + 1) (49 + 2 * b + 1) i j n (49 + 2 * b + 1) = va_cpy (σ (49 + 2 * a + 1)) (σ (49 + 2 * b + 1)) i j n := if_pos rfl
  unfold cpyS
  by_cases e : c = b
  · subst e
    rw [upS_at]
    refine ⟨p0, ?_, ?_, fun u hu => ?_⟩
    · rw [no _ (by omega)]; exact p1
    · rw [no _ (by omega)]; exact p2
    · show zsC σ (49 + 2 * a + 1) (49 + 2 * c + 1) i j n (49 + 2 * c + 1) u = va_cpy (S a).2.2 (S c).2.2 i j n u
      rw [ye]
      by_cases z : j ≤ u ∧ u < j + n
      · rw [pk_cpy_in z.1 z.2, pk_cpy_in z.1 z.2]
        exact (hS a ha).2.2.2 _ (by omega)
      · rw [pk_cpy_out (by omega), pk_cpy_out (by omega)]
        exact p3 u hu
  · rw [upS_no e]
    exact ⟨p0, by rw [no _ (by omega)]; exact p1, by rw [no _ (by omega)]; exact p2, fun u hu => by rw [no _ (by omega)]; exact p3 u hu⟩
theorem mSS_cpy {σ1 : zI} {S : Nat → zS} (hS : mSS σ S) {a i b j n : Nat} (ha : a < 4) (hb : b < 4) (hi : i + n ≤ 40) (hj : j + n ≤ 40) (hf : zfr [77] σ σ1) (h1 : ∀ u, u < n → σ1 77 (40 * b + j + u) = σ 77 (40 * a + i + u)) (h2 : ∀ x, (x < 40 * b + j ∨ 40 * b + j + n ≤ x) → σ1 77 x = σ 77 x) : mSS σ1 (cpyS S a i b j n) := by
  intro c hc
  obtain ⟨p0, p1, p2, p3⟩ := hS c hc
  unfold cpyS
  by_cases e : c = b
  · subst e
    rw [upS_at]
    refine ⟨p0, ?_, ?_, fun u hu => ?_⟩
    · rw [hf 75 (by decide)]; exact p1
    · rw [hf 76 (by decide)]; exact p2
    · show σ1 77 (40 * c + u) = va_cpy (S a).2.2 (S c).2.2 i j n u
      by_cases z : j ≤ u ∧ u < j + n
      · rw [pk_cpy_in z.1 z.2, ← (hS a ha).2.2.2 _ (show i + (u - j) < 40 by omega)]
        have := h1 (u - j) (by omega)
        rw [show 40 * c + j + (u - j) = 40 * c + u by omega] at this
        rw [this, show 40 * a + (i + (u - j)) = 40 * a + i + (u - j) by omega]
      · rw [pk_cpy_out (by omega), h2 _ (by omega)]
        exact p3 u hu
  · rw [upS_no e]
    exact ⟨p0, by rw [hf 75 (by decide)]; exact p1, by rw [hf 76 (by decide)]; exact p2, fun u hu => by rw [h2 _ (by omega)]; exact p3 u hu⟩
theorem cx_holdsRun (hg : zGA g) {a sz : Nat} (ha : a < 4) (hz : sz ≤ 40) (h1 : σ (49 + 2 * a) 1 = nI sz) {v n : Int32} (h0 : ¬ (0 ≤ v.toInt ∧ 0 ≤ n.toInt ∧ v.toInt + n.toInt ≤ sz) → K 0 σ) (hk : (0 ≤ v.toInt ∧ 0 ≤ n.toInt ∧ v.toInt + n.toInt ≤ sz) → K 1 σ) : zCI mX5_holdsRun d [.ref (49 + 2 * a), .int v, .int n] g σ K := by
  have e0 : (0 : Int32).toInt = 0 := rfl
  have es : (nI sz).toInt = (sz : Int) := nI_toInt' (by omega)
  refine s_X5_holdsRun hg (gr_sheets_n hg a ha).2 (t_lt (fun q => h0 (by omega)) (fun q => t_lt (fun q2 => h0 (by omega)) (fun q2 => ?_)))
  rw [h1]
  refine t_lt (fun q3 => h0 (by omega)) (fun q3 => ?_)
  obtain ⟨m, hm, rfl⟩ := zNat (v := n) (n := sz) (by omega) (by omega) (by omega)
  rw [nI_toInt' (by omega)] at h0 hk q3
  have em : (nI sz - nI m).toInt = (sz : Int) - m := pk_sub_toInt (by omega) (by omega)
  refine t_lt (fun q4 => h0 (by omega)) (fun q4 => hk (by omega))
theorem cx_copy (hg : zGA g) {S : Nat → zS} (hS : xSS σ S) {s i o j n : Int32} (h0 : ∀ r, dCpy S s i o j n = Sum.inl r → K r σ)
    (h1 : ∀ a i' b j' n', dCpy S s i o j n = Sum.inr (a, i', b, j', n') → a < 4 → b < 4 → n = nI n' → ∀ σ', zfr [49 + 2 * b + 1] σ σ' → xSS σ' (cpyS S a i' b j' n') → K (nI n') σ') : zCI mX7_copy (d + 1) [.ref 0, .int s, .int i, .int o, .int j, .int n] g σ K := by
  have e0 : (0 : Int32).toInt = 0 := rfl
  refine s_X7_copy hg (cx_sheetAt hg (fun q => ?_) (fun a q ha hs => ⟨(gr_sheets_n hg a ha).2, ?_⟩))
  · exact cx_sheetAt hg (fun q2 => h0 _ (dCpy_no1 q)) (fun b q2 hb ho => ⟨(gr_sheets_n hg b hb).2, h0 _ (dCpy_no1 q)⟩)
  · refine cx_sheetAt hg (fun q2 => h0 _ (dCpy_no2 q2)) (fun b q2 hb ho => ⟨(gr_sheets_n hg b hb).2, ?_⟩)
    have ed := dCpy_eq (S := S) (i := i) (j := j) (n := n) q q2
    obtain ⟨p0, p1, p2, p3⟩ := hS a ha
    obtain ⟨r0, r1, r2, r3⟩ := hS b hb
    rw [p1, r1]
    refine t_eq (fun z => h0 _ (by rw [ed, if_pos (Or.inl z)])) (fun z => t_eq (fun y => h0 _ (by rw [ed, if_pos (Or.inr y)])) (fun y => ?_))
    rw [if_neg (fun u => u.elim z y)] at ed
    refine t_eq (fun w => ?_) (fun w => h0 _ (by rw [ed, if_neg w]))
    rw [if_pos w] at ed
    refine cx_holdsRun hg ha p0 p2 (fun u => z0 (h0 _ (by rw [ed, if_neg (by omega)]))) (fun u => z1 (cx_holdsRun hg hb r0 r2 (fun u2 => z0 (h0 _ (by rw [ed, if_neg (by omega)]))) (fun u2 => z1 ?_)))
    rw [if_pos (by omega)] at ed
    obtain ⟨i', hi, rfl⟩ := zNat (v := i) (n := 40) (by omega) (by omega) (by omega)
    obtain ⟨j', hj, rfl⟩ := zNat (v := j) (n := 40) (by omega) (by omega) (by omega)
    obtain ⟨n', hn, rfl⟩ := zNat (v := n) (n := 40) (by omega) (by omega) (by omega)
    rw [nI_toInt' (n := i') (by omega), nI_toInt' (n := j') (by omega), nI_toInt' (n := n') (by omega), Int.toNat_natCast, Int.toNat_natCast, Int.toNat_natCast] at ed
    rw [nI_toInt' (n := i') (by omega), nI_toInt' (n := n') (by omega)] at u
    rw [nI_toInt' (n := j') (by omega), nI_toInt' (n := n') (by omega)] at u2
    have np : ∀ m : Nat, m < 2147483648 → ¬ nI m < 0 := fun m hm => nI_pos (by omega)
    refine ⟨np _ (by omega), np _ (by omega), np _ (by omega), ?_, ?_, ?_⟩
    · rw [c_nI (n := i') (by omega), c_nI (n := n') (by omega)]; omega
    · rw [c_nI (n := j') (by omega), c_nI (n := n') (by omega)]; omega
    · rw [c_nI (n := i') (by omega), c_nI (n := j') (by omega), c_nI (n := n') (by omega)]
      exact h1 a i' b j' n' ed ha hb rfl _ (fun x hx => if_neg (fun q => hx (by simp [q]))) (xSS_cpy hS ha hb (by omega))
def dn1 : Nat → Int32
  | 0 => -1
  | m + 1 => nI m
theorem dn1_m (m : Nat) : nI m + (-1) = dn1 m := by
  cases m with
  | zero => rfl
  | succ m => exact pk_m1 m
theorem dn1_s (m : Nat) : nI m - 1 = dn1 m := by
  cases m with
  | zero => rfl
  | succ m => exact nI_pred m
theorem cm_copy (hg : zGA g) {S : Nat → zS} (hS : mSS σ S) (hk : sok S) {s i o j n : Int32} (h0 : ∀ r, dCpy S s i o j n = Sum.inl r → K r σ)
    (h1 : ∀ a i' b j' n', dCpy S s i o j n = Sum.inr (a, i', b, j', n') → a < 4 → b < 4 → n = nI n' → ∀ σ', zfr [77] σ σ' → mSS σ' (cpyS S a i' b j' n') → K (nI n') σ') : zCI mX8_copy (d + 2) [.ref 57, .int s, .int i, .int o, .int j, .int n] g σ K := by
  have e0 : (0 : Int32).toInt = 0 := rfl
  have em : (-1 : Int32).toInt = -1 := rfl
  refine s_X8_copy hg (cm_isSheet (d := d) hg (fun q => z0 (h0 _ (dCpy_no1 q))) (fun a q ha hs => z1 (cm_isSheet (d := d) hg (fun q2 => z0 (h0 _ (dCpy_no2 q2))) (fun b q2 hb ho => z1 ?_))))
  have ed := dCpy_eq (S := S) (i := i) (j := j) (n := n) q q2
  subst hs
  subst ho
  obtain ⟨p0, p1, p2, p3⟩ := hS a ha
  obtain ⟨r0, r1, r2, r3⟩ := hS b hb
  rw [c_nI (n := a) (by omega), c_nI (n := b) (by omega), p1, r1, p2, r2]
  have ka := hk a ha
  have kb := hk b hb
  have la : ∀ {x : Int32}, (x = -1 ∨ (0 ≤ x.toInt ∧ x.toInt ≤ 2)) → x.toInt < 0 → x = -1 := fun hx h => by
    rcases hx with u | u
    · exact u
    · omega
  have lb : ∀ {x : Int32}, 0 ≤ x.toInt → ¬ x = -1 := fun h u => by rw [u] at h; omega
  refine ⟨v_in ha (by omega), t_lt (fun z => h0 _ (by rw [ed, if_pos (Or.inl (la ka (by omega)))])) (fun z => ⟨v_in hb (by omega), t_le (fun y => ⟨v_in ha (by omega), v_in hb (by omega), ?_⟩) (fun y => h0 _ (by rw [ed, if_pos (Or.inr (la kb (by omega)))]))⟩)⟩
  rw [if_neg (fun u => u.elim (lb (by omega)) (lb (by omega)))] at ed
  refine t_eq (fun w => ?_) (fun w => h0 _ (by rw [ed, if_neg w]))
  rw [if_pos w] at ed
  have L1 : ∀ (x y : Int32) (m : Nat), m < 2147483648 → ((0 : Int32) < lg_cmp (x.toInt64 + y.toInt64) (nI m).toInt64 ↔ (m : Int) < x.toInt + y.toInt) := fun x y m hm => by
    rw [lg_cmp_gt, Int64.lt_iff_toInt_lt, lg_i2l_add, Int32.toInt_toInt64, nI_toInt' hm]
  have L2 : ∀ (x y : Int32) (m : Nat), m < 2147483648 → (lg_cmp (x.toInt64 + y.toInt64) (nI m).toInt64 ≤ 0 ↔ x.toInt + y.toInt ≤ (m : Int)) := fun x y m hm => by
    rw [lg_cmp_le, Int64.le_iff_toInt_le, lg_i2l_add, Int32.toInt_toInt64, nI_toInt' hm]
  have bad : ¬ (0 ≤ i.toInt ∧ 0 ≤ j.toInt ∧ 0 ≤ n.toInt ∧ i.toInt + n.toInt ≤ (S a).2.1 ∧ j.toInt + n.toInt ≤ (S b).2.1) → K (-12) σ := fun u => h0 _ (by rw [ed, if_neg u])
  refine t_lt (fun u => bad (by omega)) (fun u1 => t_lt (fun u => bad (by omega)) (fun u2 => t_lt (fun u => bad (by omega)) (fun u3 => ⟨v_in ha (by omega), ?_⟩)))
  by_cases c1 : (0 : Int32) < lg_cmp (i.toInt64 + n.toInt64) (nI (S a).2.1).toInt64
  · rw [if_pos c1]
    exact bad (fun u => by have := (L1 i n (S a).2.1 (by omega)).mp c1; omega)
  · rw [if_neg c1]
    have c1 := mt (L1 i n (S a).2.1 (by omega)).mpr c1
    refine ⟨v_in hb (by omega), ?_⟩
    by_cases c2 : lg_cmp (j.toInt64 + n.toInt64) (nI (S b).2.1).toInt64 ≤ 0
    · rw [if_pos c2]
      have c2 := (L2 j n (S b).2.1 (by omega)).mp c2
      rw [if_pos (by omega)] at ed
      obtain ⟨i', hi, rfl⟩ := zNat (v := i) (n := 40) (by omega) (by omega) (by omega)
      obtain ⟨j', hj, rfl⟩ := zNat (v := j) (n := 40) (by omega) (by omega) (by omega)
      obtain ⟨n', hn, rfl⟩ := zNat (v := n) (n := 40) (by omega) (by omega) (by omega)
      rw [nI_toInt' (n := i') (by omega), nI_toInt' (n := j') (by omega), nI_toInt' (n := n') (by omega), Int.toNat_natCast, Int.toNat_natCast, Int.toNat_natCast] at ed
      rw [nI_toInt' (n := i') (by omega), nI_toInt' (n := n') (by omega)] at c1
      rw [nI_toInt' (n := j') (by omega), nI_toInt' (n := n') (by omega)] at c2
      have fin : ∀ σ1, zfr [77] σ σ1 → (∀ u, u < n' → σ1 77 (40 * b + j' + u) = σ 77 (40 * a + i' + u)) → (∀ x, (x < 40 * b + j' ∨ 40 * b + j' + n' ≤ x) → σ1 77 x = σ 77 x) → K (nI n') σ1 := fun σ1 hf f1 f2 => h1 a i' b j' n' ed ha hb rfl σ1 hf (mSS_cpy hS ha hb (by omega) (by omega) hf f1 f2)
      have m40 : ∀ a b c : Nat, (40 : Int32) * nI a + nI b + nI c = nI (40 * a + b + c) := fun a b c => by rw [show (40 : Int32) * nI a = nI (40 * a) from pk_mul 40 a, nI_add, nI_add]
      have up : (a ≠ b ∨ j' ≤ i') → p_X8_copy_171 (d + 1) g K σ (nI a) (nI i') (nI b) (nI j') (nI n') 0 := by
        intro hc
        have key : ∀ (r c : Nat) (σ1 : zI), c + r = n' → zfr [77] σ σ1 → (∀ u, u < c → σ1 77 (40 * b + j' + u) = σ 77 (40 * a + i' + u)) → (∀ x, (x < 40 * b + j' ∨ 40 * b + j' + c ≤ x) → σ1 77 x = σ 77 x) → p_X8_copy_171 (d + 1) g K σ1 (nI a) (nI i') (nI b) (nI j') (nI n') (nI c) := by
          intro r
          induction r with
          | zero =>
            intro c σ1 hr hf f1 f2
            have e : c = n' := by omega
            subst e
            exact s_X8_copy_171 hg (i_le c c rfl rfl (by omega) (by omega) (fun _ => fin σ1 hf f1 f2) (fun q => by omega))
          | succ r ih =>
            intro c σ1 hr hf f1 f2
            refine s_X8_copy_171 hg (i_le n' c rfl rfl (by omega) (by omega) (fun q => by omega) (fun _ => ?_))
            rw [m40, m40, c_nI (n := 40 * a + i' + c) (by omega), c_nI (n := 40 * b + j' + c) (by omega), nI_1 c, f2 (40 * a + i' + c) (by omega)]
            refine ⟨v_in (by omega) (by omega), v_in (by omega) (by omega), ih (c + 1) _ (by omega) (zfr_put hf (by decide)) (fun u hu => ?_) (fun x hx => ?_)⟩
            · by_cases z : u = c
              · subst z; rw [zsI_at]
              · rw [zsI_no (by omega)]; exact f1 u (by omega)
            · rw [zsI_no (by omega)]; exact f2 x (by omega)
        exact key n' 0 σ (by omega) (zfr_rf _ _) (fun u hu => by omega) (fun x _ => rfl)
      have down : a = b → i' < j' → p_X8_copy_125 (d + 1) g K σ (nI a) (nI i') (nI b) (nI j') (nI n') (dn1 n') := by
        intro hab hij
        have key : ∀ (c : Nat) (σ1 : zI), c ≤ n' → zfr [77] σ σ1 → (∀ u, c ≤ u → u < n' → σ1 77 (40 * b + j' + u) = σ 77 (40 * a + i' + u)) → (∀ x, (x < 40 * b + j' + c ∨ 40 * b + j' + n' ≤ x) → σ1 77 x = σ 77 x) → p_X8_copy_125 (d + 1) g K σ1 (nI a) (nI i') (nI b) (nI j') (nI n') (dn1 c) := by
          intro c
          induction c with
          | zero =>
            intro σ1 hr hf f1 f2
            refine s_X8_copy_125 hg ?_
            rw [if_pos (show dn1 0 < 0 by decide)]
            exact fin σ1 hf (fun u hu => f1 u (by omega) hu) (fun x hx => f2 x (by omega))
          | succ c ih =>
            intro σ1 hr hf f1 f2
            refine s_X8_copy_125 hg ?_
            rw [show dn1 (c + 1) = nI c from rfl, if_neg (nI_pos (by omega)), dn1_m, m40, m40, c_nI (n := 40 * a + i' + c) (by omega), c_nI (n := 40 * b + j' + c) (by omega), f2 (40 * a + i' + c) (by omega)]
            refine ⟨v_in (by omega) (by omega), v_in (by omega) (by omega), ih _ (by omega) (zfr_put hf (by decide)) (fun u hu hu2 => ?_) (fun x hx => ?_)⟩
            · by_cases z : u = c
              · subst z; rw [zsI_at]
              · rw [zsI_no (by omega)]; exact f1 u (by omega) hu2
            · rw [zsI_no (by omega)]; exact f2 x (by omega)
        exact key n' σ (by omega) (zfr_rf _ _) (fun u hu hu2 => by omega) (fun x _ => rfl)
      rw [dn1_s]
      refine i_eq a b rfl rfl (by omega) (by omega) (fun c => i_le j' i' rfl rfl (by omega) (by omega) (fun c2 => up (Or.inr c2)) (fun c2 => down c c2)) (fun c => up (Or.inl c))
    · rw [if_neg c2]
      have c2 := mt (L2 j n (S b).2.1 (by omega)).mpr c2
      exact bad (by omega)
end
