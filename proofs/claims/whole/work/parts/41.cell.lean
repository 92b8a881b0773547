/-! cell: both sides -/
abbrev zS := Int32 × Nat × (Nat → Int32)
def xSS (σ : zI) (S : Nat → zS) : Prop := ∀ i, i < 4 → xS σ i (S i).1 (S i).2.1 (S i).2.2
def mSS (σ : zI) (S : Nat → zS) : Prop := ∀ i, i < 4 → mS σ i (S i).1 (S i).2.1 (S i).2.2
def sok (S : Nat → zS) : Prop := ∀ i, i < 4 → (S i).1 = -1 ∨ (0 ≤ (S i).1.toInt ∧ (S i).1.toInt ≤ 2)
def vC (so v : Int32) : Int32 := if so = 0 then v.toInt8.toInt32 else if so = 1 then v.toInt16.toInt32 else v
def upS (S : Nat → zS) (i : Nat) (s : zS) : Nat → zS := fun k => if k = i then s else S k
theorem upS_at (S : Nat → zS) (i : Nat) (s : zS) : upS S i s i = s := if_pos rfl
theorem upS_no {S : Nat → zS} {i k : Nat} {s : zS} (h : k ≠ i) : upS S i s k = S k := if_neg h
def celS (S : Nat → zS) (a k : Nat) (v : Int32) : Nat → zS := upS S a ((S a).1, (S a).2.1, upd (S a).2.2 k v)
def dCel (S : Nat → zS) (s i : Int32) : Int32 ⊕ (Nat × Nat) := match hA 4 s with
  | none => Sum.inl (-2)
  | some a => if (S a).1 = -1 then Sum.inl (-11) else match hA (S a).2.1 i with
    | none => Sum.inl (-12)
    | some k => Sum.inr (a, k)
theorem hA_sm {n i : Nat} {v : Int32} (hn : n < 2147483648) (h : hA n v = some i) : i < n ∧ v = nI i := by
  unfold hA at h
  split at h
  · next q =>
    have e : v.toInt.toNat = i := by simpa using h
    refine ⟨by omega, ?_⟩
    apply Int32.toInt_inj.mp
    rw [nI_toInt' (by omega)]
    omega
  · simp at h
theorem xSS_fr {σ σ1 : zI} {S : Nat → zS} {l : List Nat} (h : xSS σ S) (hf : zfr l σ σ1) (hl : ∀ a, a ∈ l → a < 49 ∨ 57 ≤ a) : xSS σ1 S := by
  intro i hi
  obtain ⟨p0, p1, p2, p3⟩ := h i hi
  have n1 : 49 + 2 * i ∉ l := fun q => by have := hl _ q; omega
  have n2 : 49 + 2 * i + 1 ∉ l := fun q => by have := hl _ q; omega
  exact ⟨p0, by rw [hf _ n1]; exact p1, by rw [hf _ n1]; exact p2, fun k hk => by rw [hf _ n2]; exact p3 k hk⟩
theorem mSS_fr {σ σ1 : zI} {S : Nat → zS} {l : List Nat} (h : mSS σ S) (hf : zfr l σ σ1) (hl : 75 ∉ l ∧ 76 ∉ l ∧ 77 ∉ l) : mSS σ1 S := by
  intro i hi
  obtain ⟨p0, p1, p2, p3⟩ := h i hi
  exact ⟨p0, by rw [hf _ hl.1]; exact p1, by rw [hf _ hl.2.1]; exact p2, fun k hk => by rw [hf _ hl.2.2]; exact p3 k hk⟩
section
variable {d : Nat} {g : zG} {σ : zI} {K : Int32 → zI → Prop}
theorem xSS_cel {S : Nat → zS} (hS : xSS σ S) {a k : Nat} {x : Int32} : xSS (zsI σ (49 + 2 * a + 1) k x) (celS S a k x) := by
  intro j hj
  obtain ⟨p0, p1, p2, p3⟩ := hS j hj
  unfold celS
  by_cases e : j = a
  · subst e
    rw [upS_at]
    refine ⟨p0, ?_, ?_, fun u hu => ?_⟩
    · rw [zsI_no (by omega)]; exact p1
    · rw [zsI_no (by omega)]; exact p2
    · show zsI σ (49 + 2 * j + 1) k x (49 + 2 * j + 1) u = upd (S j).2.2 k x u
      by_cases z : u = k
      · subst z; rw [zsI_at, u_eq]
      · rw [zsI_no (Or.inr z), u_ne z]; exact p3 u hu
  · rw [upS_no e]
    exact ⟨p0, by rw [zsI_no (by omega)]; exact p1, by rw [zsI_no (by omega)]; exact p2, fun u hu => by rw [zsI_no (by omega)]; exact p3 u hu⟩
theorem mSS_cel {S : Nat → zS} (hS : mSS σ S) {a k : Nat} (hk : k < 40) {x : Int32} : mSS (zsI σ 77 (40 * a + k) x) (celS S a k x) := by
  intro j hj
  obtain ⟨p0, p1, p2, p3⟩ := hS j hj
  unfold celS
  by_cases e : j = a
  · subst e
    rw [upS_at]
    refine ⟨p0, ?_, ?_, fun u hu => ?_⟩
    · rw [zsI_no (by omega)]; exact p1
    · rw [zsI_no (by omega)]; exact p2
    · show zsI σ 77 (40 * j + k) x 77 (40 * j + u) = upd (S j).2.2 k x u
      by_cases z : u = k
      · subst z; rw [zsI_at, u_eq]
      · rw [zsI_no (by omega), u_ne z]; exact p3 u hu
  · rw [upS_no e]
    exact ⟨p0, by rw [zsI_no (by omega)]; exact p1, by rw [zsI_no (by omega)]; exact p2, fun u hu => by rw [zsI_no (by omega)]; exact p3 u hu⟩
theorem cx_holds (hg : zGA g) {a sz : Nat} (ha : a < 4) (hz : sz ≤ 40) (h1 : σ (49 + 2 * a) 1 = nI sz) {v : Int32} (h0 : hA sz v = none → K 0 σ) (hk : ∀ k, hA sz v = some k → k < sz → v = nI k → K 1 σ) : zCI mX5_holds d [.ref (49 + 2 * a), .int v] g σ K := by
  have e0 : (0 : Int32).toInt = 0 := rfl
  have e4 : (nI 40).toInt = 40 := rfl
  have es : (nI sz).toInt = (sz : Int) := nI_toInt' (by omega)
  refine s_X5_holds hg (gr_sheets_n hg a ha).2 (t_lt (fun q => h0 (hA_no (by omega))) (fun q => ?_))
  rw [h1]
  refine t_le (fun q2 => h0 (hA_no (by omega))) (fun q2 => t_le (fun q3 => by omega) (fun q3 => ?_))
  have hs := hA_yes (n := sz) (v := v) (by omega) (by omega)
  obtain ⟨k1, k2⟩ := hA_sm (by omega) hs
  exact hk _ hs k1 k2
theorem hA_nI {n k : Nat} (h : k < n) (hn : n < 2147483648) : hA n (nI k) = some k := by
  have := hA_yes (n := n) (v := nI k) (by rw [nI_toInt' (by omega)]; omega) (by rw [nI_toInt' (by omega)]; omega)
  rw [nI_toInt' (by omega), Int.toNat_natCast] at this
  exact this
theorem cx_at (hg : zGA g) {a sz : Nat} {so : Int32} {C : Nat → Int32} (ha : a < 4) (hx : xS σ a so sz C) {k : Nat} (hk : k < sz) (h1 : K (C k) σ) : zCI mX5_at (d + 1) [.ref (49 + 2 * a), .int (nI k)] g σ K := by
  obtain ⟨p0, p1, p2, p3⟩ := hx
  refine s_X5_at hg (gr_sheets_n hg a ha).2 (cx_holds hg ha p0 p2 (fun q => ?_) (fun j q hj e => z1 ⟨v_in (by omega) (by omega), ?_⟩))
  · rw [hA_nI hk (by omega)] at q; cases q
  · rw [c_nI (by omega), p3 k (by omega)]; exact h1
theorem cx_put {K : zI → Prop} (hg : zGA g) {a sz k : Nat} (ha : a < 4) {so : Int32} {C : Nat → Int32} (hx : xS σ a so sz C) (hk : k < sz) {v : Int32} (h1 : K (zsI σ (49 + 2 * a + 1) k (vC so v))) : zCV mX5_put (d + 1) [.ref (49 + 2 * a), .int (nI k), .int v] g σ K := by
  obtain ⟨p0, p1, p2, p3⟩ := hx
  refine s_X5_put hg (gr_sheets_n hg a ha).2 (cx_holds hg ha p0 p2 (fun q => ?_) (fun j q hj e => z1 ?_))
  · rw [hA_nI hk (by omega)] at q; cases q
  · rw [p1, c_nI (by omega)]
    unfold vC at h1
    refine t_eq (fun z => ⟨v_in (by omega) (by omega), by rw [if_pos z] at h1; exact h1⟩) (fun z => t_eq (fun y => ⟨v_in (by omega) (by omega), by rw [if_neg z, if_pos y] at h1; exact h1⟩) (fun y => ⟨v_in (by omega) (by omega), by rw [if_neg z, if_neg y] at h1; exact h1⟩))
theorem cx_cell (hg : zGA g) {S : Nat → zS} (hS : xSS σ S) {s i v : Int32} (h0 : ∀ r, dCel S s i = Sum.inl r → K r σ)
    (h1 : ∀ a k, dCel S s i = Sum.inr (a, k) → a < 4 → k < (S a).2.1 → ∀ σ', zfr [49 + 2 * a + 1] σ σ' → xSS σ' (celS S a k (vC (S a).1 v)) → K 1 σ') : zCI mX7_cell (d + 2) [.ref 0, .int s, .int i, .int v] g σ K := by
  refine s_X7_cell hg (cx_sheetAt hg (fun q => h0 _ (by unfold dCel; rw [q])) (fun a q ha hs => ⟨(gr_sheets_n hg a ha).2, ?_⟩))
  have ed : dCel S s i = (if (S a).1 = -1 then Sum.inl (-11) else match hA (S a).2.1 i with | none => Sum.inl (-12) | some k => Sum.inr (a, k) : Int32 ⊕ (Nat × Nat)) := by unfold dCel; rw [q]
  have hx := hS a ha
  obtain ⟨p0, p1, p2, p3⟩ := hx
  rw [p1]
  refine t_eq (fun z => h0 _ (by rw [ed, if_pos z])) (fun z => ?_)
  rw [if_neg z] at ed
  refine cx_holds (d := d + 1) hg ha p0 p2 (fun y => z0 (h0 _ (by rw [ed, y]))) (fun k y hk e => z1 ?_)
  rw [y] at ed
  subst e
  exact cx_put hg ha (hS a ha) hk (h1 a k ed ha hk _ (zfr_I (by simp)) (xSS_cel hS))
theorem cm_cell (hg : zGA g) {S : Nat → zS} (hS : mSS σ S) (hk : sok S) {s i v : Int32} (h0 : ∀ r, dCel S s i = Sum.inl r → K r σ)
    (h1 : ∀ a k, dCel S s i = Sum.inr (a, k) → a < 4 → k < (S a).2.1 → ∀ σ', zfr [77] σ σ' → mSS σ' (celS S a k (vC (S a).1 v)) → K 1 σ') : zCI mX8_cell (d + 2) [.ref 57, .int s, .int i, .int v] g σ K := by
  have e0 : (0 : Int32).toInt = 0 := rfl
  have em : (-1 : Int32).toInt = -1 := rfl
  refine s_X8_cell hg (cm_isSheet (d := d) hg (fun q => z0 (h0 _ (by unfold dCel; rw [q]))) (fun a q ha hs => z1 ?_))
  subst hs
  have ed : dCel S (nI a) i = (if (S a).1 = -1 then Sum.inl (-11) else match hA (S a).2.1 i with | none => Sum.inl (-12) | some k => Sum.inr (a, k) : Int32 ⊕ (Nat × Nat)) := by unfold dCel; rw [q]
  have hx := hS a ha
  obtain ⟨p0, p1, p2, p3⟩ := hx
  have m40 : ∀ a b : Nat, (40 : Int32) * nI a + nI b = nI (40 * a + b) := fun a b => by rw [show (40 : Int32) * nI a = nI (40 * a) from pk_mul 40 a, nI_add]
  have en : (nI (S a).2.1 - 1).toInt = ((S a).2.1 : Int) - 1 := pk_sub_toInt (b := 1) (by omega) (by omega)
  rw [c_nI (by omega), p1, p2]
  refine ⟨v_in ha (by omega), t_le (fun z => ⟨v_in ha (by omega), ?_⟩) (fun z => h0 _ ?_)⟩
  · have zz : ¬ (S a).1 = -1 := fun u => by rw [u] at z; omega
    rw [if_neg zz] at ed
    refine cm_within (d := d + 1) hg (fun y => z0 (h0 _ (by rw [ed, hA_no (by omega)]))) (fun y y2 => z1 ⟨v_in ha (by omega), ?_⟩)
    have hs := hA_yes (n := (S a).2.1) (v := i) (by omega) (by omega)
    obtain ⟨k1, k2⟩ := hA_sm (by omega) hs
    rw [hs] at ed
    generalize i.toInt.toNat = k at *
    subst k2
    rw [m40, c_nI (n := 40 * a + k) (by omega), p1]
    have fin := h1 a k ed ha k1 _ (zfr_I (by decide)) (mSS_cel hS (by omega) (x := vC (S a).1 v))
    unfold vC at fin
    refine t_eq (fun z => ⟨v_in (by omega) (by omega), by rw [if_pos z] at fin; exact fin⟩) (fun z => ⟨v_in ha (by omega), t_eq (fun y => ⟨v_in (by omega) (by omega), by rw [if_neg z, if_pos y] at fin; exact fin⟩) (fun y => ⟨v_in (by omega) (by omega), by rw [if_neg z, if_neg y] at fin; exact fin⟩)⟩)
  · have zz : (S a).1 = -1 := by
      rcases hk a ha with u | u
      · exact u
      · omega
    rw [ed, if_pos zz]
end
