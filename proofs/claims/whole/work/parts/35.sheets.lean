/-! sheet: both sides -/
def dSh (s so n : Int32) : Option (Option (Nat × Nat)) := match hA 4 s with
  | none => none
  | some i => if -1 ≤ so.toInt ∧ so.toInt ≤ 2 then (if so = -1 then some (some (i, 0)) else if 40 < n.toInt then none else if n.toInt < 0 then some none else some (some (i, n.toInt.toNat))) else none
section
variable {d : Nat} {g : zG} {σ : zI} {K : Int32 → zI → Prop}
theorem cx_sheet (hg : zGA g) {s so n : Int32} (h0 : dSh s so n = none → K (-2) σ) (hb : dSh s so n = some none → K (-14) σ)
    (h1 : ∀ i sz, dSh s so n = some (some (i, sz)) → i < 4 → ∀ σ', zfr [49 + 2 * i, 49 + 2 * i + 1] σ σ' → xS σ' i so sz (fun _ => 0) → K 1 σ') : zCI mX7_sheet (d + 1) [.ref 0, .int s, .int so, .int n] g σ K := by
  have e0 : (0 : Int32).toInt = 0 := rfl
  have e2 : (2 : Int32).toInt = 2 := rfl
  have e40 : (40 : Int32).toInt = 40 := rfl
  have em : (-1 : Int32).toInt = -1 := rfl
  refine s_X7_sheet hg (cx_sheetAt hg (fun q => ?_) (fun i q hi hs => ⟨(gr_sheets_n hg i hi).2, ?_⟩))
  · unfold dSh at h0; rw [q] at h0; exact h0 rfl
  · have ed : dSh s so n = if -1 ≤ so.toInt ∧ so.toInt ≤ 2 then (if so = -1 then some (some (i, 0)) else if 40 < n.toInt then none else if n.toInt < 0 then some none else some (some (i, n.toInt.toNat))) else none := by unfold dSh; rw [q]
    rw [ed] at h0 hb
    refine t_lt (fun c => h0 (if_neg (by omega))) (fun c => t_le (fun c2 => ?_) (fun c2 => h0 (if_neg (by omega))))
    rw [if_pos (by omega)] at h0 hb ed
    refine t_eq (fun z => ?_) (fun z => ?_)
    · rw [if_pos z] at ed
      subst z
      exact cx_layS (sz := 0) hg hi (by omega) (fun σ' f1 f2 => h1 i 0 ed hi σ' f1 f2)
    · rw [if_neg z] at h0 hb ed
      refine t_le (fun y => ?_) (fun y => h0 (if_pos (by omega)))
      rw [if_neg (by omega)] at h0 hb ed
      refine t_le (fun y2 => ?_) (fun y2 => hb (if_pos (by omega)))
      rw [if_neg (by omega)] at ed
      obtain ⟨m, hm, rfl⟩ := zNat (v := n) (n := 40) (by omega) (by omega) (by omega)
      rw [nI_toInt' (by omega), Int.toNat_natCast] at ed
      exact cx_layS hg hi hm (fun σ' f1 f2 => h1 i m ed hi σ' f1 f2)
theorem cm_sheet (hg : zGA g) {s so n : Int32} (h0 : dSh s so n = none → K (-2) σ) (hb : dSh s so n = some none → K (-14) σ)
    (h1 : ∀ i sz, dSh s so n = some (some (i, sz)) → i < 4 → ∀ σ', zfr [75, 76, 77] σ σ' → (∀ k, k ≠ i → σ' 75 k = σ 75 k ∧ σ' 76 k = σ 76 k) → (∀ k, k < 160 → (k < 40 * i ∨ 40 * i + 40 ≤ k) → σ' 77 k = σ 77 k) → mS σ' i so sz (fun _ => 0) → K 1 σ') : zCI mX8_sheet (d + 2) [.ref 57, .int s, .int so, .int n] g σ K := by
  have e0 : (0 : Int32).toInt = 0 := rfl
  have e2 : (2 : Int32).toInt = 2 := rfl
  have e40 : (40 : Int32).toInt = 40 := rfl
  have em : (-1 : Int32).toInt = -1 := rfl
  refine s_X8_sheet hg (cm_isSheet hg (fun q => z0 ?_) (fun i q hi hs => z1 ?_))
  · unfold dSh at h0; rw [q] at h0; exact h0 rfl
  · have ed : dSh s so n = if -1 ≤ so.toInt ∧ so.toInt ≤ 2 then (if so = -1 then some (some (i, 0)) else if 40 < n.toInt then none else if n.toInt < 0 then some none else some (some (i, n.toInt.toNat))) else none := by unfold dSh; rw [q]
    rw [ed] at h0 hb
    subst hs
    refine cm_within hg (fun c => z0 (h0 (if_neg (by omega)))) (fun c c2 => z1 ?_)
    rw [if_pos (by omega)] at h0 hb ed
    have lay : ∀ m, m ≤ 40 → dSh (nI i) so n = some (some (i, m)) → p_X8_sheet_68 (d + 1) g K (zsI (zsI σ 75 i so) 76 i (nI m)) (nI i) 0 := by
      intro m hm he
      refine cm_layS (sz := m) (so := so) hg hi hm (by rw [zsI_no (Or.inl (by decide)), zsI_at]) zsI_at (fun σ' f1 f2 f3 => ?_)
      refine h1 i m he hi σ' (zfr_tr (zfr_put (zfr_put (zfr_rf _ _) (by decide)) (by decide)) (zfr_up f1 (by decide))) (fun k hk => ?_) (fun k hk hk2 => ?_) f3
      · rw [f1 75 (by decide), f1 76 (by decide), zsI_no (Or.inr hk), zsI_no (Or.inr hk), zsI_no (Or.inr hk), zsI_no (Or.inr hk)]
        exact ⟨rfl, rfl⟩
      · rw [f2 k hk hk2, zsI_no (Or.inl (by decide)), zsI_no (Or.inl (by decide))]
    refine t_lt (fun z => ?_) (fun z => ?_)
    · have zz : so = -1 := Int32.toInt_inj.mp (by omega)
      rw [if_pos zz] at ed
      refine s_X8_sheet_30 hg (t_lt (fun _ => ⟨v_in (by omega) (by omega), t_le (fun y => by omega) (fun y => ⟨v_in (by omega) (by omega), ?_⟩)⟩) (fun y => by omega))
      rw [c_nI (by omega)]
      exact lay 0 (by omega) ed
    · have zz : ¬ so = -1 := fun u => by rw [u] at z; omega
      rw [if_neg zz] at h0 hb ed
      refine t_le (fun y => s_X8_sheet_30 hg (t_lt (fun y2 => by omega) (fun _ => t_le (fun y2 => ⟨v_in (by omega) (by omega), t_le (fun _ => ⟨v_in (by omega) (by omega), ?_⟩) (fun y3 => by omega)⟩) (fun y2 => h0 (if_pos (by omega)))))) (fun y => hb ?_)
      · rw [if_neg (by omega), if_neg (by omega)] at ed
        obtain ⟨m, hm, rfl⟩ := zNat (v := n) (n := 40) (by omega) (by omega) (by omega)
        rw [nI_toInt' (by omega), Int.toNat_natCast] at ed
        rw [c_nI (by omega)]
        exact lay m hm ed
      · rw [if_neg (by omega), if_pos (by omega)]
end
