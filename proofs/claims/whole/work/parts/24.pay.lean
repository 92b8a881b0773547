/-! barred (the reference), silent, pays without ways: both sides -/
section
variable {d : Nat} {g : zG} {σ : zI}
theorem cm_barred {K : Int32 → zI → Prop} (hg : zGA g) {E : zE} {T n : Nat} {fam : Nat → zH} (ht : mTx σ T E.1 E.2.1 E.2.2) (hF : mF σ n fam) (h68 : σ 68 0 = 0) (h69 : σ 69 0 = 0) {a b w : Int32}
    (h1 : ∀ σ', zfr [66, 67, 68, 69] σ σ' → σ' 68 0 = 0 → σ' 69 0 = 0 → K (aBar E fam n a b w) σ') : zCI mX8_barred (d + 7) [.ref 57, .int a, .int b, .int w] g σ K := by
  have n6 := hF.1
  have e0 : (0 : Int32).toInt = 0 := rfl
  have e2 : (2 : Int32).toInt = 2 := rfl
  unfold aBar at h1
  refine s_X8_barred hg (cm_areTwo (d := d + 4) hg hF (fun q => z0 ?_) (fun i j q => z1 ?_))
  · rw [q] at h1; exact h1 σ (zfr_rf _ _) h68 h69
  · rw [q] at h1
    obtain ⟨hi, hj, hij, rfl, rfl⟩ := two_some n6 q
    have h1 : ∀ σ', zfr [66, 67, 68, 69] σ σ' → σ' 68 0 = 0 → σ' 69 0 = 0 → K (if 0 ≤ w.toInt ∧ w.toInt ≤ 2 then hq E (fam i) (prc E (fam i) (fam j)) w.toInt.toNat else -2) σ' := h1
    have bad : ¬ (0 ≤ w.toInt ∧ w.toInt ≤ 2) → K (-2) σ := fun c => by
      have := h1 σ (zfr_rf _ _) h68 h69
      rw [if_neg c] at this
      exact this
    refine cm_within hg (fun q => z0 (bad (by omega))) (fun q q2 => z1 ?_)
    rw [if_pos ⟨by omega, by omega⟩] at h1
    obtain ⟨k, hk, rfl⟩ := zNat (v := w) (n := 2) (by omega) (by omega) (by omega)
    rw [nI_toInt' (by omega), Int.toNat_natCast] at h1
    exact cm_barredOf' hg (hF.2.2 i hi).1 (hF.2.2 j hj).1 ht (hF.2.2 i hi).2 (hF.2.2 j hj).2 h68 h69 hk h1
/-- SUMS heard among the pairs -/
def hrd (E : zE) (fam : Nat → zH) (t i j : Nat) : Bool := (ls (prc E (fam i) (fam j)) t).isSome
theorem hrd_comm (E : zE) (fam : Nat → zH) (t i j : Nat) : hrd E fam t i j = hrd E fam t j i := by
  unfold hrd
  rw [prc_comm]
def anyH (E : zE) (fam : Nat → zH) (n t : Nat) : Prop := ∃ i j, i < j ∧ j < n ∧ hrd E fam t i j = true
noncomputable def isH (E : zE) (fam : Nat → zH) (n t : Nat) : Bool := @decide (anyH E fam n t) (Classical.propDecidable _)
/-- how many SUMS 1 .. j are heard by none, and the first -/
def unh (f : Nat → Bool) : Nat → Nat
  | 0 => 0
  | j + 1 => unh f j + (if f (j + 1) then 0 else 1)
def fst1 (f : Nat → Bool) : Nat → Nat → Int32
  | _, 0 => -1
  | a, r + 1 => if f a then fst1 f (a + 1) r else nI a
noncomputable def aSil (E : zE) (fam : Nat → zH) (n : Nat) (w : Int32) : Int32 := if 0 ≤ w.toInt ∧ w.toInt ≤ 1 then (if w = 0 then nI (unh (isH E fam n) 99) else fst1 (isH E fam n) 1 99) else -2
theorem unh_le (f : Nat → Bool) : ∀ j, unh f j ≤ j
  | 0 => Nat.le_refl _
  | j + 1 => by
    have := unh_le f j
    unfold unh
    split <;> omega
theorem isH_iff (E : zE) (fam : Nat → zH) (n t : Nat) : isH E fam n t = true ↔ anyH E fam n t := by
  unfold isH
  exact @decide_eq_true_iff _ (Classical.propDecidable _)
theorem bI_1 (b : Bool) : ¬ bI b = 0 → b = true := by cases b <;> simp [bI]
theorem cx_hear {K : zI → Prop} (hg : zGA g) {E : zE} {a b : Nat} {x y : zH} (ha : zOb g a 0) (hb : zOb g b 0) (hx : xH σ a x) (hy : xH σ b y) {f : Nat → Prop} (hf0 : ∀ t, t < 100 → (f t → σ 27 t = 1) ∧ (¬ f t → σ 27 t = 0))
    (h1 : ∀ σ', zfr [26, 27] σ σ' → (∀ t, t < 100 → ((f t ∨ (ls (prc E x y) t).isSome = true) → σ' 27 t = 1) ∧ (¬ (f t ∨ (ls (prc E x y) t).isSome = true) → σ' 27 t = 0)) → K σ') : zCV mX3_hear (d + 5) [.ref 22, .ref a, .ref b] g σ K := by
  refine s_X3_hear hg ha hb (cx_fillCan hg ha hb hx hy (prc_some E x y) (fun σ1 hf h26 => ?_))
  generalize prc E x y = p at *
  have key : ∀ (r u : Nat) (σ2 : zI), u + r = 100 → zfr [26, 27] σ σ2 → (∀ t, t < 100 → σ2 26 t = bI (ls p t).isSome) → (∀ t, t < u → ((f t ∨ (ls p t).isSome = true) → σ2 27 t = 1) ∧ (¬ (f t ∨ (ls p t).isSome = true) → σ2 27 t = 0)) → (∀ t, u ≤ t → t < 100 → (f t → σ2 27 t = 1) ∧ (¬ f t → σ2 27 t = 0)) → p_X3_hear_17 (d + 4) g K σ2 (nI u) := by
    intro r
    induction r with
    | zero =>
      intro u σ2 hr hf2 h26 hv1 hv2
      exact s_X3_hear_17 hg (i_lt 99 u rfl rfl (by omega) (by omega) (fun _ => h1 σ2 hf2 (fun t ht => hv1 t (by omega))) (fun q => by omega))
    | succ r ih =>
      intro u σ2 hr hf2 h26 hv1 hv2
      have nx : ∀ v : Int32, ((f u ∨ (ls p u).isSome = true) → v = 1) → (¬ (f u ∨ (ls p u).isSome = true) → v = 0) → p_X3_hear_17 (d + 4) g K (zsI σ2 27 u v) (nI u + 1) := by
        intro v k1 k2
        rw [nI_1]
        refine ih (u + 1) _ (by omega) (zfr_put hf2 (by decide)) ?_ (fun t ht => ?_) (fun t ht ht2 => ?_)
        · rw [zsI_ne (by decide)]; exact h26
        · by_cases z : t = u
          · subst z; rw [zsI_at]; exact ⟨k1, k2⟩
          · rw [zsI_no (Or.inr z)]; exact hv1 t (by omega)
        · rw [zsI_no (by omega)]; exact hv2 t (by omega) ht2
      have c := hv2 u (Nat.le_refl _) (by omega)
      refine s_X3_hear_17 hg (i_lt 99 u rfl rfl (by omega) (by omega) (fun q => by omega) (fun _ => ⟨v_in (by omega) (by omega), ?_⟩))
      rw [c_nI (by omega), h26 u (by omega)]
      refine t_eq (fun z => ⟨v_in (by omega) (by omega), t_eq (fun z2 => ⟨v_in (by omega) (by omega), nx 0 (fun k => ?_) (fun _ => rfl)⟩) (fun z2 => ⟨v_in (by omega) (by omega), nx 1 (fun _ => rfl) (fun k => ?_)⟩)⟩) (fun z => ⟨v_in (by omega) (by omega), nx 1 (fun _ => rfl) (fun k => ?_)⟩)
      · rcases k with k | k
        · rw [c.1 k] at z; exact absurd z (by decide)
        · rw [(bI_0 _).mp z2] at k; simp at k
      · exact absurd (Or.inr (bI_1 _ z2)) k
      · exact absurd (c.2 (fun w => k (Or.inl w))) z
  exact key 100 0 σ1 (by omega) (zfr_up hf (by decide)) h26 (fun t ht => by omega) (fun t _ ht => by rw [hf 27 (by decide)]; exact hf0 t ht)
theorem cx_silent {K : Int32 → zI → Prop} (hg : zGA g) {E : zE} {n : Nat} {fam : Nat → zH} (hF : xF σ n fam) {w : Int32} (h1 : ∀ σ', zfr [26, 27] σ σ' → K (aSil E fam n w) σ') : zCI mX7_silent (d + 6) [.ref 0, .int w] g σ K := by
  have n6 := hF.1
  have e0 : (0 : Int32).toInt = 0 := rfl
  have e1 : (1 : Int32).toInt = 1 := rfl
  unfold aSil at h1
  have bad : ¬ (0 ≤ w.toInt ∧ w.toInt ≤ 1) → K (-2) σ := fun c => by
    have := h1 σ (zfr_rf _ _)
    rw [if_neg c] at this
    exact this
  refine s_X7_silent hg (t_lt (fun q => bad (by omega)) (fun q => t_le (fun q2 => ?_) (fun q2 => bad (by omega))))
  rw [if_pos ⟨by omega, by omega⟩] at h1
  have fin : ∀ σ1, zfr [26, 27] σ σ1 → (∀ t, t < 100 → (anyH E fam n t → σ1 27 t = 1) ∧ (¬ anyH E fam n t → σ1 27 t = 0)) → p_X7_silent_21 (d + 5) g K σ1 w (nI n) := by
    intro σ1 hf hv
    have hb : ∀ t, t < 100 → σ1 27 t = bI (isH E fam n t) := by
      intro t ht
      by_cases c : anyH E fam n t
      · rw [(hv t ht).1 c, (isH_iff E fam n t).mpr c]; rfl
      · rw [(hv t ht).2 c]
        cases h : isH E fam n t with
        | false => rfl
        | true => exact absurd ((isH_iff E fam n t).mp h) c
    have hk := h1 σ1 hf
    generalize isH E fam n = f at *
    refine s_X7_silent_21 hg ?_
    rw [hf 0 (by decide), hF.2.1]
    refine i_le n n rfl rfl (by omega) (by omega) (fun _ => t_eq (fun z => ?_) (fun z => ?_)) (fun q => by omega)
    · rw [if_pos z] at hk
      have key : ∀ (r j : Nat), j + r = 99 → p_X3_unheard_4 (d + 4) g K σ1 (nI (unh f j)) (nI (j + 1)) := by
        intro r
        induction r with
        | zero =>
          intro j hr
          have e : j = 99 := by omega
          subst e
          exact s_X3_unheard_4 hg (i_lt 99 100 rfl rfl (by omega) (by omega) (fun _ => hk) (fun q => by omega))
        | succ r ih =>
          intro j hr
          have nx := ih (j + 1) (by omega)
          have e : unh f (j + 1) = unh f j + (if f (j + 1) then 0 else 1) := rfl
          refine s_X3_unheard_4 hg (i_lt 99 (j + 1) rfl rfl (by omega) (by omega) (fun q => by omega) (fun _ => ⟨v_in (by omega) (by omega), ?_⟩))
          rw [c_nI (by omega), hb (j + 1) (by omega), nI_1 (j + 1)]
          refine t_eq (fun z => ?_) (fun z => ?_)
          · rw [e, (bI_0 _).mp z] at nx
            refine cx_truth hg (fun q => absurd q (by decide)) (fun _ => ?_)
            rw [nI_1]
            exact nx
          · rw [e, bI_1 _ z] at nx
            refine cx_truth hg (fun _ => ?_) (fun q => absurd rfl q)
            rw [show (0 : Int32) = nI 0 from rfl, nI_add]
            exact nx
      exact s_X3_unheard hg (key 99 0 (by omega))
    · rw [if_neg z] at hk
      have key : ∀ (r j : Nat), j + r = 100 → fst1 f j r = fst1 f 1 99 → p_X3_firstUnheard_2 (d + 5) g K σ1 (nI j) := by
        intro r
        induction r with
        | zero =>
          intro j hr he
          refine s_X3_firstUnheard_2 hg (i_lt 99 j rfl rfl (by omega) (by omega) (fun _ => ?_) (fun q => by omega))
          rw [← he] at hk
          exact hk
        | succ r ih =>
          intro j hr he
          have e : fst1 f j (r + 1) = if f j then fst1 f (j + 1) r else nI j := rfl
          refine s_X3_firstUnheard_2 hg (i_lt 99 j rfl rfl (by omega) (by omega) (fun q => by omega) (fun _ => ⟨v_in (by omega) (by omega), ?_⟩))
          rw [c_nI (by omega), hb j (by omega), nI_1 j]
          refine t_eq (fun z => ?_) (fun z => ?_)
          · rw [e, (bI_0 _).mp z] at he
            rw [← he] at hk
            exact hk
          · rw [e, bI_1 _ z] at he
            exact ih (j + 1) (by omega) he
      exact s_X3_firstUnheard hg (key 99 1 (by omega) rfl)
  have keyP : ∀ (r i : Nat) (σ1 : zI), i + r = n → zfr [26, 27] σ σ1 → (∀ t, t < 100 → ((∃ a b, a < b ∧ b < n ∧ a < i ∧ hrd E fam t a b = true) → σ1 27 t = 1) ∧ (¬ (∃ a b, a < b ∧ b < n ∧ a < i ∧ hrd E fam t a b = true) → σ1 27 t = 0)) → p_X7_silent_21 (d + 5) g K σ1 w (nI i) := by
    intro r
    induction r with
    | zero =>
      intro i σ1 hr hf hv
      have e : i = n := by omega
      subst e
      refine fin σ1 hf (fun t ht => ⟨fun ⟨a, b, q1, q2, q3⟩ => (hv t ht).1 ⟨a, b, q1, q2, by omega, q3⟩, fun c => (hv t ht).2 (fun ⟨a, b, q1, q2, q3, q4⟩ => c ⟨a, b, q1, q2, q4⟩)⟩)
    | succ r ih =>
      intro i σ1 hr hf hv
      refine s_X7_silent_21 hg ?_
      rw [hf 0 (by decide), hF.2.1, nI_1 i]
      refine i_le n i rfl rfl (by omega) (by omega) (fun q => by omega) (fun _ => ?_)
      have keyQ : ∀ (m j : Nat) (σ2 : zI), j + m = n → i < j → zfr [26, 27] σ σ2 → (∀ t, t < 100 → ((∃ a b, a < b ∧ b < n ∧ (a < i ∨ (a = i ∧ b < j)) ∧ hrd E fam t a b = true) → σ2 27 t = 1) ∧ (¬ (∃ a b, a < b ∧ b < n ∧ (a < i ∨ (a = i ∧ b < j)) ∧ hrd E fam t a b = true) → σ2 27 t = 0)) → p_X7_silent_33 (d + 5) g K σ2 w (nI i) (nI j) := by
        intro m
        induction m with
        | zero =>
          intro j σ2 hm hij hf2 hv2
          refine s_X7_silent_33 hg ?_
          rw [hf2 0 (by decide), hF.2.1, nI_1 i]
          refine i_le n j rfl rfl (by omega) (by omega) (fun _ => ih (i + 1) σ2 (by omega) hf2 (fun t ht => ?_)) (fun q => by omega)
          refine ⟨fun ⟨a, b, q1, q2, q3, q4⟩ => (hv2 t ht).1 ⟨a, b, q1, q2, by omega, q4⟩, fun c => (hv2 t ht).2 (fun ⟨a, b, q1, q2, q3, q4⟩ => c ⟨a, b, q1, q2, by omega, q4⟩)⟩
        | succ m ih2 =>
          intro j σ2 hm hij hf2 hv2
          have xf := xF_fr hF hf2 (by decide) (fun i hi => by simp; omega)
          refine s_X7_silent_33 hg ?_
          rw [hf2 0 (by decide), hF.2.1, nI_1 j]
          refine i_le n j rfl rfl (by omega) (by omega) (fun q => by omega) (fun _ => ?_)
          have yi : hA n (nI i) = some i := by
            have := hA_yes (n := n) (v := nI i) (by rw [nI_toInt' (by omega)]; omega) (by rw [nI_toInt' (by omega)]; omega)
            rw [nI_toInt' (by omega), Int.toNat_natCast] at this
            exact this
          have yj : hA n (nI j) = some j := by
            have := hA_yes (n := n) (v := nI j) (by rw [nI_toInt' (by omega)]; omega) (by rw [nI_toInt' (by omega)]; omega)
            rw [nI_toInt' (by omega), Int.toNat_natCast] at this
            exact this
          refine cx_heirAt (d := d + 5) hg xf (fun q => by rw [yi] at q; simp at q) (fun i' q hi' he => ?_)
          have ei : i' = i := by rw [yi] at q; simpa using q.symm
          subst ei
          refine ⟨(gr_family_n hg i' (by omega)).2, cx_heirAt (d := d + 5) hg xf (fun q => by rw [yj] at q; simp at q) (fun j' q hj' he => ?_)⟩
          have ej : j' = j := by rw [yj] at q; simpa using q.symm
          subst ej
          refine ⟨(gr_family_n hg j' (by omega)).2, cx_hear (E := E) hg (gr_family_n hg i' (by omega)).2 (gr_family_n hg j' (by omega)).2 (xf.2.2 i' (by omega)).2 (xf.2.2 j' (by omega)).2 hv2 (fun σ3 hf3 hv3 => ih2 (j' + 1) σ3 (by omega) (by omega) (zfr_tr hf2 hf3) (fun t ht => ?_))⟩
          have c := hv3 t ht
          refine ⟨fun ⟨a, b, q1, q2, q3, q4⟩ => c.1 ?_, fun k => c.2 (fun u => k ?_)⟩
          · by_cases z : a = i' ∧ b = j'
            · rw [z.1, z.2] at q4; exact Or.inr q4
            · exact Or.inl ⟨a, b, q1, q2, by omega, q4⟩
          · rcases u with ⟨a, b, q1, q2, q3, q4⟩ | u
            · exact ⟨a, b, q1, q2, by omega, q4⟩
            · exact ⟨i', j', hij, hj', by omega, u⟩
      refine keyQ (n - (i + 1)) (i + 1) σ1 (by omega) (by omega) hf (fun t ht => ?_)
      refine ⟨fun ⟨a, b, q1, q2, q3, q4⟩ => (hv t ht).1 ⟨a, b, q1, q2, by omega, q4⟩, fun c => (hv t ht).2 (fun ⟨a, b, q1, q2, q3, q4⟩ => c ⟨a, b, q1, q2, by omega, q4⟩)⟩
  have keyN : ∀ (r u : Nat) (σ1 : zI), u + r = 100 → zfr [26, 27] σ σ1 → (∀ t, t < u → σ1 27 t = 0) → p_X3_hearNone_2 (d + 5) g (fun σ1 => p_X7_silent_21 (d + 5) g K σ1 w 0) σ1 (nI u) := by
    intro r
    induction r with
    | zero =>
      intro u σ1 hr hf hv
      refine s_X3_hearNone_2 hg (i_lt 99 u rfl rfl (by omega) (by omega) (fun _ => ?_) (fun q => by omega))
      exact keyP n 0 σ1 (by omega) hf (fun t ht => ⟨fun ⟨a, b, q1, q2, q3, q4⟩ => by omega, fun _ => hv t (by omega)⟩)
    | succ r ih =>
      intro u σ1 hr hf hv
      refine s_X3_hearNone_2 hg (i_lt 99 u rfl rfl (by omega) (by omega) (fun q => by omega) (fun _ => ⟨v_in (by omega) (by omega), ?_⟩))
      rw [c_nI (by omega), nI_1 u]
      refine ih (u + 1) _ (by omega) (zfr_put hf (by decide)) (fun t ht => ?_)
      by_cases z : t = u
      · subst z; rw [zsI_at]
      · rw [zsI_no (Or.inr z)]; exact hv t (by omega)
  exact s_X3_hearNone hg (keyN 100 0 σ (by omega) (zfr_rf _ _) (fun t ht => by omega))
end
