/-! silent: the reference -/
section
variable {d : Nat} {g : zG} {σ : zI}
theorem unh_up (f : Nat → Bool) (j : Nat) : ∀ r, unh f j ≤ unh f (j + r)
  | 0 => Nat.le_refl _
  | r + 1 => by
    have := unh_up f j r
    show unh f j ≤ unh f (j + r) + (if f (j + r + 1) then 0 else 1)
    omega
theorem cm_silent {K : Int32 → zI → Prop} (hg : zGA g) {E : zE} {T n : Nat} {fam : Nat → zH} (ht : mTx σ T E.1 E.2.1 E.2.2) (hF : mF σ n fam) (h68 : σ 68 0 = 0) (h69 : σ 69 0 = 0) {w : Int32}
    (h1 : ∀ σ', zfr [66, 67, 68, 69, 70] σ σ' → σ' 68 0 = 0 → σ' 69 0 = 0 → K (aSil E fam n w) σ') : zCI mX8_silent (d + 6) [.ref 57, .int w] g σ K := by
  have n6 := hF.1
  have e0 : (0 : Int32).toInt = 0 := rfl
  have e1 : (1 : Int32).toInt = 1 := rfl
  unfold aSil at h1
  have bad : ¬ (0 ≤ w.toInt ∧ w.toInt ≤ 1) → K (-2) σ := fun c => by
    have := h1 σ (zfr_rf _ _) h68 h69
    rw [if_neg c] at this
    exact this
  refine s_X8_silent hg (cm_within hg (fun q => z0 (bad (by omega))) (fun q q2 => z1 ?_))
  rw [if_pos ⟨by omega, by omega⟩] at h1
  have fin : ∀ σ1, zfr [66, 67, 68, 69, 70] σ σ1 → σ1 68 0 = 0 → σ1 69 0 = 0 → (∀ t, 1 ≤ t → t < 100 → (anyH E fam n t → σ1 70 t = 1) ∧ (¬ anyH E fam n t → σ1 70 t = 0)) → p_X8_silent_111 (d + 5) g K σ1 w 0 (-1) 99 := by
    intro σ1 hf z8 z9 hv
    have hb : ∀ t, 1 ≤ t → t < 100 → σ1 70 t = bI (isH E fam n t) := by
      intro t ht0 ht
      by_cases c : anyH E fam n t
      · rw [(hv t ht0 ht).1 c, (isH_iff E fam n t).mpr c]; rfl
      · rw [(hv t ht0 ht).2 c]
        cases h : isH E fam n t with
        | false => rfl
        | true => exact absurd ((isH_iff E fam n t).mp h) c
    have hk := h1 σ1 hf z8 z9
    generalize isH E fam n = f at *
    have key : ∀ (j c : Nat), j ≤ 99 → c + unh f j = unh f 99 → p_X8_silent_111 (d + 5) g K σ1 w (nI c) (fst1 f (j + 1) (99 - j)) (nI j) := by
      intro j
      induction j with
      | zero =>
        intro c _ hc
        have hc : c + 0 = unh f 99 := hc
        refine s_X8_silent_111 hg (i_le 0 0 rfl rfl (by omega) (by omega) (fun _ => t_eq (fun z => ?_) (fun z => ?_)) (fun q => by omega))
        · rw [if_pos z, ← hc] at hk; exact hk
        · rw [if_neg z] at hk; exact hk
      | succ j ih =>
        intro c hj hc
        have e : unh f (j + 1) = unh f j + (if f (j + 1) then 0 else 1) := rfl
        have e2 : fst1 f (j + 1) (99 - j) = if f (j + 1) then fst1 f (j + 2) (99 - (j + 1)) else nI (j + 1) := by
          rw [show 99 - j = (99 - (j + 1)) + 1 by omega]; rfl
        refine s_X8_silent_111 hg (i_le (j + 1) 0 rfl rfl (by omega) (by omega) (fun q => by omega) (fun _ => ⟨v_in (by omega) (by omega), ?_⟩))
        rw [c_nI (by omega), hb (j + 1) (by omega) (by omega), pk_m1 j, nI_1 c]
        refine t_eq (fun z => ?_) (fun z => ?_)
        · have w0 := (bI_0 _).mp z
          rw [w0] at e e2
          have nx := ih (c + 1) (by omega) (by rw [← hc, e]; simp; omega)
          rw [e2] at nx
          exact nx
        · have w1 := bI_1 _ z
          rw [w1] at e e2
          have nx := ih c (by omega) (by rw [← hc, e]; simp)
          rw [e2] at nx
          exact nx
    exact key 99 0 (by omega) (by omega)
  have keyP : ∀ (r u : Nat) (σ1 : zI), u + r = n → zfr [66, 67, 68, 69, 70] σ σ1 → σ1 68 0 = 0 → σ1 69 0 = 0 → (∀ t, 1 ≤ t → t < 100 → ((∃ a b, a < b ∧ b < u ∧ hrd E fam t a b = true) → σ1 70 t = 1) ∧ (¬ (∃ a b, a < b ∧ b < u ∧ hrd E fam t a b = true) → σ1 70 t = 0)) → p_X8_silent_35 (d + 5) g K σ1 w (nI u) := by
    intro r
    induction r with
    | zero =>
      intro u σ1 hr hf z8 z9 hv
      have e : u = n := by omega
      subst e
      refine s_X8_silent_35 hg ?_
      rw [hf 57 (by decide), hF.2.1]
      exact i_le u u rfl rfl (by omega) (by omega) (fun _ => fin σ1 hf z8 z9 hv) (fun q => by omega)
    | succ r ih =>
      intro u σ1 hr hf z8 z9 hv
      refine s_X8_silent_35 hg ?_
      rw [hf 57 (by decide), hF.2.1]
      refine i_le n u rfl rfl (by omega) (by omega) (fun q => by omega) (fun _ => ?_)
      have keyQ : ∀ (m v : Nat) (σ2 : zI), v + m = u → zfr [66, 67, 68, 69, 70] σ σ2 → σ2 68 0 = 0 → σ2 69 0 = 0 → (∀ t, 1 ≤ t → t < 100 → ((∃ a b, a < b ∧ (b < u ∨ (b = u ∧ a < v)) ∧ hrd E fam t a b = true) → σ2 70 t = 1) ∧ (¬ (∃ a b, a < b ∧ (b < u ∨ (b = u ∧ a < v)) ∧ hrd E fam t a b = true) → σ2 70 t = 0)) → p_X8_silent_45 (d + 5) g K σ2 w (nI u) (nI v) := by
        intro m
        induction m with
        | zero =>
          intro v σ2 hm hf2 y8 y9 hv2
          have e : v = u := by omega
          subst e
          refine s_X8_silent_45 hg ?_
          rw [nI_1 v]
          refine i_le v v rfl rfl (by omega) (by omega) (fun _ => ih (v + 1) σ2 (by omega) hf2 y8 y9 (fun t ht0 ht => ?_)) (fun q => by omega)
          exact ⟨fun ⟨a, b, q1, q2, q3⟩ => (hv2 t ht0 ht).1 ⟨a, b, q1, by omega, q3⟩, fun c => (hv2 t ht0 ht).2 (fun ⟨a, b, q1, q2, q3⟩ => c ⟨a, b, q1, by omega, q3⟩)⟩
        | succ m ih2 =>
          intro v σ2 hm hf2 y8 y9 hv2
          have mf := mF_fr hF hf2 (by decide)
          refine s_X8_silent_45 hg (i_le u v rfl rfl (by omega) (by omega) (fun q => by omega) (fun _ => ?_))
          refine cm_sums' hg (mf.2.2 u (by omega)).1 (mf.2.2 v (by omega)).1 (mTx_fr ht hf2 (by decide)) (mf.2.2 u (by omega)).2 (mf.2.2 v (by omega)).2 y8 y9 (fun σ3 hf3 hv3 => ?_)
          have wp : wgt (prc E (fam u) (fam v)) := prc_wgt E _ _ (mF_more hF (by omega)) (mF_more hF (by omega))
          have eh : ∀ t, hrd E fam t v u = (ls (prc E (fam u) (fam v)) t).isSome := fun t => by rw [hrd_comm]; rfl
          generalize prc E (fam u) (fam v) = p at *
          have key9 : ∀ (r t : Nat) (σ4 : zI), t + r = 100 → 1 ≤ t → zfr [70] σ3 σ4 →
              (∀ k, 1 ≤ k → k < t → (((∃ a b, a < b ∧ (b < u ∨ (b = u ∧ a < v)) ∧ hrd E fam k a b = true) ∨ hrd E fam k v u = true) → σ4 70 k = 1) ∧ (¬ ((∃ a b, a < b ∧ (b < u ∨ (b = u ∧ a < v)) ∧ hrd E fam k a b = true) ∨ hrd E fam k v u = true) → σ4 70 k = 0)) →
              (∀ k, t ≤ k → σ4 70 k = σ2 70 k) → p_X8_silent_59 (d + 5) g K σ4 w (nI u) (nI v) (nI t) := by
            intro r
            induction r with
            | zero =>
              intro t σ4 hr h1t hf4 hv4 hv5
              refine s_X8_silent_59 hg (i_le 100 t rfl rfl (by omega) (by omega) (fun _ => ?_) (fun q => by omega))
              rw [nI_1 v]
              refine ih2 (v + 1) σ4 (by omega) (zfr_tr (zfr_tr hf2 (zfr_up hf3 (by decide))) (zfr_up hf4 (by decide))) (by rw [hf4 68 (by decide)]; exact (hv3 0 (by omega)).1) (by rw [hf4 69 (by decide)]; exact (hv3 0 (by omega)).2) (fun k hk0 hk => ?_)
              have c := hv4 k hk0 (by omega)
              refine ⟨fun ⟨a, b, q1, q2, q3⟩ => c.1 ?_, fun k1 => c.2 (fun u1 => k1 ?_)⟩
              · by_cases z : a = v ∧ b = u
                · rw [z.1, z.2] at q3; exact Or.inr q3
                · exact Or.inl ⟨a, b, q1, by omega, q3⟩
              · rcases u1 with ⟨a, b, q1, q2, q3⟩ | u1
                · exact ⟨a, b, q1, by omega, q3⟩
                · exact ⟨v, u, by omega, by omega, u1⟩
            | succ r ih9 =>
              intro t σ4 hr h1t hf4 hv4 hv5
              have c := hv2 t h1t (by omega)
              have e5 := hv5 t (Nat.le_refl _)
              refine s_X8_silent_59 hg (i_le 100 t rfl rfl (by omega) (by omega) (fun q => by omega) (fun _ => ⟨v_in (by omega) (by omega), ?_⟩))
              rw [c_nI (by omega), hf4 68 (by decide), (hv3 t (by omega)).1, nI_1 t]
              refine t_eq (fun z => ?_) (fun z => ⟨v_in (by omega) (by omega), ?_⟩)
              · have ns := (on_some wp (by omega)).mp z
                refine ih9 (t + 1) σ4 (by omega) (by omega) hf4 (fun k hk0 hk => ?_) (fun k hk => hv5 k (by omega))
                by_cases e : k = t
                · subst e
                  rw [e5, eh, ns]
                  refine ⟨fun k1 => c.1 ?_, fun k1 => c.2 (fun k2 => k1 (Or.inl k2))⟩
                  rcases k1 with k1 | k1
                  · exact k1
                  · simp at k1
                · exact hv4 k hk0 (by omega)
              · have ys : (ls p t).isSome = true := by
                  cases h : (ls p t).isSome with
                  | true => rfl
                  | false => exact absurd ((on_some wp (by omega)).mpr h) z
                refine ih9 (t + 1) _ (by omega) (by omega) (zfr_put hf4 (by decide)) (fun k hk0 hk => ?_) (fun k hk => ?_)
                · by_cases e : k = t
                  · subst e
                    rw [zsI_at, eh, ys]
                    exact ⟨fun _ => rfl, fun k1 => absurd (Or.inr rfl) k1⟩
                  · rw [zsI_no (Or.inr e)]; exact hv4 k hk0 (by omega)
                · rw [zsI_no (by omega)]; exact hv5 k (by omega)
          exact key9 99 1 σ3 (by omega) (by omega) (zfr_rf _ _) (fun k q1 q2 => by omega) (fun k _ => by rw [hf3 70 (by decide)])
      exact keyQ u 0 σ1 (by omega) hf z8 z9 (fun t ht0 ht => ⟨fun ⟨a, b, q1, q2, q3⟩ => (hv t ht0 ht).1 ⟨a, b, q1, by omega, q3⟩, fun c => (hv t ht0 ht).2 (fun ⟨a, b, q1, q2, q3⟩ => c ⟨a, b, q1, by omega, q3⟩)⟩)
  have keyN : ∀ (r u : Nat) (σ1 : zI), u + r = 100 → 1 ≤ u → zfr [70] σ σ1 → (∀ t, 1 ≤ t → t < u → σ1 70 t = 0) → p_X8_silent_14 (d + 5) g K σ1 w (nI u) := by
    intro r
    induction r with
    | zero =>
      intro u σ1 hr h1u hf hv
      refine s_X8_silent_14 hg (i_le 100 u rfl rfl (by omega) (by omega) (fun _ => ?_) (fun q => by omega))
      exact keyP n 0 σ1 (by omega) (zfr_up hf (by decide)) (by rw [hf 68 (by decide)]; exact h68) (by rw [hf 69 (by decide)]; exact h69) (fun t ht0 ht => ⟨fun ⟨a, b, q1, q2, q3⟩ => by omega, fun _ => hv t ht0 (by omega)⟩)
    | succ r ih =>
      intro u σ1 hr h1u hf hv
      refine s_X8_silent_14 hg (i_le 100 u rfl rfl (by omega) (by omega) (fun q => by omega) (fun _ => ⟨v_in (by omega) (by omega), ?_⟩))
      rw [c_nI (by omega), nI_1 u]
      refine ih (u + 1) _ (by omega) (by omega) (zfr_put hf (by decide)) (fun t ht0 ht => ?_)
      by_cases z : t = u
      · subst z; rw [zsI_at]
      · rw [zsI_no (Or.inr z)]; exact hv t ht0 (by omega)
  exact keyN 99 1 σ (by omega) (by omega) (zfr_rf _ _) (fun t q1 q2 => by omega)
end
