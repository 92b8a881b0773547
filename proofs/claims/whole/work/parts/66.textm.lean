/-! text(): the reference -/
def LSX : List Nat := [12, 13, 14, 15, 16, 17, 19, 20, 21, 22, 23]
def fPt (c0 q : Nat) (σ σ' : zI) : Prop := zfr [57, 62, 63, 64, 65] σ σ' ∧ (∀ j, j ∉ LSX → σ' 57 j = σ 57 j) ∧ (∀ j, j < c0 → σ' 64 j = σ 64 j) ∧ ∀ j, j ≠ q → σ' 62 j = σ 62 j ∧ σ' 63 j = σ 63 j
def mT3 (σ : zI) (z : Nat) (B : Nat → Nat) (k : zTk) (c0 : Nat) : Prop := mP σ z B ∧ mK σ k ∧ okT z k ∧ tkB k.2.2.1 = true ∧ σ 57 12 = nI c0
def mR1 (σ : zI) (q c0 : Nat) (o : List Nat) : Prop := σ 62 q = nI c0 ∧ σ 63 q = nI o.length ∧ ∀ i x, o[i]? = some x → σ 64 (c0 + i) = nI x
def mTc (σ : zI) (T : Nat) (P : Nat → Nat → List Nat) (c0 : Nat) : Prop := σ 57 12 = nI c0 ∧ c0 ≤ 160 * T ∧ ∀ t, t < T → ∀ q, q < 3 → ∀ b : Nat, b ≤ 3000 → σ 62 (3 * t + q) = nI b → b + (P t q).length ≤ c0
section
variable {d : Nat} {g : zG} {σ : zI} {z c0 : Nat} {B : Nat → Nat}
theorem cm_part {K : Int32 → zI → Prop} {q i : Nat} {k : zTk} (hg : zGA g) (hq : q < 18) (hi : 6 ≤ i ∧ i < 9) (h : mT3 σ z B k c0) (hc : c0 ≤ 1000)
    (hs : (ptR (nXT B z) z (1000 + i) k).1 = true → ∀ σ', mT3 σ' z B (ptR (nXT B z) z (1000 + i) k).2.1 (c0 + (ptR (nXT B z) z (1000 + i) k).2.2.length) → fPt c0 q σ σ' → mR1 σ' q c0 (ptR (nXT B z) z (1000 + i) k).2.2 → K 1 σ')
    (hfl : (ptR (nXT B z) z (1000 + i) k).1 = false → ∀ σ', fPt c0 q σ σ' → σ' 57 13 = nI (ptR (nXT B z) z (1000 + i) k).2.1.1 → K 0 σ') : zCI mX8_part (d + 4) [.ref 57, .int (nI q), .int (nI (HX.getD i 0))] g σ K := by
  obtain ⟨a1, a2, a3, a4, a5⟩ := h
  have z160 := a1.1
  have hN := gN_lx B z
  have t2 := a3.2.2.2.2
  obtain ⟨n1, n2⟩ := hN k a3
  unfold ptR at hs hfl
  have no : ¬ k.2.2.1 = 1000 + i → K 0 σ := fun u => by
    rw [if_neg u] at hfl
    exact hfl rfl σ ⟨zfr_rf _ _, fun _ _ => rfl, fun _ _ => rfl, fun _ _ => ⟨rfl, rfl⟩⟩ a2.1
  refine s_X8_part hg (s_X8_takes hg ?_)
  rw [a2.2.2.1]
  refine k_119 a3 a4 (fun w => ?_) (fun w => z0 (no (by omega)))
  rw [a2.2.2.2.1 w]
  have hx := HX_lt (k.2.2.1 - 1000) (by omega)
  have hx2 := HX_lt i (by omega)
  have e4 := HX_ne (k.2.2.1 - 1000) (by omega) i (by omega)
  have e5 : k.2.2.1 = 1000 + i → HX.getD (k.2.2.1 - 1000) 0 = HX.getD i 0 := fun u => by rw [u, show 1000 + i - 1000 = i by omega]
  generalize HX.getD (k.2.2.1 - 1000) 0 = v1 at *
  generalize HX.getD i 0 = v2 at *
  have l1 : v1 < 2147483648 := Nat.lt_trans hx (by decide)
  have l2 : v2 < 2147483648 := Nat.lt_trans hx2 (by decide)
  refine i_eq v1 v2 rfl rfl l1 l2 (fun e => ?_) (fun e => z0 (no (fun u => e (e5 u))))
  have e3 := e4 e
  rw [if_pos (by omega)] at hs hfl
  have b3 := a3.2.2.1 (by omega)
  refine cm_next hg a1 a2.2.1 a3.2.1 (fun σ1 hf1 hk1 => z1 ⟨v_in hq (by omega), ?_⟩)
  have hk1 : mK σ1 (nXT B z k) := hk1
  rw [c_nI (n := q) (by omega), hf1.2 12 (by decide), a5]
  generalize hst : zsI (zsI (zsI (zsI (zsI (zsI σ1 62 q (nI c0)) 57 19 0) 57 20 0) 57 21 0) 57 22 0) 57 23 1 = σ2
  have o : ∀ j, j ≠ 19 → j ≠ 20 → j ≠ 21 → j ≠ 22 → j ≠ 23 → σ2 57 j = σ1 57 j := fun j h1 h2 h3 h4 h5 => by rw [← hst, zsI_no (Or.inr h5), zsI_no (Or.inr h4), zsI_no (Or.inr h3), zsI_no (Or.inr h2), zsI_no (Or.inr h1), zsI_no (Or.inl (by decide))]
  have oo : ∀ a, a ≠ 57 → a ≠ 62 → σ2 a = σ1 a := fun a ha hb => by rw [← hst, zsI_ne ha, zsI_ne ha, zsI_ne ha, zsI_ne ha, zsI_ne ha, zsI_ne hb]
  have o62 : σ2 62 q = nI c0 ∧ ∀ j, j ≠ q → σ2 62 j = σ1 62 j := by
    refine ⟨?_, fun j hj => ?_⟩
    · rw [← hst, zsI_no (Or.inl (by decide)), zsI_no (Or.inl (by decide)), zsI_no (Or.inl (by decide)), zsI_no (Or.inl (by decide)), zsI_no (Or.inl (by decide)), zsI_at]
    · rw [← hst, zsI_no (Or.inl (by decide)), zsI_no (Or.inl (by decide)), zsI_no (Or.inl (by decide)), zsI_no (Or.inl (by decide)), zsI_no (Or.inl (by decide)), zsI_no (Or.inr hj)]
  have P1 := mP_7 a1 hf1 (by decide)
  have Q : mQ σ2 z B c0 σ2 (nXT B z k) [] [] false false true (nXT B z k).1 := by
    refine ⟨⟨by show 0 + 0 ≤ 160; omega, by omega, ?_, ?_, ?_, trivial, fun i x hx => by simp at hx, fun w hw => by simp at hw⟩, ⟨P1.1, by rw [o 6 (by omega) (by omega) (by omega) (by omega) (by omega)]; exact P1.2.1, fun i hi => by rw [oo 61 (by decide) (by decide)]; exact P1.2.2 i hi⟩, ⟨by rw [o 13 (by omega) (by omega) (by omega) (by omega) (by omega)]; exact hk1.1, by rw [o 14 (by omega) (by omega) (by omega) (by omega) (by omega)]; exact hk1.2.1, by rw [o 15 (by omega) (by omega) (by omega) (by omega) (by omega)]; exact hk1.2.2.1, fun u => by rw [o 17 (by omega) (by omega) (by omega) (by omega) (by omega)]; exact hk1.2.2.2.1 u, fun u => by rw [o 16 (by omega) (by omega) (by omega) (by omega) (by omega)]; exact hk1.2.2.2.2 u⟩, n1, lxX_tk, by show 0 + 0 ≤ _; omega, ?_, ?_, ?_, zfr_rf _ _, fun _ _ => rfl, fun _ _ => rfl⟩
    · rw [o 12 (by omega) (by omega) (by omega) (by omega) (by omega), hf1.2 12 (by decide)]; exact a5
    · rw [← hst, zsI_no (by omega), zsI_no (by omega), zsI_no (by omega), zsI_no (by omega), zsI_at]; rfl
    · rw [← hst, zsI_no (by omega), zsI_no (by omega), zsI_no (by omega), zsI_at]; rfl
    · rw [← hst, zsI_no (by omega), zsI_no (by omega), zsI_at]; rfl
    · rw [← hst, zsI_no (by omega), zsI_at]; rfl
    · rw [← hst, zsI_at]; rfl
  have F2 : fPt c0 q σ σ2 := by
    refine ⟨?_, fun j hj => ?_, fun j hj => ?_, fun j hj => ⟨?_, ?_⟩⟩
    · rw [← hst]
      exact zfr_put (zfr_put (zfr_put (zfr_put (zfr_put (zfr_put (zfr_up hf1.1 (by decide)) (by decide)) (by decide)) (by decide)) (by decide)) (by decide)) (by decide)
    · rw [o j (fun e => hj (by rw [e]; decide)) (fun e => hj (by rw [e]; decide)) (fun e => hj (by rw [e]; decide)) (fun e => hj (by rw [e]; decide)) (fun e => hj (by rw [e]; decide))]
      exact hf1.2 j (fun u => hj (by unfold LSX; simp at u ⊢; omega))
    · rw [oo 64 (by decide) (by decide), hf1.1 64 (by decide)]
    · rw [o62.2 j hj, hf1.1 62 (by decide)]
    · rw [oo 63 (by decide) (by decide), hf1.1 63 (by decide)]
  have FF : ∀ {σ' : zI}, mFr σ2 c0 σ' → fPt c0 q σ σ' := fun hfr => by
    refine ⟨zfr_tr F2.1 (zfr_up hfr.1 (by decide)), fun j hj => ?_, fun j hj => ?_, fun j hj => ⟨?_, ?_⟩⟩
    · rw [hfr.2.1 j hj]; exact F2.2.1 j hj
    · rw [hfr.2.2 j hj]; exact F2.2.2.1 j hj
    · rw [hfr.1 62 (by decide)]; exact (F2.2.2.2 j hj).1
    · rw [hfr.1 63 (by decide)]; exact (F2.2.2.2 j hj).2
  refine mI_all (σ0 := σ2) (z := z) (B := B) (c0 := c0) (d := d) (K := K) (l1 := nI q) hg σ2 (nXT B z k) [] [] false true Q (fun w W' e => by cases e) rfl (fun _ => rfl) (fun _ => rfl) (fun u => by cases u) (fun e1 σ3 W3 cs3 cm3 st3 hQ3 hl3 _ hT3 => ?_) (fun e1 σ3 h13 hfr => ?_)
  · rw [bnd2_t e1] at hs hfl
    obtain ⟨g1, g2, g3, g4⟩ := etR_gd hN _ n1 e1
    have hl3 : layX 1 W3 cs3 = ([], (etR (nXT B z) z (lvR (nXT B z) z 5).2 (nXT B z k)).2.2) := hl3
    by_cases c59 : (etR (nXT B z) z (lvR (nXT B z) z 5).2 (nXT B z k)).2.1.2.2.1 = 59
    · rw [if_pos c59] at hs
      have b5 := g1.2.2.1 (by omega)
      obtain ⟨m1, m2⟩ := hN _ g1
      refine m_behind hg hQ3 (fun _ => cm_lays (m := 1) (d := d + 2) hg (by omega) (by omega) hQ3.1 (fun σ4 hC4 hD4 => ?_)) (fun u => absurd c59 u)
      rw [hl3] at hC4
      obtain ⟨c1, c2, c3, c4, c5, c6, c7, c8⟩ := hC4
      have fr4 := mFr_D hQ3.2.2.2.2.2.2.2.2.2 hD4
      have s62 : σ4 62 q = nI c0 := by rw [fr4.1 62 (by decide)]; exact o62.1
      have k4 := mK_D hQ3.2.2.1 hD4.2.1
      have P4 : mP σ4 z B := ⟨z160, by rw [hD4.2.1 6 (by decide)]; exact hQ3.2.1.2.1, fun i hi => by rw [hD4.1 61 (by decide)]; exact hQ3.2.1.2.2 i hi⟩
      have c3 : σ4 57 12 = nI (c0 + (etR (nXT B z) z (lvR (nXT B z) z 5).2 (nXT B z k)).2.2.length) := c3
      have c7 : ∀ i x, (etR (nXT B z) z (lvR (nXT B z) z 5).2 (nXT B z k)).2.2[i]? = some x → σ4 64 (c0 + i) = nI x := c7
      rw [c4, if_pos (show nI ([] : List Nat).length ≤ 0 by decide), c_nI (n := q) (by omega), s62, c3, pk_sub (by omega), show c0 + (etR (nXT B z) z (lvR (nXT B z) z 5).2 (nXT B z k)).2.2.length - c0 = (etR (nXT B z) z (lvR (nXT B z) z 5).2 (nXT B z k)).2.2.length by omega]
      generalize hR : etR (nXT B z) z (lvR (nXT B z) z 5).2 (nXT B z k) = R at *
      have n7 : ∀ a, a ≠ 63 → zsI σ4 63 q (nI R.2.2.length) a = σ4 a := fun a ha => zsI_ne ha
      have k5 : mK (zsI σ4 63 q (nI R.2.2.length)) R.2.1 := by
        unfold mK
        rw [n7 57 (by decide)]
        exact k4
      have P5 : mP (zsI σ4 63 q (nI R.2.2.length)) z B := ⟨z160, by rw [n7 57 (by decide)]; exact P4.2.1, fun i hi => by rw [n7 61 (by decide)]; exact P4.2.2 i hi⟩
      refine ⟨v_in hq (by omega), v_in hq (by omega), cm_next hg P5 k5.2.1 g1.2.1 (fun σ5 hf5 hk5 => hs rfl σ5 ⟨mP_7 P5 hf5 (by decide), hk5, m1, lxX_tk, ?_⟩ ?_ ⟨?_, ?_, ?_⟩)⟩
      · rw [hf5.2 12 (by decide), n7 57 (by decide)]; exact c3
      · have f4 := FF fr4
        refine ⟨zfr_tr (zfr_put f4.1 (by decide)) (zfr_up hf5.1 (by decide)), fun j hj => ?_, fun j hj => ?_, fun j hj => ⟨?_, ?_⟩⟩
        · rw [hf5.2 j (fun u => hj (by unfold LSX; simp at u ⊢; omega)), n7 57 (by decide)]; exact f4.2.1 j hj
        · rw [hf5.1 64 (by decide), n7 64 (by decide)]; exact f4.2.2.1 j hj
        · rw [hf5.1 62 (by decide), n7 62 (by decide)]; exact (f4.2.2.2 j hj).1
        · rw [hf5.1 63 (by decide), zsI_no (Or.inr hj)]; exact (f4.2.2.2 j hj).2
      · rw [hf5.1 62 (by decide), n7 62 (by decide)]; exact s62
      · rw [hf5.1 63 (by decide), zsI_at]
      · intro i x hx
        rw [hf5.1 64 (by decide), n7 64 (by decide)]
        exact c7 i x hx
    · rw [if_neg c59] at hfl
      exact m_stuck hg hQ3 (sgX_TF hT3) (fun _ => by rw [hl3]) (fun u => absurd u c59) (fun σ' h13 hfr => hfl rfl σ' (FF hfr) h13)
  · rw [bnd2_f e1] at hfl
    exact hfl rfl σ3 (FF hfr) h13
end
