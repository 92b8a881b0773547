/-! text(): the reference, the call -/
def g0X (T c0 : Nat) (σ σ' : zI) : Prop := zfr [57, 62, 63, 64, 65] σ σ' ∧ (∀ j, j ∉ LSX → σ' 57 j = σ 57 j) ∧ (∀ j, j < c0 → σ' 64 j = σ 64 j) ∧ ∀ j, j < 3 * T → σ' 62 j = σ 62 j ∧ σ' 63 j = σ 63 j
theorem g0X_tr {T c0 c1 q : Nat} {σ σ1 σ2 : zI} (h : g0X T c0 σ σ1) (h2 : fPt c1 q σ1 σ2) (hc : c0 ≤ c1) (hq : 3 * T ≤ q) : g0X T c0 σ σ2 := by
  refine ⟨zfr_tr h.1 h2.1, fun j hj => (h2.2.1 j hj).trans (h.2.1 j hj), fun j hj => (h2.2.2.1 j (by omega)).trans (h.2.2.1 j hj), fun j hj => ?_⟩
  obtain ⟨a1, a2⟩ := h2.2.2.2 j (by omega)
  obtain ⟨b1, b2⟩ := h.2.2.2 j hj
  exact ⟨a1.trans b1, a2.trans b2⟩
theorem mR1_fr {q q2 c c2 : Nat} {o : List Nat} {σ σ1 : zI} (h : mR1 σ q c o) (hf : fPt c2 q2 σ σ1) (hq : q ≠ q2) (hc : c + o.length ≤ c2) : mR1 σ1 q c o := by
  obtain ⟨a1, a2⟩ := hf.2.2.2 q hq
  refine ⟨a1.trans h.1, a2.trans h.2.1, fun i x hx => ?_⟩
  have hi : i < o.length := (List.getElem?_eq_some_iff.mp hx).1
  rw [hf.2.2.1 _ (by omega)]
  exact h.2.2 i x hx
section
variable {d : Nat} {g : zG} {σ : zI} {z c0 : Nat} {B : Nat → Nat}
theorem cm_text {K : Int32 → zI → Prop} (hg : zGA g) {T R dy : Nat} {P : Nat → Nat → List Nat} (ht : mTx σ T R dy P) (hP : mP σ z B) (hc : mTc σ T P c0) (h6 : T = 6 → K (-4) σ)
    (hs : ∀ a b e, T < 6 → txX B z = Sum.inr (a, b, e) → ∀ σ' c1, zfr [57, 62, 63, 64, 65] σ σ' → (∀ j, j ∉ 6 :: 8 :: LSX → σ' 57 j = σ 57 j) → mTx σ' (T + 1) R dy (upPX P T a b e) → mP σ' 0 B → mTc σ' (T + 1) (upPX P T a b e) c1 → K (nI T) σ')
    (hfl : ∀ p, T < 6 → txX B z = Sum.inl p → p ≤ z → ∀ σ', zfr [57, 62, 63, 64, 65] σ σ' → (∀ j, j ∉ 6 :: 8 :: LSX → σ' 57 j = σ 57 j) → mTx σ' T R dy P → mP σ' 0 B → mTc σ' T P c0 → K ((-100) - nI p) σ') : zCI mX8_text (d + 5) [.ref 57] g σ K := by
  have hN := gN_lx B z
  have z160 := hP.1
  obtain ⟨t0, t1, t2, t3, t4, t5, t6⟩ := ht
  obtain ⟨u1, u2, u3⟩ := hc
  refine s_X8_text hg ?_
  rw [t5]
  refine i_eq T 6 rfl rfl (by omega) (by omega) h6 (fun hne => ?_)
  have hT : T < 6 := by omega
  have eT : txX B z = tx1 (nXT B z) z (ptR (nXT B z) z 1006 (lxX B z 0)) := rfl
  obtain ⟨k0, _⟩ := lxX_ok (B := B) (Nat.zero_le z)
  have ktk : tkB (lxX B z 0).2.2.1 = true := lxX_tk
  have Pa : mP (zsI σ 57 14 0) z B := ⟨z160, by rw [zsI_no (by omega)]; exact hP.2.1, fun i hi => by rw [zsI_ne (by decide)]; exact hP.2.2 i hi⟩
  refine cm_next (d := d + 3) (p := 0) hg Pa zsI_at (by omega) (fun σ1 hf1 hk1 => ?_)
  have G1 : g0X T c0 σ σ1 := by
    refine ⟨zfr_tr (zfr_put (zfr_rf _ _) (by decide)) (zfr_up hf1.1 (by decide)), fun j hj => ?_, fun j hj => ?_, fun j hj => ⟨?_, ?_⟩⟩
    · rw [hf1.2 j (fun u => hj (by unfold LSX; simp at u ⊢; omega)), zsI_no (Or.inr (fun e => hj (by rw [e]; decide)))]
    · rw [hf1.1 64 (by decide), zsI_ne (by decide)]
    · rw [hf1.1 62 (by decide), zsI_ne (by decide)]
    · rw [hf1.1 63 (by decide), zsI_ne (by decide)]
  have M1 : mT3 σ1 z B (lxX B z 0) c0 := ⟨mP_7 Pa hf1 (by decide), hk1, k0, ktk, by rw [hf1.2 12 (by decide), zsI_no (by omega)]; exact u1⟩
  have kb0 := k0.1
  have ke0 := k0.2.1
  generalize lxX B z 0 = k1 at *
  have t8 : ∀ {σ' : zI}, g0X T c0 σ σ' → σ' 57 8 = nI T := fun h => by rw [h.2.1 8 (by decide)]; exact t5
  -- what a FAULT leaves
  have keepT : ∀ {σ' : zI}, g0X T c0 σ σ' → mTx (zsI (zsI σ' 57 6 0) 57 12 (nI c0)) T R dy P ∧ mTc (zsI (zsI σ' 57 6 0) 57 12 (nI c0)) T P c0 := fun {σ'} h => by
    have w : ∀ j, j ≠ 6 → j ≠ 12 → zsI (zsI σ' 57 6 0) 57 12 (nI c0) 57 j = σ' 57 j := fun j h1 h2 => by rw [zsI_no (Or.inr h2), zsI_no (Or.inr h1)]
    refine ⟨⟨t0, t1, t2, ?_, ?_, ?_, fun t ht q hq => ?_⟩, zsI_at, u2, fun t ht q hq b hb hbe => ?_⟩
    · rw [w 0 (by omega) (by omega), h.2.1 0 (by decide)]; exact t3
    · rw [w 5 (by omega) (by omega), h.2.1 5 (by decide)]; exact t4
    · rw [w 8 (by omega) (by omega), h.2.1 8 (by decide)]; exact t5
    · obtain ⟨a1, b, a2, a3, a4, a5⟩ := t6 t ht q hq
      have bl := u3 t ht q hq b (by omega) a2
      obtain ⟨g1, g2⟩ := h.2.2.2 (3 * t + q) (by omega)
      refine ⟨a1, b, by rw [zsI_ne (by decide), zsI_ne (by decide), g1]; exact a2, by rw [zsI_ne (by decide), zsI_ne (by decide), g2]; exact a3, a4, fun i c hc => ?_⟩
      have hi : i < (P t q).length := (List.getElem?_eq_some_iff.mp hc).1
      rw [zsI_ne (by decide), zsI_ne (by decide), h.2.2.1 _ (by omega)]
      exact a5 i c hc
    · rw [zsI_ne (by decide), zsI_ne (by decide), (h.2.2.2 (3 * t + q) (by omega)).1] at hbe
      exact u3 t ht q hq b hb hbe
  have bad : ∀ {σ' : zI} {p : Nat}, g0X T c0 σ σ' → txX B z = Sum.inl p → p ≤ z → σ' 57 13 = nI p → K ((-100) - (σ' 57 13)) (zsI (zsI σ' 57 6 0) 57 12 (σ 57 12)) := fun {σ'} {p} h he hp h13 => by
    rw [h13, u1]
    obtain ⟨x1, x2⟩ := keepT h
    refine hfl p hT he hp _ (zfr_put (zfr_put h.1 (by decide)) (by decide)) (fun j hj => ?_) x1 ⟨by omega, ?_, fun i hi => by omega⟩ x2
    · rw [zsI_no (Or.inr (fun e => hj (by rw [e]; decide))), zsI_no (Or.inr (fun e => hj (by rw [e]; decide)))]
      exact h.2.1 j (fun u => hj (by simp; exact Or.inr (Or.inr u)))
    · rw [zsI_no (by omega), zsI_at]; rfl
  rw [t8 G1, show (3 : Int32) * nI T = nI (3 * T) from pk_mul 3 T, show (375400 : Int32) = nI (HX.getD 6 0) by decide]
  refine cm_part (d := d) (q := 3 * T) (i := 6) hg (by omega) (by omega) M1 (by omega) (fun e σ2 M2 F2 R2 => z1 ?_) (fun e σ2 F2 h13 => z0 ?_)
  · have e : (ptR (nXT B z) z 1006 k1).1 = true := e
    have M2 : mT3 σ2 z B (ptR (nXT B z) z 1006 k1).2.1 (c0 + (ptR (nXT B z) z 1006 k1).2.2.length) := M2
    have R2 : mR1 σ2 (3 * T) c0 (ptR (nXT B z) z 1006 k1).2.2 := R2
    rw [show tx1 (nXT B z) z (ptR (nXT B z) z 1006 k1) = tx2 (nXT B z) z (ptR (nXT B z) z 1007 (ptR (nXT B z) z 1006 k1).2.1) (ptR (nXT B z) z 1006 k1).2.2 from if_pos e] at eT
    obtain ⟨g1, g2, g3⟩ := ptR_gd hN (by omega) k0 e
    have G2 := g0X_tr G1 F2 (Nat.le_refl _) (Nat.le_refl _)
    generalize ptR (nXT B z) z 1006 k1 = r1 at *
    have g8 := g1.1
    have g9 := g1.2.1
    rw [t8 G2, show (3 : Int32) * nI T = nI (3 * T) from pk_mul 3 T, nI_1 (3 * T), show (7008275 : Int32) = nI (HX.getD 7 0) by decide]
    refine cm_part (d := d) (q := 3 * T + 1) (i := 7) hg (by omega) (by omega) M2 (by omega) (fun e2 σ3 M3 F3 R3 => z1 ?_) (fun e2 σ3 F3 h13 => z0 ?_)
    · have e2 : (ptR (nXT B z) z 1007 r1.2.1).1 = true := e2
      have M3 : mT3 σ3 z B (ptR (nXT B z) z 1007 r1.2.1).2.1 (c0 + r1.2.2.length + (ptR (nXT B z) z 1007 r1.2.1).2.2.length) := M3
      have R3 : mR1 σ3 (3 * T + 1) (c0 + r1.2.2.length) (ptR (nXT B z) z 1007 r1.2.1).2.2 := R3
      rw [show tx2 (nXT B z) z (ptR (nXT B z) z 1007 r1.2.1) r1.2.2 = tx3 (ptR (nXT B z) z 1008 (ptR (nXT B z) z 1007 r1.2.1).2.1) r1.2.2 (ptR (nXT B z) z 1007 r1.2.1).2.2 from if_pos e2] at eT
      obtain ⟨h1, h2, h3⟩ := ptR_gd hN (by omega) g1 e2
      have G3 := g0X_tr G2 F3 (Nat.le_add_right _ _) (by omega)
      have R2' := mR1_fr R2 F3 (by omega) (Nat.le_refl _)
      generalize ptR (nXT B z) z 1007 r1.2.1 = r2 at *
      have h8 := h1.1
      have h9 := h1.2.1
      rw [t8 G3, show (3 : Int32) * nI T = nI (3 * T) from pk_mul 3 T, show nI (3 * T) + 2 = nI (3 * T + 2) from nI_add _ 2, show (12532058 : Int32) = nI (HX.getD 8 0) by decide]
      refine cm_part (d := d) (q := 3 * T + 2) (i := 8) hg (by omega) (by omega) M3 (by omega) (fun e3 σ4 M4 F4 R4 => z1 ?_) (fun e3 σ4 F4 h13 => z0 ?_)
      · have e3 : (ptR (nXT B z) z 1008 r2.2.1).1 = true := e3
        have M4 : mT3 σ4 z B (ptR (nXT B z) z 1008 r2.2.1).2.1 (c0 + r1.2.2.length + r2.2.2.length + (ptR (nXT B z) z 1008 r2.2.1).2.2.length) := M4
        have R4 : mR1 σ4 (3 * T + 2) (c0 + r1.2.2.length + r2.2.2.length) (ptR (nXT B z) z 1008 r2.2.1).2.2 := R4
        rw [show tx3 (ptR (nXT B z) z 1008 r2.2.1) r1.2.2 r2.2.2 = if (ptR (nXT B z) z 1008 r2.2.1).2.1.2.2.1 = 1 then Sum.inr (r1.2.2, r2.2.2, (ptR (nXT B z) z 1008 r2.2.1).2.2) else Sum.inl (ptR (nXT B z) z 1008 r2.2.1).2.1.1 from if_pos e3] at eT
        obtain ⟨i1, i2, i3⟩ := ptR_gd hN (by omega) h1 e3
        have G4 := g0X_tr G3 F4 (by omega) (by omega)
        have R2'' := mR1_fr R2' F4 (by omega) (by omega)
        have R3' := mR1_fr R3 F4 (by omega) (Nat.le_refl _)
        generalize ptR (nXT B z) z 1008 r2.2.1 = r3 at *
        have i8 := i1.1
        have i9 := i1.2.1
        have tt := i1.2.2.2.2
        have q101 := tk_101 r3.2.1.2.2.1 (by omega) M4.2.2.2.1
        rw [M4.2.1.2.2.1]
        by_cases y : r3.2.1.2.2.1 = 1
        · rw [if_pos y] at eT
          rw [if_pos (q101.mpr y), t8 G4, nI_1 T]
          have w : ∀ j, j ≠ 6 → j ≠ 8 → zsI (zsI σ4 57 6 0) 57 8 (nI (T + 1)) 57 j = σ4 57 j := fun j h1 h2 => by rw [zsI_no (Or.inr h2), zsI_no (Or.inr h1)]
          have sel : ∀ q, q < 3 → ∃ b c, mR1 σ4 (3 * T + q) b (sel3 r1.2.2 r2.2.2 r3.2.2 q) ∧ okp (sel3 r1.2.2 r2.2.2 r3.2.2 q) 0 ∧ b + (sel3 r1.2.2 r2.2.2 r3.2.2 q).length ≤ c ∧ c ≤ c0 + r1.2.2.length + r2.2.2.length + r3.2.2.length := fun q hq => by
            rcases (show q = 0 ∨ q = 1 ∨ q = 2 by omega) with rfl | rfl | rfl
            · exact ⟨_, _, R2'', g3, Nat.le_refl _, by show c0 + r1.2.2.length ≤ _; omega⟩
            · exact ⟨_, _, R3', h3, Nat.le_refl _, by show c0 + r1.2.2.length + r2.2.2.length ≤ _; omega⟩
            · exact ⟨_, _, R4, i3, Nat.le_refl _, by show c0 + r1.2.2.length + r2.2.2.length + r3.2.2.length ≤ _; omega⟩
          refine hs _ _ _ hT eT _ (c0 + r1.2.2.length + r2.2.2.length + r3.2.2.length) (zfr_put (zfr_put G4.1 (by decide)) (by decide)) (fun j hj => ?_) ⟨by omega, by omega, t2, ?_, ?_, zsI_at, fun t ht q hq => ?_⟩ ⟨by omega, ?_, fun i hi => by omega⟩ ⟨?_, by omega, fun t ht q hq b hb hbe => ?_⟩
          · rw [w j (fun e => hj (by rw [e]; decide)) (fun e => hj (by rw [e]; decide))]
            exact G4.2.1 j (fun u => hj (by simp; exact Or.inr (Or.inr u)))
          · rw [w 0 (by omega) (by omega), G4.2.1 0 (by decide)]; exact t3
          · rw [w 5 (by omega) (by omega), G4.2.1 5 (by decide)]; exact t4
          · by_cases c : t = T
            · subst c
              obtain ⟨b, c, s1, s2, s3, s4⟩ := sel q hq
              have eP : upPX P t r1.2.2 r2.2.2 r3.2.2 t q = sel3 r1.2.2 r2.2.2 r3.2.2 q := if_pos rfl
              rw [eP]
              exact ⟨s2, b, by rw [zsI_ne (by decide), zsI_ne (by decide)]; exact s1.1, by rw [zsI_ne (by decide), zsI_ne (by decide)]; exact s1.2.1, by omega, fun i x hx => by rw [zsI_ne (by decide), zsI_ne (by decide)]; exact s1.2.2 i x hx⟩
            · have eP : upPX P T r1.2.2 r2.2.2 r3.2.2 t q = P t q := if_neg c
              rw [eP]
              obtain ⟨a1, b, a2, a3, a4, a5⟩ := t6 t (by omega) q hq
              have bl := u3 t (by omega) q hq b (by omega) a2
              obtain ⟨g1, g2⟩ := G4.2.2.2 (3 * t + q) (by omega)
              refine ⟨a1, b, by rw [zsI_ne (by decide), zsI_ne (by decide), g1]; exact a2, by rw [zsI_ne (by decide), zsI_ne (by decide), g2]; exact a3, a4, fun i c hc => ?_⟩
              have hi : i < (P t q).length := (List.getElem?_eq_some_iff.mp hc).1
              rw [zsI_ne (by decide), zsI_ne (by decide), G4.2.2.1 _ (by omega)]
              exact a5 i c hc
          · rw [zsI_no (by omega), zsI_at]; rfl
          · rw [w 12 (by omega) (by omega)]
            exact M4.2.2.2.2
          · rw [zsI_ne (by decide), zsI_ne (by decide)] at hbe
            by_cases c : t = T
            · subst c
              obtain ⟨b', c, s1, s2, s3, s4⟩ := sel q hq
              have eP : upPX P t r1.2.2 r2.2.2 r3.2.2 t q = sel3 r1.2.2 r2.2.2 r3.2.2 q := if_pos rfl
              rw [eP]
              have := (nI_eq (a := b) (b := b') (by omega) (by omega)).mp (hbe.symm.trans s1.1)
              omega
            · have eP : upPX P T r1.2.2 r2.2.2 r3.2.2 t q = P t q := if_neg c
              rw [eP]
              rw [(G4.2.2.2 (3 * t + q) (by omega)).1] at hbe
              have := u3 t (by omega) q hq b hb hbe
              omega
        · rw [if_neg y] at eT
          rw [if_neg (fun u => y (q101.mp u))]
          exact bad G4 eT (by omega) M4.2.1.1
      · have e3 : (ptR (nXT B z) z 1008 r2.2.1).1 = false := e3
        rw [show tx3 (ptR (nXT B z) z 1008 r2.2.1) r1.2.2 r2.2.2 = Sum.inl (ptR (nXT B z) z 1008 r2.2.1).2.1.1 from if_neg (by rw [e3]; decide)] at eT
        exact bad (g0X_tr G3 F4 (by omega) (by omega)) eT (okA_pt hN h1) h13
    · have e2 : (ptR (nXT B z) z 1007 r1.2.1).1 = false := e2
      rw [show tx2 (nXT B z) z (ptR (nXT B z) z 1007 r1.2.1) r1.2.2 = Sum.inl (ptR (nXT B z) z 1007 r1.2.1).2.1.1 from if_neg (by rw [e2]; decide)] at eT
      exact bad (g0X_tr G2 F3 (Nat.le_add_right _ _) (by omega)) eT (okA_pt hN g1) h13
  · have e : (ptR (nXT B z) z 1006 k1).1 = false := e
    rw [show tx1 (nXT B z) z (ptR (nXT B z) z 1006 k1) = Sum.inl (ptR (nXT B z) z 1006 k1).2.1.1 from if_neg (by rw [e]; decide)] at eT
    exact bad (g0X_tr G1 F2 (Nat.le_refl _) (Nat.le_refl _)) eT (okA_pt hN k0) h13
end
