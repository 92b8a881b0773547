/-! the reference reads by the same grammar -/
def TFX (m t : Nat) (cm : Bool) : Prop := (m ≤ 6 → t ≠ 42) ∧ (m ≤ 5 → t ≠ 43 ∧ t ≠ 45) ∧ (m ≤ 4 → (t = 60 ∨ t = 61) → cm = true) ∧ (m ≤ 2 → t ≠ 1010) ∧ (m ≤ 1 → t ≠ 1009)
def mI (g : zG) (σ0 : zI) (z : Nat) (B : Nat → Nat) (c0 d : Nat) (K : Int32 → zI → Prop) (l1 : Int32) (m h : Nat) (cq sq : Bool) (r : Nat) (f : zTk → zRs) : Prop :=
  ∀ (σ : zI) (k : zTk) (W cs : List Nat) (cm st : Bool), mQ σ0 z B c0 σ k W cs cm false st k.1 → hdX h W → opn W + r = 5 → (cq = true → cm = false) → (sq = true → st = true) → (sq = false → (st = false ∨ k.2.2.1 ≠ 1011)) →
    ((f k).1 = true → ∀ σ' W' cs' cm' st', mQ σ0 z B c0 σ' (f k).2.1 W' cs' cm' true st' (f k).2.1.1 → layX m W' cs' = layX m W (cs ++ (f k).2.2) → (cq = false → cm' = cm) → TFX m (f k).2.1.2.2.1 cm' → p_X8_part_45 (d + 3) g K σ' l1) →
    ((f k).1 = false → ∀ σ', σ' 57 13 = nI (f k).2.1.1 → mFr σ0 c0 σ' → K 0 σ') → p_X8_part_45 (d + 3) g K σ l1
theorem opn_op {c : Nat} {W : List Nat} (h1 : 6 ≤ c) (h2 : c ≤ 12) : opn (c :: W) = opn W := by
  show (if c = 13 ∨ c = 14 ∨ c = 100 ∨ c = 101 then 1 else 0) + opn W = _
  rw [if_neg (by omega), Nat.zero_add]
theorem opn_br {c : Nat} {W : List Nat} (h : c = 13 ∨ c = 14 ∨ c = 100 ∨ c = 101) : opn (c :: W) = opn W + 1 := by
  show (if c = 13 ∨ c = 14 ∨ c = 100 ∨ c = 101 then 1 else 0) + opn W = _
  rw [if_pos h, Nat.add_comm]
section
variable {d : Nat} {g : zG} {σ0 : zI} {z c0 : Nat} {B : Nat → Nat} {K : Int32 → zI → Prop} {l1 : Int32}
theorem mI_chain {mo ho m r D : Nat} {cq sq : Bool} {op : Nat → Option Nat} {f : zTk → zRs} (hg : zGA g) (hf : mI g σ0 z B c0 d K l1 mo ho cq sq r f) (hgd : gd z D f) (hgO : gO op) (hmo : m < mo) (hho : m < ho) (hm4 : m ≠ 4) (hq : cq = decide (m < 3)) (hs : sq = decide (m < 3))
    (hop : ∀ t c, op t = some c → rkX c = m ∧ ∀ cm, sgX t cm = some c) (hTF : ∀ t cm, TFX mo t cm → op t = none → TFX m t cm) : mI g σ0 z B c0 d K l1 m m cq sq r (chn (nXT B z) z f op) := by
  intro σ k W cs cm st hQ hh ho hc hst hst2 ks kf
  unfold chn at ks kf
  have hk := hQ.2.2.2.1
  refine hf σ k W cs cm st hQ (hdX_up hh (by omega)) ho hc hst hst2 (fun e σ1 W1 cs1 cm1 st1 hQ1 hl1 hc1 hT1 => ?_) (fun e σ1 h13 hfr => ?_)
  · rw [bnd2_t e] at ks kf
    obtain ⟨a1, a2, a3, a4⟩ := hgd k hk e
    have key : ∀ (r' i : Nat) (σ2 : zI) (k2 : zTk) (W2 cs2 : List Nat) (cm2 st2 : Bool) (o2 : List Nat), i + r' = z → mQ σ0 z B c0 σ2 k2 W2 cs2 cm2 true st2 k2.1 → layX m W2 cs2 = (W, cs ++ o2) → (cq = false → cm2 = cm) → TFX mo k2.2.2.1 cm2 → (k2.2.2.1 ≠ 1 → i < k2.2.1) →
        ((chR (nXT B z) f op r' k2 o2).1 = true → ∀ σ' W' cs' cm' st', mQ σ0 z B c0 σ' (chR (nXT B z) f op r' k2 o2).2.1 W' cs' cm' true st' (chR (nXT B z) f op r' k2 o2).2.1.1 → layX m W' cs' = layX m W (cs ++ (chR (nXT B z) f op r' k2 o2).2.2) → (cq = false → cm' = cm) → TFX m (chR (nXT B z) f op r' k2 o2).2.1.2.2.1 cm' → p_X8_part_45 (d + 3) g K σ' l1) →
        ((chR (nXT B z) f op r' k2 o2).1 = false → ∀ σ', σ' 57 13 = nI (chR (nXT B z) f op r' k2 o2).2.1.1 → mFr σ0 c0 σ' → K 0 σ') → p_X8_part_45 (d + 3) g K σ2 l1 := by
      intro r'
      induction r' with
      | zero =>
        intro i σ2 k2 W2 cs2 cm2 st2 o2 hr hQ2 hl2 hc2 hT2 hJ ks kf
        cases hoo : op k2.2.2.1 with
        | none => exact ks rfl σ2 W2 cs2 cm2 st2 hQ2 (by rw [hl2]; exact (layX_hd hh _).symm) hc2 (hTF _ _ hT2 hoo)
        | some c =>
          exfalso
          have := hJ (hgO _ _ hoo).1
          have := hQ2.2.2.2.1.2.1
          omega
      | succ r' ih =>
        intro i σ2 k2 W2 cs2 cm2 st2 o2 hr hQ2 hl2 hc2 hT2 hJ ks kf
        cases hoo : op k2.2.2.1 with
        | none =>
          rw [chR_n hoo] at ks
          exact ks rfl σ2 W2 cs2 cm2 st2 hQ2 (by rw [hl2]; exact (layX_hd hh _).symm) hc2 (hTF _ _ hT2 hoo)
        | some c =>
          rw [chR_y hoo] at ks kf
          obtain ⟨t1, c6, c12⟩ := hgO _ _ hoo
          obtain ⟨rk, hsg⟩ := hop _ _ hoo
          have hk2 := hQ2.2.2.2.1
          have j1 := hJ t1
          obtain ⟨n1, n2⟩ := gN_lx B z k2 hk2
          refine m_op (d := d) hg hQ2 (hsg cm2) (fun σ3 hQ3 => ?_)
          rw [rk, hl2] at hQ3
          refine hf σ3 (nXT B z k2) (c :: W) (cs ++ o2) _ _ hQ3 (hdX_c (by omega)) (by rw [opn_op c6 c12]; exact ho) (fun q => ?_) (fun q => ?_) (fun q => ?_) (fun e2 σ4 W4 cs4 cm4 st4 hQ4 hl4 hc4 hT4 => ?_) (fun e2 σ4 h13 hfr => ?_)
          · rw [hq] at q
            rw [if_pos (of_decide_eq_true q)]
          · rw [hs] at q
            exact q
          · rw [hs] at q
            exact Or.inl q
          · rw [bnd2_t e2] at ks kf
            obtain ⟨b1, b2, b3, b4⟩ := hgd (nXT B z k2) n1 e2
            have n3 := n1.1
            have hl5 : layX m W4 cs4 = (W, cs ++ (o2 ++ (f (nXT B z k2)).2.2 ++ [c])) := by
              rw [layX_eq (by omega : m ≤ mo) hl4, layX_y (by omega : m ≤ rkX c), layX_hd hh]
              simp [List.append_assoc]
            refine ih (i + 1) σ4 _ W4 cs4 cm4 st4 _ (by omega) hQ4 hl5 (fun q => ?_) hT4 (fun q => ?_) ks kf
            · rw [hc4 q]
              have q2 := q
              rw [hq] at q2
              rw [if_neg (of_decide_eq_false q2), if_neg hm4]
              exact hc2 q
            · have := b1.2.2.1 q
              omega
          · rw [bnd2_f e2] at kf
            exact kf rfl σ4 h13 hfr
    refine key z 0 σ1 _ W1 cs1 cm1 st1 _ (by omega) hQ1 (by rw [layX_eq (by omega : m ≤ mo) hl1]; exact layX_hd hh _) hc1 hT1 (fun q => ?_) ks kf
    have := a1.2.2.1 q
    omega
  · rw [bnd2_f e] at kf
    exact kf rfl σ1 h13 hfr
theorem mI_cmp {r D : Nat} {f : zTk → zRs} (hg : zGA g) (hf : mI g σ0 z B c0 d K l1 5 5 false false r f) (hgd : gd z D f) : mI g σ0 z B c0 d K l1 4 4 true false r (cmR (nXT B z) f) := by
  intro σ k W cs cm st hQ hh ho hc hst hst2 ks kf
  unfold cmR at ks kf
  have hk := hQ.2.2.2.1
  have cm0 := hc rfl
  subst cm0
  refine hf σ k W cs false st hQ (hdX_up hh (by omega)) ho (fun q => by cases q) (fun q => by cases q) hst2 (fun e σ1 W1 cs1 cm1 st1 hQ1 hl1 hc1 hT1 => ?_) (fun e σ1 h13 hfr => ?_)
  · rw [bnd2_t e] at ks kf
    have cm1' := hc1 rfl
    subst cm1'
    have hl4 : layX 4 W1 cs1 = (W, cs ++ (f k).2.2) := by rw [layX_eq (by omega : 4 ≤ 5) hl1]; exact layX_hd hh _
    cases hoo : opC (f k).2.1.2.2.1 with
    | none =>
      rw [hoo] at ks
      have n60 : (f k).2.1.2.2.1 ≠ 60 := fun u => by unfold opC at hoo; rw [if_pos u] at hoo; cases hoo
      have n61 : (f k).2.1.2.2.1 ≠ 61 := fun u => by unfold opC at hoo; rw [if_neg n60, if_pos u] at hoo; cases hoo
      exact ks rfl σ1 W1 cs1 false st1 hQ1 (by rw [hl4]; exact (layX_hd hh _).symm) (fun q => by cases q) ⟨fun _ => hT1.1 (by omega), fun _ => hT1.2.1 (by omega), fun _ u => (u.elim n60 n61).elim, fun u => by omega, fun u => by omega⟩
    | some c =>
      rw [hoo] at ks kf
      have ks : (bnd2 (f (nXT B z (f k).2.1)) (fun k2 o2 => (true, k2, (f k).2.2 ++ o2 ++ [c]))).1 = true → ∀ σ' W' cs' cm' st', mQ σ0 z B c0 σ' (bnd2 (f (nXT B z (f k).2.1)) (fun k2 o2 => (true, k2, (f k).2.2 ++ o2 ++ [c]))).2.1 W' cs' cm' true st' (bnd2 (f (nXT B z (f k).2.1)) (fun k2 o2 => (true, k2, (f k).2.2 ++ o2 ++ [c]))).2.1.1 → layX 4 W' cs' = layX 4 W (cs ++ (bnd2 (f (nXT B z (f k).2.1)) (fun k2 o2 => (true, k2, (f k).2.2 ++ o2 ++ [c]))).2.2) → (true = false → cm' = false) → TFX 4 (bnd2 (f (nXT B z (f k).2.1)) (fun k2 o2 => (true, k2, (f k).2.2 ++ o2 ++ [c]))).2.1.2.2.1 cm' → p_X8_part_45 (d + 3) g K σ' l1 := ks
      have kf : (bnd2 (f (nXT B z (f k).2.1)) (fun k2 o2 => (true, k2, (f k).2.2 ++ o2 ++ [c]))).1 = false → ∀ σ', σ' 57 13 = nI (bnd2 (f (nXT B z (f k).2.1)) (fun k2 o2 => (true, k2, (f k).2.2 ++ o2 ++ [c]))).2.1.1 → mFr σ0 c0 σ' → K 0 σ' := kf
      obtain ⟨t1, c6, c12⟩ := gO_C _ _ hoo
      have cc : (c = 9 ∨ c = 10) ∧ sgX (f k).2.1.2.2.1 false = some c := by
        unfold opC at hoo
        by_cases u : (f k).2.1.2.2.1 = 60
        · rw [if_pos u] at hoo
          cases hoo
          refine ⟨Or.inl rfl, ?_⟩
          unfold sgX
          rw [if_neg (by omega), if_neg (by omega), if_neg (by omega), if_pos u]
          rfl
        · by_cases u2 : (f k).2.1.2.2.1 = 61
          · rw [if_neg u, if_pos u2] at hoo
            cases hoo
            refine ⟨Or.inr rfl, ?_⟩
            unfold sgX
            rw [if_neg (by omega), if_neg (by omega), if_neg (by omega), if_neg u, if_pos u2]
            rfl
          · rw [if_neg u, if_neg u2] at hoo
            cases hoo
      have rk : rkX c = 4 := by rcases cc.1 with rfl | rfl <;> rfl
      obtain ⟨n1, n2⟩ := gN_lx B z _ hQ1.2.2.2.1
      refine m_op (d := d) hg hQ1 cc.2 (fun σ3 hQ3 => ?_)
      rw [rk, hl4] at hQ3
      refine hf σ3 _ (c :: W) (cs ++ (f k).2.2) _ _ hQ3 (hdX_c (by omega)) (by rw [opn_op c6 c12]; exact ho) (fun q => by cases q) (fun q => by cases q) (fun _ => Or.inl rfl) (fun e2 σ4 W4 cs4 cm4 st4 hQ4 hl5 hc4 hT4 => ?_) (fun e2 σ4 h13 hfr => ?_)
      · rw [bnd2_t e2] at ks
        have cm4' := hc4 rfl
        refine ks rfl σ4 W4 cs4 cm4 st4 hQ4 ?_ (fun q => by cases q) ⟨fun _ => hT4.1 (by omega), fun _ => hT4.2.1 (by omega), fun _ _ => by rw [cm4']; rfl, fun u => by omega, fun u => by omega⟩
        rw [layX_eq (by omega : 4 ≤ 5) hl5, layX_y (by omega : 4 ≤ rkX c)]
        show layX 4 W ((cs ++ (f k).2.2) ++ (f (nXT B z (f k).2.1)).2.2 ++ [c]) = layX 4 W (cs ++ ((f k).2.2 ++ (f (nXT B z (f k).2.1)).2.2 ++ [c]))
        simp [List.append_assoc]
      · rw [bnd2_f e2] at kf
        exact kf rfl σ4 h13 hfr
  · rw [bnd2_f e] at kf
    exact kf rfl σ1 h13 hfr
theorem mI_not {r : Nat} {cmp : zTk → zRs} {low : Option (zTk → zRs)} (hg : zGA g) (hf : mI g σ0 z B c0 d K l1 4 4 true false r cmp) (h0 : r = 0 → low = none) (h1 : 0 < r → ∃ n, low = some n ∧ mI g σ0 z B c0 d K l1 3 4 true true (r - 1) n) : mI g σ0 z B c0 d K l1 3 4 true true r (ntR (nXT B z) cmp low) := by
  intro σ k W cs cm st hQ hh ho hc hst hst2 ks kf
  unfold ntR at ks kf
  have hk := hQ.2.2.2.1
  have cm0 := hc rfl
  subst cm0
  have st1 := hst rfl
  subst st1
  by_cases t : k.2.2.1 = 1011
  · rw [if_pos t] at ks kf
    by_cases r0 : r = 0
    · have e := h0 r0
      subst e
      exact m_no hg hQ (by unfold vlX; rw [if_neg (by omega), if_neg (by omega)]) (fun _ => by omega) (fun σ' h13 hfr => kf rfl σ' h13 hfr)
    · obtain ⟨n, hn, hI⟩ := h1 (by omega)
      subst hn
      have ks : (bnd2 (n (nXT B z k)) (fun k' o => (true, k', o ++ [13]))).1 = true → ∀ σ' W' cs' cm' st', mQ σ0 z B c0 σ' (bnd2 (n (nXT B z k)) (fun k' o => (true, k', o ++ [13]))).2.1 W' cs' cm' true st' (bnd2 (n (nXT B z k)) (fun k' o => (true, k', o ++ [13]))).2.1.1 → layX 3 W' cs' = layX 3 W (cs ++ (bnd2 (n (nXT B z k)) (fun k' o => (true, k', o ++ [13]))).2.2) → (true = false → cm' = false) → TFX 3 (bnd2 (n (nXT B z k)) (fun k' o => (true, k', o ++ [13]))).2.1.2.2.1 cm' → p_X8_part_45 (d + 3) g K σ' l1 := ks
      have kf : (bnd2 (n (nXT B z k)) (fun k' o => (true, k', o ++ [13]))).1 = false → ∀ σ', σ' 57 13 = nI (bnd2 (n (nXT B z k)) (fun k' o => (true, k', o ++ [13]))).2.1.1 → mFr σ0 c0 σ' → K 0 σ' := kf
      refine m_push (d := d) (w := 13) (cm' := false) (st' := true) hg hQ (by omega) (Or.inr (Or.inr ⟨t, rfl, rfl, rfl, rfl⟩)) (fun σ1 hQ1 => ?_)
      refine hI σ1 _ (13 :: W) cs _ _ hQ1 (hdX_c (by decide)) (by rw [opn_br (Or.inl rfl)]; omega) (fun _ => rfl) (fun _ => rfl) (fun q => by cases q) (fun e2 σ4 W4 cs4 cm4 st4 hQ4 hl5 hc4 hT4 => ?_) (fun e2 σ4 h13 hfr => ?_)
      · rw [bnd2_t e2] at ks
        refine ks rfl σ4 W4 cs4 cm4 st4 hQ4 ?_ (fun q => by cases q) hT4
        rw [hl5, layX_y (by decide : 3 ≤ rkX 13)]
        show layX 3 W ((cs ++ (n (nXT B z k)).2.2) ++ [13]) = layX 3 W (cs ++ ((n (nXT B z k)).2.2 ++ [13]))
        rw [List.append_assoc]
      · rw [bnd2_f e2] at kf
        exact kf rfl σ4 h13 hfr
  · rw [if_neg t] at ks kf
    refine hf σ k W cs false true hQ hh ho (fun _ => rfl) (fun q => by cases q) (fun _ => Or.inr t) (fun e2 σ4 W4 cs4 cm4 st4 hQ4 hl5 hc4 hT4 => ks e2 σ4 W4 cs4 cm4 st4 hQ4 (layX_eq (by omega) hl5) (fun q => by cases q) ⟨fun _ => hT4.1 (by omega), fun _ => hT4.2.1 (by omega), fun _ => hT4.2.2.1 (by omega), fun u => by omega, fun u => by omega⟩) kf
theorem sgX_TF {t : Nat} {cm : Bool} (h : TFX 1 t cm) : sgX t cm = none := by
  obtain ⟨a1, a2, a3, a4, a5⟩ := h
  have a1 := a1 (by omega)
  have a2 := a2 (by omega)
  have a4 := a4 (by omega)
  have a5 := a5 (by omega)
  unfold sgX
  rw [if_neg a1, if_neg a2.1, if_neg a2.2]
  by_cases u : t = 60
  · rw [if_pos u, a3 (by omega) (Or.inl u)]
    rfl
  · rw [if_neg u]
    by_cases u2 : t = 61
    · rw [if_pos u2, a3 (by omega) (Or.inr u2)]
      rfl
    · rw [if_neg u2, if_neg a4, if_neg a5]
theorem mI_single {r : Nat} {low : Option ((zTk → zRs) × (zTk → zRs))} (hg : zGA g) (h0 : r = 0 → low = none) (h1 : 0 < r → ∃ e s, low = some (e, s) ∧ mI g σ0 z B c0 d K l1 1 1 true true (r - 1) e ∧ mI g σ0 z B c0 d K l1 7 8 false false (r - 1) s) : mI g σ0 z B c0 d K l1 7 8 false false r (sgR (nXT B z) low) := by
  intro σ k W cs cm st hQ hh ho hc hst hst2 ks kf
  have T7 : ∀ t c, TFX 7 t c := fun t c => ⟨fun u => by omega, fun u => by omega, fun u => by omega, fun u => by omega, fun u => by omega⟩
  have val : ∀ x, vlX k = some x → (∀ σ', mQ σ0 z B c0 σ' (nXT B z k) (layX 7 W (cs ++ [x])).1 (layX 7 W (cs ++ [x])).2 cm true st (nXT B z k).1 → p_X8_part_45 (d + 3) g K σ' l1) → p_X8_part_45 (d + 3) g K σ l1 := fun x hx h => m_value hg hQ hx h
  have idem : ∀ cs, layX 7 (layX 7 W cs).1 (layX 7 W cs).2 = layX 7 W cs := fun cs => layX_lay (Nat.le_refl 7) W cs
  unfold sgR at ks kf
  by_cases c1 : k.2.2.1 = 2
  · rw [if_pos c1] at ks
    exact val _ (if_pos c1) (fun σ' hQ' => ks rfl σ' _ _ _ _ hQ' (idem _) (fun _ => rfl) (T7 _ _))
  · rw [if_neg c1] at ks kf
    by_cases c2 : 1000 ≤ k.2.2.1 ∧ k.2.2.1 < 1006
    · rw [if_pos c2] at ks
      exact val _ (by unfold vlX; rw [if_neg c1, if_pos c2]) (fun σ' hQ' => ks rfl σ' _ _ _ _ hQ' (idem _) (fun _ => rfl) (T7 _ _))
    · rw [if_neg c2] at ks kf
      have nv : vlX k = none := by unfold vlX; rw [if_neg c1, if_neg c2]
      by_cases r0 : r = 0
      · have e := h0 r0
        subst e
        exact m_no hg hQ nv (fun _ => by omega) (fun σ' h13 hfr => kf rfl σ' h13 hfr)
      · obtain ⟨e, s, hl, hE, hS⟩ := h1 (by omega)
        subst hl
        have ks : (if k.2.2.1 = 40 then bnd2 (e (nXT B z k)) (fun k' o => if k'.2.2.1 = 41 then (true, nXT B z k', o) else (false, k', [])) else if k.2.2.1 = 45 then bnd2 (s (nXT B z k)) (fun k' o => (true, k', o ++ [14])) else (false, k, [])).1 = true → ∀ σ' W' cs' cm' st', mQ σ0 z B c0 σ' (if k.2.2.1 = 40 then bnd2 (e (nXT B z k)) (fun k' o => if k'.2.2.1 = 41 then (true, nXT B z k', o) else (false, k', [])) else if k.2.2.1 = 45 then bnd2 (s (nXT B z k)) (fun k' o => (true, k', o ++ [14])) else (false, k, [])).2.1 W' cs' cm' true st' (if k.2.2.1 = 40 then bnd2 (e (nXT B z k)) (fun k' o => if k'.2.2.1 = 41 then (true, nXT B z k', o) else (false, k', [])) else if k.2.2.1 = 45 then bnd2 (s (nXT B z k)) (fun k' o => (true, k', o ++ [14])) else (false, k, [])).2.1.1 → layX 7 W' cs' = layX 7 W (cs ++ (if k.2.2.1 = 40 then bnd2 (e (nXT B z k)) (fun k' o => if k'.2.2.1 = 41 then (true, nXT B z k', o) else (false, k', [])) else if k.2.2.1 = 45 then bnd2 (s (nXT B z k)) (fun k' o => (true, k', o ++ [14])) else (false, k, [])).2.2) → (false = false → cm' = cm) → TFX 7 (if k.2.2.1 = 40 then bnd2 (e (nXT B z k)) (fun k' o => if k'.2.2.1 = 41 then (true, nXT B z k', o) else (false, k', [])) else if k.2.2.1 = 45 then bnd2 (s (nXT B z k)) (fun k' o => (true, k', o ++ [14])) else (false, k, [])).2.1.2.2.1 cm' → p_X8_part_45 (d + 3) g K σ' l1 := ks
        have kf : (if k.2.2.1 = 40 then bnd2 (e (nXT B z k)) (fun k' o => if k'.2.2.1 = 41 then (true, nXT B z k', o) else (false, k', [])) else if k.2.2.1 = 45 then bnd2 (s (nXT B z k)) (fun k' o => (true, k', o ++ [14])) else (false, k, [])).1 = false → ∀ σ', σ' 57 13 = nI (if k.2.2.1 = 40 then bnd2 (e (nXT B z k)) (fun k' o => if k'.2.2.1 = 41 then (true, nXT B z k', o) else (false, k', [])) else if k.2.2.1 = 45 then bnd2 (s (nXT B z k)) (fun k' o => (true, k', o ++ [14])) else (false, k, [])).2.1.1 → mFr σ0 c0 σ' → K 0 σ' := kf
        by_cases c3 : k.2.2.1 = 40
        · rw [if_pos c3] at ks kf
          refine m_push (d := d) (w := if cm then 101 else 100) (cm' := false) (st' := true) hg hQ (by omega) (Or.inl ⟨c3, rfl, rfl, rfl⟩) (fun σ1 hQ1 => ?_)
          have br : (if cm then 101 else 100) = 13 ∨ (if cm then 101 else 100) = 14 ∨ (if cm then 101 else 100) = 100 ∨ (if cm then 101 else 100) = 101 := by cases cm <;> decide
          have rk0 : rkX (if cm then 101 else 100) = 0 := by cases cm <;> rfl
          refine hE σ1 _ _ cs _ _ hQ1 (hdX_c (by omega)) (by rw [opn_br br]; omega) (fun _ => rfl) (fun _ => rfl) (fun q => by cases q) (fun e2 σ4 W4 cs4 cm4 st4 hQ4 hl5 hc4 hT4 => ?_) (fun e2 σ4 h13 hfr => ?_)
          · rw [bnd2_t e2] at ks kf
            rw [layX_n (by omega : rkX (if cm then 101 else 100) < 1)] at hl5
            by_cases c4 : (e (nXT B z k)).2.1.2.2.1 = 41
            · rw [if_pos c4] at ks
              exact m_close hg hQ4 c4 hl5 (fun σ5 hQ5 => ks rfl σ5 _ _ _ _ hQ5 (idem _) (fun _ => rfl) (T7 _ _))
            · rw [if_neg c4] at kf
              exact m_stuck hg hQ4 (sgX_TF hT4) (fun u => absurd u c4) (fun _ => by rw [hl5]; simp) (fun σ' h13 hfr => kf rfl σ' h13 hfr)
          · rw [bnd2_f e2] at kf
            exact kf rfl σ4 h13 hfr
        · rw [if_neg c3] at ks kf
          by_cases c5 : k.2.2.1 = 45
          · rw [if_pos c5] at ks kf
            refine m_push (d := d) (w := 14) (cm' := cm) (st' := false) hg hQ (by omega) (Or.inr (Or.inl ⟨c5, rfl, rfl, rfl⟩)) (fun σ1 hQ1 => ?_)
            refine hS σ1 _ (14 :: W) cs _ _ hQ1 (hdX_c (by decide)) (by rw [opn_br (Or.inr (Or.inl rfl))]; omega) (fun q => by cases q) (fun q => by cases q) (fun _ => Or.inl rfl) (fun e2 σ4 W4 cs4 cm4 st4 hQ4 hl5 hc4 hT4 => ?_) (fun e2 σ4 h13 hfr => ?_)
            · rw [bnd2_t e2] at ks
              refine ks rfl σ4 W4 cs4 cm4 st4 hQ4 ?_ hc4 (T7 _ _)
              rw [hl5, layX_y (by decide : 7 ≤ rkX 14)]
              show layX 7 W ((cs ++ (s (nXT B z k)).2.2) ++ [14]) = layX 7 W (cs ++ ((s (nXT B z k)).2.2 ++ [14]))
              rw [List.append_assoc]
            · rw [bnd2_f e2] at kf
              exact kf rfl σ4 h13 hfr
          · rw [if_neg c5] at kf
            refine m_no hg hQ nv (fun u => ?_) (fun σ' h13 hfr => kf rfl σ' h13 hfr)
            exfalso
            rcases u with u | u | u
            · exact c3 u
            · exact c5 u
            · rcases hst2 rfl with v | v
              · rw [v] at u; exact absurd u.2 (by decide)
              · exact v u.1
theorem hop_T : ∀ t c, opT t = some c → rkX c = 6 ∧ ∀ cm, sgX t cm = some c := fun t c h => by
  unfold opT at h
  by_cases u : t = 42
  · rw [if_pos u] at h
    cases h
    subst u
    exact ⟨rfl, fun cm => rfl⟩
  · rw [if_neg u] at h; cases h
theorem hop_S : ∀ t c, opS t = some c → rkX c = 5 ∧ ∀ cm, sgX t cm = some c := fun t c h => by
  unfold opS at h
  by_cases u : t = 43
  · rw [if_pos u] at h
    cases h
    subst u
    exact ⟨rfl, fun cm => rfl⟩
  · rw [if_neg u] at h
    by_cases u2 : t = 45
    · rw [if_pos u2] at h
      cases h
      subst u2
      exact ⟨rfl, fun cm => rfl⟩
    · rw [if_neg u2] at h; cases h
theorem hop_A : ∀ t c, opA t = some c → rkX c = 2 ∧ ∀ cm, sgX t cm = some c := fun t c h => by
  unfold opA at h
  by_cases u : t = 1010
  · rw [if_pos u] at h
    cases h
    subst u
    exact ⟨rfl, fun cm => rfl⟩
  · rw [if_neg u] at h; cases h
theorem hop_O : ∀ t c, opO t = some c → rkX c = 1 ∧ ∀ cm, sgX t cm = some c := fun t c h => by
  unfold opO at h
  by_cases u : t = 1009
  · rw [if_pos u] at h
    cases h
    subst u
    exact ⟨rfl, fun cm => rfl⟩
  · rw [if_neg u] at h; cases h
theorem TF_T : ∀ t cm, TFX 7 t cm → opT t = none → TFX 6 t cm := fun t cm h n => ⟨fun _ u => (by unfold opT at n; rw [if_pos u] at n; cases n), fun u => by omega, fun u => by omega, fun u => by omega, fun u => by omega⟩
theorem TF_S : ∀ t cm, TFX 6 t cm → opS t = none → TFX 5 t cm := fun t cm h n => by
  have n43 : t ≠ 43 := fun u => by unfold opS at n; rw [if_pos u] at n; cases n
  have n45 : t ≠ 45 := fun u => by unfold opS at n; rw [if_neg n43, if_pos u] at n; cases n
  exact ⟨fun _ => h.1 (by omega), fun _ => ⟨n43, n45⟩, fun u => by omega, fun u => by omega, fun u => by omega⟩
theorem TF_A : ∀ t cm, TFX 3 t cm → opA t = none → TFX 2 t cm := fun t cm h n => ⟨fun _ => h.1 (by omega), fun _ => h.2.1 (by omega), fun _ => h.2.2.1 (by omega), fun _ u => (by unfold opA at n; rw [if_pos u] at n; cases n), fun u => by omega⟩
theorem TF_O : ∀ t cm, TFX 2 t cm → opO t = none → TFX 1 t cm := fun t cm h n => ⟨fun _ => h.1 (by omega), fun _ => h.2.1 (by omega), fun _ => h.2.2.1 (by omega), fun _ => h.2.2.2.1 (by omega), fun _ u => by unfold opO at n; rw [if_pos u] at n; cases n⟩
theorem mI_lev (hg : zGA g) : ∀ r, r ≤ 5 → mI g σ0 z B c0 d K l1 7 8 false false r (lvR (nXT B z) z r).1 ∧ mI g σ0 z B c0 d K l1 3 4 true true r (lvR (nXT B z) z r).2
  | 0, _ => by
    have hN := gN_lx B z
    have g1 := (lvR_gd (z := z) hN 0).1
    have h1 : mI g σ0 z B c0 d K l1 7 8 false false 0 (lvR (nXT B z) z 0).1 := mI_single hg (fun _ => rfl) (fun u => by omega)
    have h2 := mI_chain hg h1 g1 gO_T (m := 6) (by omega) (by omega) (by omega) rfl rfl hop_T TF_T
    have h3 := mI_chain hg h2 (chn_gd hN g1 gO_T) gO_S (m := 5) (by omega) (by omega) (by omega) rfl rfl hop_S TF_S
    have h4 := mI_cmp hg h3 (chn_gd hN (chn_gd hN g1 gO_T) gO_S)
    exact ⟨h1, mI_not hg h4 (fun _ => rfl) (fun u => by omega)⟩
  | r + 1, hr => by
    have hN := gN_lx B z
    obtain ⟨i1, i2⟩ := mI_lev hg r (by omega)
    have j2 := (lvR_gd (z := z) hN r).2
    have g1 := (lvR_gd (z := z) hN (r + 1)).1
    have b1 := mI_chain hg i2 j2 gO_A (m := 2) (by omega) (by omega) (by omega) rfl rfl hop_A TF_A
    have b2 := mI_chain hg b1 (chn_gd hN j2 gO_A) gO_O (m := 1) (by omega) (by omega) (by omega) rfl rfl hop_O TF_O
    have h1 : mI g σ0 z B c0 d K l1 7 8 false false (r + 1) (lvR (nXT B z) z (r + 1)).1 := mI_single hg (fun u => by omega) (fun u => ⟨_, _, rfl, b2, i1⟩)
    have h2 := mI_chain hg h1 g1 gO_T (m := 6) (by omega) (by omega) (by omega) rfl rfl hop_T TF_T
    have h3 := mI_chain hg h2 (chn_gd hN g1 gO_T) gO_S (m := 5) (by omega) (by omega) (by omega) rfl rfl hop_S TF_S
    have h4 := mI_cmp hg h3 (chn_gd hN (chn_gd hN g1 gO_T) gO_S)
    exact ⟨h1, mI_not hg h4 (fun u => by omega) (fun u => ⟨_, rfl, i2⟩)⟩
theorem mI_all (hg : zGA g) : mI g σ0 z B c0 d K l1 1 1 true true 5 (etR (nXT B z) z (lvR (nXT B z) z 5).2) := by
  have hN := gN_lx B z
  have i2 := (mI_lev (σ0 := σ0) (z := z) (B := B) (c0 := c0) (d := d) (K := K) (l1 := l1) hg 5 (by omega)).2
  have j2 := (lvR_gd (z := z) hN 5).2
  have b1 := mI_chain hg i2 j2 gO_A (m := 2) (by omega) (by omega) (by omega) rfl rfl hop_A TF_A
  exact mI_chain hg b1 (chn_gd hN j2 gO_A) gO_O (m := 1) (by omega) (by omega) (by omega) rfl rfl hop_O TF_O
end
