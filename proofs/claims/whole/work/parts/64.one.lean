/-! a ONE, a bracket, the reference stuck -/
def vlX (k : zTk) : Option Nat := if k.2.2.1 = 2 then some (15 + k.2.2.2) else if 1000 ≤ k.2.2.1 ∧ k.2.2.1 < 1006 then some (k.2.2.1 - 1000) else none
section
variable {d : Nat} {g : zG} {σ0 σ : zI} {z c0 : Nat} {B : Nat → Nat} {k : zTk} {W cs : List Nat} {cm be st : Bool} {b : Nat} {K : Int32 → zI → Prop} {l1 : Int32}
theorem cm_oneX (hg : zGA g) (h : mQ σ0 z B c0 σ k W cs cm be st b) (hv : ∀ x, vlX k = some x → zCV mX8_codes (d + 1) [.ref 57, .int (nI x)] g σ (fun σ1 => zCV mX8_lays (d + 1) [.ref 57, .int 7] g σ1 (fun σ2 => K 1 (zsI σ2 57 22 1))))
    (h116 : ∀ l3 : Int32, ((l3 = 0 ∧ (k.2.2.1 = 40 ∨ k.2.2.1 = 45)) ∨ (l3 = 1 ∧ k.2.2.1 = 1011 ∧ st = true)) → p_X8_one_116 (d + 1) g K σ l3)
    (hno : vlX k = none → ¬ k.2.2.1 = 40 → ¬ k.2.2.1 = 45 → ¬ (k.2.2.1 = 1011 ∧ st = true) → K 0 σ) : zCI mX8_one (d + 2) [.ref 57, .int (bI st)] g σ K := by
  obtain ⟨a1, a2, a3, a4, a5, a6, a7, a8, a9, a10⟩ := h
  have t2 := a4.2.2.2.2
  have v9 := a4.2.2.2.1
  refine s_X8_one hg ?_
  rw [a3.2.2.1]
  refine k_119 a4 a5 (fun q => ?_) (fun q => s_X8_one_17 hg ?_)
  · have hx := HX_lt (k.2.2.1 - 1000) (by omega)
    refine cm_named hg (Nat.lt_trans hx (by decide)) (a3.2.2.2.1 q) (fun i hi e => s_X8_one_17 hg ?_) (fun hne => s_X8_one_17 hg ?_)
    · have e3 := HX_ne (k.2.2.1 - 1000) (by omega) i (by omega) e
      rw [a3.2.2.1]
      refine k_48 a4 a5 (fun u => by omega) (fun u => ?_)
      have nm : ¬ nI i = -1 := fun u => by
        have := congrArg Int32.toInt u
        rw [nI_toInt' (by omega)] at this
        have e : (-1 : Int32).toInt = -1 := rfl
        omega
      rw [if_neg nm]
      refine s_X8_one_32 hg ?_
      rw [if_neg nm, ← e3]
      exact hv _ (by unfold vlX; rw [if_neg u, if_pos (by omega)])
    · have n6 : ¬ k.2.2.1 < 1006 := fun u => hne (k.2.2.1 - 1000) (by omega) rfl
      have nv : vlX k = none := by unfold vlX; rw [if_neg (by omega), if_neg (by omega)]
      have h17 := a3.2.2.2.1 q
      rw [a3.2.2.1]
      refine k_48 a4 a5 (fun u => by omega) (fun u => ?_)
      rw [if_pos rfl]
      refine b_if (fun s => k_sg 45 rfl rfl a4 a5 (fun u => by omega) (fun u2 => k_sg 40 rfl rfl a4 a5 (fun u => by omega) (fun u3 => hno nv u3 u2 (by rw [s]; simp)))) (fun s => k_119 a4 a5 (fun _ => ?_) (fun u => absurd q u))
      rw [h17]
      have hne11 := HX_ne (k.2.2.1 - 1000) (by omega) 11 (by omega)
      have w1 : HX.getD 11 0 = 10631 := rfl
      rw [w1] at hne11
      have hv1 : k.2.2.1 = 1011 → HX.getD (k.2.2.1 - 1000) 0 = 10631 := fun u => by rw [u]; rfl
      generalize HX.getD (k.2.2.1 - 1000) 0 = v at *
      have vl : v < 2147483648 := Nat.lt_trans hx (by decide)
      by_cases e : v = 10631
      · rw [if_pos (show nI v = 10631 by rw [e]; rfl)]
        have := hne11 e
        exact h116 1 (Or.inr ⟨rfl, by omega, s⟩)
      · rw [if_neg (show ¬ nI v = 10631 from fun u => e ((nI_eq (a := v) (b := 10631) (by omega) (by decide)).mp u))]
        exact k_sg 45 rfl rfl a4 a5 (fun u => by omega) (fun u2 => k_sg 40 rfl rfl a4 a5 (fun u => by omega) (fun u3 => hno nv u3 u2 (fun u => e (hv1 u.1))))
  · rw [a3.2.2.1]
    refine k_48 a4 a5 (fun u => ?_) (fun u => ?_)
    · refine s_X8_one_32 hg ?_
      rw [if_pos rfl, a3.2.2.2.2 u, show (15 : Int32) + nI k.2.2.2 = nI (15 + k.2.2.2) from nI_add 15 _]
      exact hv _ (if_pos u)
    · have nv : vlX k = none := by unfold vlX; rw [if_neg u, if_neg (by omega)]
      have rest : (if (tkM k.2.2.1 = 45 : Prop) then p_X8_one_116 (d + 1) g K σ 0 else (if (tkM k.2.2.1 = 40 : Prop) then p_X8_one_116 (d + 1) g K σ 0 else K 0 σ)) := k_sg 45 rfl rfl a4 a5 (fun u => h116 0 (Or.inl ⟨rfl, Or.inr u⟩)) (fun u2 => k_sg 40 rfl rfl a4 a5 (fun u => h116 0 (Or.inl ⟨rfl, Or.inl u⟩)) (fun u3 => hno nv u3 u2 (by omega)))
      rw [if_pos rfl]
      exact b_if (fun s => rest) (fun s => k_119 a4 a5 (fun u => absurd u q) (fun _ => rest))
theorem m_value {x : Nat} (hg : zGA g) (h : mQ σ0 z B c0 σ k W cs cm false st k.1) (hv : vlX k = some x)
    (h1 : ∀ σ', mQ σ0 z B c0 σ' (nXT B z k) (layX 7 W (cs ++ [x])).1 (layX 7 W (cs ++ [x])).2 cm true st (nXT B z k).1 → p_X8_part_45 (d + 3) g K σ' l1) : p_X8_part_45 (d + 3) g K σ l1 := by
  have hk := h.2.2.2.1
  have t1 : k.2.2.1 ≠ 1 := fun u => by unfold vlX at hv; rw [if_neg (by omega), if_neg (by omega)] at hv; cases hv
  have b3 := hk.2.2.1 t1
  have b4 := hk.2.1
  have z160 := h.2.1.1
  have hl := h.2.2.2.2.2.1
  refine m_ahead (d := d + 2) hg h (cm_oneX (d := d) hg h (fun x' hx' => ?_) (fun l3 c => ?_) (fun n => ?_))
  · rw [hv] at hx'
    cases hx'
    refine cm_codesX hg h.1 (by omega) (fun σ1 hC1 hD1 => cm_lays (m := 7) (d := d) hg (by omega) (by omega) hC1 (fun σ2 hC2 hD2 => ⟨Or.inr rfl, z1 ?_⟩))
    have len := layX_len 7 W (cs ++ [x])
    have l2 : (cs ++ [x]).length = cs.length + 1 := by simp
    exact mQ_nx (d := d + 2) hg (mQ_22 (mQ_core (b' := k.2.1) h hC2 (mDf_tr hD1 hD2) (by omega)) true) h1
  · exfalso
    unfold vlX at hv
    rw [if_neg (by omega), if_neg (by omega)] at hv
    cases hv
  · rw [hv] at n; cases n
theorem m_push {w : Nat} {cm' st' : Bool} (hg : zGA g) (h : mQ σ0 z B c0 σ k W cs cm false st k.1) (ho : opn W < 5) (hw : (k.2.2.1 = 40 ∧ w = (if cm then 101 else 100) ∧ cm' = false ∧ st' = true) ∨ (k.2.2.1 = 45 ∧ w = 14 ∧ cm' = cm ∧ st' = false) ∨ (k.2.2.1 = 1011 ∧ st = true ∧ w = 13 ∧ cm' = cm ∧ st' = true))
    (h1 : ∀ σ', mQ σ0 z B c0 σ' (nXT B z k) (w :: W) cs cm' false st' (nXT B z k).1 → p_X8_part_45 (d + 3) g K σ' l1) : p_X8_part_45 (d + 3) g K σ l1 := by
  have hk := h.2.2.2.1
  have t1 : k.2.2.1 ≠ 1 := by omega
  have b3 := hk.2.2.1 t1
  have b4 := hk.2.1
  have z160 := h.2.1.1
  have hl := h.2.2.2.2.2.1
  have a5 := h.2.2.2.2.1
  have no5 : ¬ nI (opn W) = 5 := fun u => by
    have := (nI_eq (a := opn W) (b := 5) (by omega) (by omega)).mp u
    omega
  have fin : ∀ {σ2 : zI}, mQ σ0 z B c0 σ2 k (w :: W) cs cm' false st' k.2.1 → ((1 : Int32) = 0 ∨ (1 : Int32) = 1) ∧ (if (1 : Int32) = 0 then K 0 σ2 else zCV mX8_next (d + 3) [.ref 57] g σ2 (fun σ3 => p_X8_part_45 (d + 3) g K σ3 l1)) := fun Q => ⟨Or.inr rfl, z1 (mQ_nx (d := d + 2) hg Q h1)⟩
  have len : ∀ w : Nat, (w :: W).length + cs.length ≤ k.2.1 := fun w => by simp only [List.length_cons]; omega
  refine m_ahead (d := d + 2) hg h (cm_oneX (d := d) hg h (fun x hx => ?_) (fun l3 c => s_X8_one_116 hg ?_) (fun n n1 n2 n3 => ?_))
  · exfalso
    unfold vlX at hx
    rw [if_neg (by omega), if_neg (by omega)] at hx
    cases hx
  · rw [h.1.2.2.2.2.1, if_neg no5, h.2.2.1.2.2.1, h.2.2.2.2.2.2.1]
    refine k_sg 40 rfl rfl hk a5 (fun q => ?_) (fun q => ?_)
    · have hw : w = (if cm then 101 else 100) ∧ cm' = false ∧ st' = true := by
        rcases hw with u | u | u
        · exact u.2
        · omega
        · omega
      obtain ⟨w1, w2, w3⟩ := hw
      refine b_if (fun e => ?_) (fun e => ?_)
      · rw [e, if_neg (by decide)] at w1
        subst w1
        subst w2
        subst w3
        refine cm_pushX (d := d) (w := 100) hg h.1 (by omega) (Or.inr (Or.inl rfl)) (fun σ1 hC1 hD1 => ?_)
        have Q1 := mQ_core (b' := k.2.1) h hC1 hD1 (len 100)
        rw [Q1.2.2.1.2.2.1]
        exact k_sg 45 rfl rfl hk a5 (fun u => by omega) (fun _ => fin (mQ_23 (mQ_21 Q1 false) true))
      · rw [e, if_pos rfl] at w1
        subst w1
        subst w2
        subst w3
        refine cm_pushX (d := d) (w := 101) hg h.1 (by omega) (Or.inr (Or.inr rfl)) (fun σ1 hC1 hD1 => ?_)
        have Q1 := mQ_core (b' := k.2.1) h hC1 hD1 (len 101)
        rw [Q1.2.2.1.2.2.1]
        exact k_sg 45 rfl rfl hk a5 (fun u => by omega) (fun _ => fin (mQ_23 (mQ_21 Q1 false) true))
    · rcases c with ⟨c1, c2⟩ | ⟨c1, c2, c3⟩
      · have hw : w = 14 ∧ cm' = cm ∧ st' = false := by
          rcases hw with u | u | u
          · omega
          · exact u.2
          · omega
        obtain ⟨w1, w2, w3⟩ := hw
        subst w1
        subst w2
        subst w3
        rw [if_pos c1]
        refine cm_pushX (d := d) (w := 14) hg h.1 (by omega) (Or.inl (by omega)) (fun σ1 hC1 hD1 => ?_)
        have Q1 := mQ_core (b' := k.2.1) h hC1 hD1 (len 14)
        rw [Q1.2.2.1.2.2.1]
        exact k_sg 45 rfl rfl hk a5 (fun u => fin (mQ_23 Q1 false)) (fun u => by omega)
      · have hw : w = 13 ∧ cm' = cm ∧ st' = true := by
          rcases hw with u | u | u
          · omega
          · omega
          · exact u.2.2
        obtain ⟨w1, w2, w3⟩ := hw
        subst w1
        subst w2
        subst w3
        rw [if_neg (by rw [c1]; decide)]
        refine cm_pushX (d := d) (w := 13) hg h.1 (by omega) (Or.inl (by omega)) (fun σ1 hC1 hD1 => ?_)
        have Q1 := mQ_core (b' := k.2.1) h hC1 hD1 (len 13)
        rw [Q1.2.2.1.2.2.1]
        exact k_sg 45 rfl rfl hk a5 (fun u => by omega) (fun _ => fin (mQ_23 Q1 true))
  · exfalso
    rcases hw with u | u | u
    · omega
    · omega
    · exact n3 ⟨u.1, u.2.1⟩
/-- ahead of a ONE, what can't begin one -/
theorem m_no (hg : zGA g) (h : mQ σ0 z B c0 σ k W cs cm false st k.1) (hv : vlX k = none) (ho : (k.2.2.1 = 40 ∨ k.2.2.1 = 45 ∨ (k.2.2.1 = 1011 ∧ st = true)) → opn W = 5) (hf : ∀ σ', σ' 57 13 = nI k.1 → mFr σ0 c0 σ' → K 0 σ') : p_X8_part_45 (d + 3) g K σ l1 := by
  have fin : ((0 : Int32) = 0 ∨ (0 : Int32) = 1) ∧ (if (0 : Int32) = 0 then K 0 σ else zCV mX8_next (d + 3) [.ref 57] g σ (fun σ3 => p_X8_part_45 (d + 3) g K σ3 l1)) := ⟨Or.inl rfl, z0 (hf σ h.2.2.1.1 h.2.2.2.2.2.2.2.2.2)⟩
  refine m_ahead (d := d + 2) hg h (cm_oneX (d := d) hg h (fun x hx => by rw [hv] at hx; cases hx) (fun l3 c => s_X8_one_116 hg ?_) (fun _ _ _ _ => fin))
  have o5 := ho (by
    rcases c with c | c
    · rcases c.2 with u | u
      · exact Or.inl u
      · exact Or.inr (Or.inl u)
    · exact Or.inr (Or.inr c.2))
  rw [h.1.2.2.2.2.1, o5, if_pos (show nI 5 = 5 from rfl)]
  exact fin
theorem m_stuck (hg : zGA g) (h : mQ σ0 z B c0 σ k W cs cm true st b) (hn : sgX k.2.2.1 cm = none) (h41 : k.2.2.1 = 41 → (layX 1 W cs).1 = []) (h59 : k.2.2.1 = 59 → (layX 1 W cs).1 ≠ []) (hf : ∀ σ', σ' 57 13 = nI k.1 → mFr σ0 c0 σ' → K 0 σ') : p_X8_part_45 (d + 3) g K σ l1 := by
  have hk := h.2.2.2.1
  have a5 := h.2.2.2.2.1
  have fr := h.2.2.2.2.2.2.2.2.2
  refine m_behind hg h (fun q => cm_lays (m := 1) (d := d + 2) hg (by omega) (by omega) h.1 (fun σ1 hC1 hD1 => ?_)) (fun q => s_X8_goesOn hg ?_)
  · rw [hC1.2.2.2.1]
    have ne := h59 q
    have lp : 1 ≤ (layX 1 W cs).1.length := by
      cases e : (layX 1 W cs).1 with
      | nil => exact absurd e ne
      | cons a l => simp
    have l9 := hC1.1
    exact i_le (layX 1 W cs).1.length 0 rfl rfl (by omega) (by omega) (fun u => by omega) (fun _ => hf σ1 (by rw [hD1.2.1 13 (by decide)]; exact h.2.2.1.1) (mFr_D fr hD1))
  · rw [h.2.2.2.2.2.2.2.1, h.2.2.1.2.2.1]
    refine b_if (fun q => by cases q) (fun _ => k_sg 41 rfl rfl hk a5 (fun q => s_X8_closes hg (cm_lays (m := 1) (d := d) hg (by omega) (by omega) h.1 (fun σ1 hC1 hD1 => ?_))) (fun _ => cm_signed hg h (fun c hc => by rw [hn] at hc; cases hc) (fun _ => ?_)))
    · rw [hC1.2.2.2.1, h41 q, if_pos (show nI ([] : List Nat).length = 0 from rfl)]
      exact ⟨Or.inl rfl, z0 (hf σ1 (by rw [hD1.2.1 13 (by decide)]; exact h.2.2.1.1) (mFr_D fr hD1))⟩
    · rw [if_pos rfl]
      exact z0 (hf σ h.2.2.1.1 fr)
theorem m_close {W1 cs1 : List Nat} {cq : Bool} (hg : zGA g) (h : mQ σ0 z B c0 σ k W cs cm true st k.1) (ht : k.2.2.1 = 41) (hl : layX 1 W cs = ((if cq then 101 else 100) :: W1, cs1))
    (h1 : ∀ σ', mQ σ0 z B c0 σ' (nXT B z k) (layX 7 W1 cs1).1 (layX 7 W1 cs1).2 cq true st (nXT B z k).1 → p_X8_part_45 (d + 3) g K σ' l1) : p_X8_part_45 (d + 3) g K σ l1 := by
  have hk := h.2.2.2.1
  have a5 := h.2.2.2.2.1
  have b3 := hk.2.2.1 (by omega)
  have len := layX_len 1 W cs
  have len7 := layX_len 7 W1 cs1
  have hl2 := h.2.2.2.2.2.1
  rw [hl] at len
  simp only [List.length_cons] at len
  refine m_behind hg h (fun q => by omega) (fun q => s_X8_goesOn hg ?_)
  rw [h.2.2.2.2.2.2.2.1, h.2.2.1.2.2.1]
  refine b_if (fun q => by cases q) (fun _ => k_sg 41 rfl rfl hk a5 (fun q => s_X8_closes hg (cm_lays (m := 1) (d := d) hg (by omega) (by omega) h.1 (fun σ1 hC1 hD1 => ?_))) (fun q => absurd ht q))
  have Q1 := mQ_core (b' := k.1) h hC1 hD1 (by rw [hl]; simp only [List.length_cons]; omega)
  rw [hl] at hC1 Q1
  obtain ⟨c1, c2, c3, c4, c5, c6, c7, c8⟩ := hC1
  have c1 : W1.length + 1 + cs1.length ≤ 160 := c1
  obtain ⟨s1, s2⟩ := stk_hd c6
  have c4 : σ1 57 19 = nI (W1.length + 1) := c4
  have c3 : σ1 57 12 = nI (c0 + cs1.length) := c3
  have c5 : σ1 57 20 = nI (opn W1 + 1) := by
    rw [c5]
    show nI ((if (if cq then 101 else 100) = 13 ∨ (if cq then 101 else 100) = 14 ∨ (if cq then 101 else 100) = 100 ∨ (if cq then 101 else 100) = 101 then 1 else 0) + opn W1) = _
    cases cq
    · rw [if_pos (by decide), Nat.add_comm]
    · rw [if_pos (by decide), Nat.add_comm]
  rw [c4, show nI (W1.length + 1) - 1 = nI W1.length from nI_pred _, c_nI (by omega), s1, c5, show nI (opn W1 + 1) - 1 = nI (opn W1) from nI_pred _]
  rw [if_neg (fun u => by have := (nI_eq (a := W1.length + 1) (b := 0) (by omega) (by omega)).mp u; omega)]
  have go : ∀ x : Int32, x = bI cq → zCV mX8_lays (d + 1) [.ref 57, .int 7] g (zsI (zsI (zsI σ1 57 19 (nI W1.length)) 57 21 x) 57 20 (nI (opn W1))) (fun σ2 => ((1 : Int32) = 0 ∨ (1 : Int32) = 1) ∧ (if (1 : Int32) = 0 then K 0 σ2 else zCV mX8_next (d + 3) [.ref 57] g σ2 (fun σ3 => p_X8_part_45 (d + 3) g K σ3 l1))) := fun x hx => by
    subst hx
    generalize hs : zsI (zsI (zsI σ1 57 19 (nI W1.length)) 57 21 (bI cq)) 57 20 (nI (opn W1)) = σ2
    have o : ∀ j, j ≠ 19 → j ≠ 20 → j ≠ 21 → σ2 57 j = σ1 57 j := fun j h1 h2 h3 => by rw [← hs, zsI_no (Or.inr h2), zsI_no (Or.inr h3), zsI_no (Or.inr h1)]
    have oo : ∀ a, a ≠ 57 → σ2 a = σ1 a := fun a ha => by rw [← hs, zsI_ne ha, zsI_ne ha, zsI_ne ha]
    have hC2 : mC c0 σ2 W1 cs1 := by
      refine ⟨by omega, c2, by rw [o 12 (by omega) (by omega) (by omega)]; exact c3, ?_, ?_, by rw [oo 65 (by decide)]; exact s2, by rw [oo 64 (by decide)]; exact c7, fun w hw => c8 w (List.mem_cons_of_mem _ hw)⟩
      · rw [← hs, zsI_no (by omega), zsI_no (by omega), zsI_at]
      · rw [← hs, zsI_at]
    obtain ⟨q1, q2, q3, q4, q5, q6, q7, q8, q9, q10⟩ := Q1
    have Q2 : mQ σ0 z B c0 σ2 k W1 cs1 cq true st k.1 := by
      refine ⟨hC2, ⟨q2.1, by rw [o 6 (by omega) (by omega) (by omega)]; exact q2.2.1, fun i hi => by rw [oo 61 (by decide)]; exact q2.2.2 i hi⟩, ⟨by rw [o 13 (by omega) (by omega) (by omega)]; exact q3.1, by rw [o 14 (by omega) (by omega) (by omega)]; exact q3.2.1, by rw [o 15 (by omega) (by omega) (by omega)]; exact q3.2.2.1, fun u => by rw [o 17 (by omega) (by omega) (by omega)]; exact q3.2.2.2.1 u, fun u => by rw [o 16 (by omega) (by omega) (by omega)]; exact q3.2.2.2.2 u⟩, q4, q5, by omega, ?_, by rw [o 22 (by omega) (by omega) (by omega)]; exact q8, by rw [o 23 (by omega) (by omega) (by omega)]; exact q9, ?_, fun j hj => ?_, fun j hj => by rw [oo 64 (by decide)]; exact q10.2.2 j hj⟩
      · rw [← hs, zsI_no (by omega), zsI_at]
      · rw [← hs]; exact zfr_put (zfr_put (zfr_put q10.1 (by decide)) (by decide)) (by decide)
      · rw [o j (fun e => hj (by rw [e]; decide)) (fun e => hj (by rw [e]; decide)) (fun e => hj (by rw [e]; decide))]
        exact q10.2.1 j hj
    exact cm_lays (m := 7) (d := d) hg (by omega) (by omega) hC2 (fun σ3 hC3 hD3 => ⟨Or.inr rfl, z1 (mQ_nx (d := d + 2) hg (mQ_core (b' := k.2.1) Q2 hC3 hD3 (by omega)) h1)⟩)
  refine ⟨v_in (by omega) (by omega), ?_⟩
  cases cq with
  | false =>
    rw [if_neg (show ¬ wIX (if false = true then 101 else 100) = -2 by decide)]
    exact go 0 rfl
  | true =>
    rw [if_pos (show wIX (if true = true then 101 else 100) = -2 by decide)]
    exact go 1 rfl
end
