/-! the signs that wait in the reference -/
def rkX (w : Nat) : Nat := if w = 6 then 5 else if w = 7 then 5 else if w = 8 then 6 else if w = 9 then 4 else if w = 10 then 4 else if w = 11 then 2 else if w = 12 then 1 else if w = 13 then 3 else if w = 14 then 7 else 0
def wIX (w : Nat) : Int32 := if w = 100 then -1 else if w = 101 then -2 else nI w
def wok (w : Nat) : Prop := (6 ≤ w ∧ w ≤ 14) ∨ w = 100 ∨ w = 101
def opn : List Nat → Nat
  | [] => 0
  | w :: W => (if w = 13 ∨ w = 14 ∨ w = 100 ∨ w = 101 then 1 else 0) + opn W
def layX (m : Nat) : List Nat → List Nat → List Nat × List Nat
  | [], cs => ([], cs)
  | w :: W, cs => if m ≤ rkX w then layX m W (cs ++ [w]) else (w :: W, cs)
theorem layX_y {m w : Nat} {W cs : List Nat} (h : m ≤ rkX w) : layX m (w :: W) cs = layX m W (cs ++ [w]) := if_pos h
theorem layX_n {m w : Nat} {W cs : List Nat} (h : rkX w < m) : layX m (w :: W) cs = (w :: W, cs) := if_neg (by omega)
theorem layX_len (m : Nat) : ∀ W cs, (layX m W cs).1.length + (layX m W cs).2.length = W.length + cs.length
  | [], cs => rfl
  | w :: W, cs => by
    by_cases h : m ≤ rkX w
    · rw [layX_y h, layX_len m W (cs ++ [w])]
      simp only [List.length_append, List.length_cons, List.length_nil]
      omega
    · rw [layX_n (by omega)]
theorem layX_lay {m k : Nat} (hk : k ≤ m) : ∀ W cs, layX k (layX m W cs).1 (layX m W cs).2 = layX k W cs
  | [], cs => rfl
  | w :: W, cs => by
    by_cases h : m ≤ rkX w
    · rw [layX_y h, layX_y (by omega : k ≤ rkX w)]
      exact layX_lay hk W (cs ++ [w])
    · rw [layX_n (by omega)]
theorem layX_eq {m k : Nat} (hk : k ≤ m) {W cs W' cs' : List Nat} (h : layX m W cs = layX m W' cs') : layX k W cs = layX k W' cs' := by
  rw [← layX_lay hk W cs, h, layX_lay hk W' cs']
/-- what waits on top binds less -/
def hdX (m : Nat) (W : List Nat) : Prop := ∀ w W', W = w :: W' → rkX w < m
theorem layX_hd {m : Nat} {W : List Nat} (h : hdX m W) (cs : List Nat) : layX m W cs = (W, cs) := by
  cases W with
  | nil => rfl
  | cons w W => exact layX_n (h w W rfl)
theorem hdX_up {m k : Nat} {W : List Nat} (h : hdX m W) (hk : m ≤ k) : hdX k W := fun w W' e => Nat.lt_of_lt_of_le (h w W' e) hk
theorem hdX_c {m w : Nat} {W : List Nat} (h : rkX w < m) : hdX m (w :: W) := fun w' W' e => by
  cases e
  exact h
theorem rkX_le (w : Nat) : rkX w ≤ 7 := by
  unfold rkX
  repeat (first | split | omega)
theorem wIX_n {w : Nat} (h : w ≤ 14) : wIX w = nI w := by
  unfold wIX
  rw [if_neg (by omega), if_neg (by omega)]
theorem rkX_w {w : Nat} (h : wok w) (h1 : 1 ≤ rkX w) : 6 ≤ w ∧ w ≤ 14 := by
  rcases h with u | rfl | rfl
  · exact u
  · exact absurd h1 (by decide)
  · exact absurd h1 (by decide)
def mC (c0 : Nat) (σ : zI) (W cs : List Nat) : Prop := W.length + cs.length ≤ 160 ∧ c0 ≤ 1000 ∧ σ 57 12 = nI (c0 + cs.length) ∧ σ 57 19 = nI W.length ∧ σ 57 20 = nI (opn W) ∧ stk (σ 65) (W.map wIX) ∧ (∀ i x, cs[i]? = some x → σ 64 (c0 + i) = nI x) ∧ ∀ w, w ∈ W → wok w
def mDf (c0 : Nat) (σ σ' : zI) : Prop := zfr [57, 64, 65] σ σ' ∧ (∀ j, j ∉ [12, 19, 20] → σ' 57 j = σ 57 j) ∧ ∀ j, j < c0 → σ' 64 j = σ 64 j
theorem mDf_rf (c0 : Nat) (σ : zI) : mDf c0 σ σ := ⟨zfr_rf _ _, fun _ _ => rfl, fun _ _ => rfl⟩
theorem mDf_tr {c0 : Nat} {σ σ1 σ2 : zI} (h : mDf c0 σ σ1) (h2 : mDf c0 σ1 σ2) : mDf c0 σ σ2 := ⟨zfr_tr h.1 h2.1, fun j hj => (h2.2.1 j hj).trans (h.2.1 j hj), fun j hj => (h2.2.2 j hj).trans (h.2.2 j hj)⟩
theorem opn_le : ∀ W, opn W ≤ W.length
  | [] => Nat.le_refl _
  | w :: W => by
    have := opn_le W
    unfold opn
    simp only [List.length_cons]
    split <;> omega
theorem mC_64 {c0 : Nat} {f : Nat → Int32} {cs : List Nat} {x : Nat} {f' : Nat → Int32} (h : ∀ i y, cs[i]? = some y → f (c0 + i) = nI y) (hf : ∀ j, j ≠ c0 + cs.length → f' j = f j) (hx : f' (c0 + cs.length) = nI x) : ∀ i y, (cs ++ [x])[i]? = some y → f' (c0 + i) = nI y := fun i y hy => by
  by_cases q : i < cs.length
  · rw [List.getElem?_append_left q] at hy
    rw [hf _ (by omega)]
    exact h i y hy
  · rw [List.getElem?_append_right (by omega)] at hy
    have e : i = cs.length := by
      by_cases u : i - cs.length = 0
      · omega
      · rw [List.getElem?_singleton, if_neg u] at hy
        cases hy
    subst e
    rw [Nat.sub_self] at hy
    simp at hy
    rw [hx, hy]
section
variable {d : Nat} {g : zG} {σ : zI}
theorem cm_rank {K : Int32 → zI → Prop} (hg : zGA g) {w : Nat} (hw : wok w) (h1 : K (nI (rkX w)) σ) : zCI mX8_rank d [.int (wIX w)] g σ K := by
  refine s_X8_rank hg ?_
  rcases hw with u | rfl | rfl
  · rcases (show w = 6 ∨ w = 7 ∨ w = 8 ∨ w = 9 ∨ w = 10 ∨ w = 11 ∨ w = 12 ∨ w = 13 ∨ w = 14 by omega) with rfl | rfl | rfl | rfl | rfl | rfl | rfl | rfl | rfl <;> exact h1
  · exact h1
  · exact h1
theorem cm_codesX {K : zI → Prop} (hg : zGA g) {c0 x : Nat} {W cs : List Nat} (h : mC c0 σ W cs) (hl : W.length + cs.length < 160) (h1 : ∀ σ', mC c0 σ' W (cs ++ [x]) → mDf c0 σ σ' → K σ') : zCV mX8_codes d [.ref 57, .int (nI x)] g σ K := by
  obtain ⟨a1, a2, a3, a4, a5, a6, a7, a8⟩ := h
  refine s_X8_codes hg ?_
  rw [a3, c_nI (by omega), nI_1]
  refine ⟨v_in (by omega) (by omega), h1 _ ⟨by simp only [List.length_append, List.length_cons, List.length_nil]; omega, a2, ?_, ?_, ?_, ?_, ?_, a8⟩ ⟨zfr_put (zfr_put (zfr_rf _ _) (by decide)) (by decide), fun j hj => ?_, fun j hj => ?_⟩⟩
  · rw [zsI_no (Or.inl (by decide)), zsI_at, List.length_append]; rfl
  · rw [zsI_no (Or.inl (by decide)), zsI_no (Or.inr (by decide))]; exact a4
  · rw [zsI_no (Or.inl (by decide)), zsI_no (Or.inr (by decide))]; exact a5
  · rw [zsI_ne (by decide), zsI_ne (by decide)]; exact a6
  · exact mC_64 a7 (fun j hj => by rw [zsI_no (Or.inr hj), zsI_no (Or.inl (by decide))]) zsI_at
  · rw [zsI_no (Or.inl (by decide)), zsI_no (Or.inr (fun e => hj (by rw [e]; decide)))]
  · rw [zsI_no (Or.inr (by omega)), zsI_no (Or.inl (by decide))]
theorem cm_pushX {K : zI → Prop} (hg : zGA g) {c0 w : Nat} {W cs : List Nat} (h : mC c0 σ W cs) (hl : W.length + cs.length < 160) (hw : wok w) (h1 : ∀ σ', mC c0 σ' (w :: W) cs → mDf c0 σ σ' → K σ') : zCV mX8_push (d + 1) [.ref 57, .int (wIX w)] g σ K := by
  obtain ⟨a1, a2, a3, a4, a5, a6, a7, a8⟩ := h
  have ol := opn_le W
  refine s_X8_push hg ?_
  rw [a4, c_nI (by omega), a5, nI_1, nI_1]
  have st : ∀ x : Int32, stk (upd (σ 65) W.length x) (x :: W.map wIX) := fun x => by
    have := stk_put (x := x) a6
    rw [List.length_map] at this
    exact this
  have al : ∀ u, u ∈ w :: W → wok u := fun u hu => by
    rcases List.mem_cons.mp hu with q | q
    · rw [q]; exact hw
    · exact a8 u q
  have one : (w = 13 ∨ w = 14 ∨ w = 100 ∨ w = 101) → K (zsI (zsI (zsI σ 57 19 (nI (W.length + 1))) 65 W.length (wIX w)) 57 20 (nI (opn W + 1))) := fun c => by
    refine h1 _ ⟨by simp only [List.length_cons]; omega, a2, ?_, ?_, ?_, ?_, ?_, al⟩ ⟨zfr_put (zfr_put (zfr_put (zfr_rf _ _) (by decide)) (by decide)) (by decide), fun j hj => ?_, fun j hj => ?_⟩
    · rw [zsI_no (Or.inr (by decide)), zsI_no (Or.inl (by decide)), zsI_no (Or.inr (by decide))]; exact a3
    · rw [zsI_no (Or.inr (by decide)), zsI_no (Or.inl (by decide)), zsI_at]; rfl
    · rw [zsI_at]
      show nI (opn W + 1) = nI ((if w = 13 ∨ w = 14 ∨ w = 100 ∨ w = 101 then 1 else 0) + opn W)
      rw [if_pos c, Nat.add_comm]
    · rw [zsI_ne (by decide), zsI_row, zsI_ne (by decide)]; exact st _
    · rw [zsI_ne (by decide), zsI_ne (by decide), zsI_ne (by decide)]; exact a7
    · rw [zsI_no (Or.inr (fun e => hj (by rw [e]; decide))), zsI_no (Or.inl (by decide)), zsI_no (Or.inr (fun e => hj (by rw [e]; decide)))]
    · rw [zsI_no (Or.inl (by decide)), zsI_no (Or.inl (by decide)), zsI_no (Or.inl (by decide))]
  refine ⟨v_in (by omega) (by omega), ?_⟩
  by_cases c13 : w = 13
  · have e : wIX w = 13 := by rw [c13]; rfl
    rw [if_pos e]
    exact one (Or.inl c13)
  · by_cases c14 : w = 14
    · have e : wIX w = 14 := by rw [c14]; rfl
      rw [if_neg (by rw [e]; decide), if_pos e]
      exact one (Or.inr (Or.inl c14))
    · have n13 : ¬ wIX w = 13 := by
        rcases hw with u | rfl | rfl
        · rw [wIX_n u.2]
          exact fun e => c13 ((nI_eq (a := w) (b := 13) (by omega) (by omega)).mp e)
        · decide
        · decide
      have n14 : ¬ wIX w = 14 := by
        rcases hw with u | rfl | rfl
        · rw [wIX_n u.2]
          exact fun e => c14 ((nI_eq (a := w) (b := 14) (by omega) (by omega)).mp e)
        · decide
        · decide
      rw [if_neg n13, if_neg n14]
      refine cm_rank hg hw (i_eq (rkX w) 0 rfl rfl (by have := rkX_le w; omega) (by omega) (fun q => ?_) (fun q => ?_))
      · have c : w = 100 ∨ w = 101 := by
          rcases hw with u | u | u
          · rcases (show w = 6 ∨ w = 7 ∨ w = 8 ∨ w = 9 ∨ w = 10 ∨ w = 11 ∨ w = 12 ∨ w = 13 ∨ w = 14 by omega) with rfl | rfl | rfl | rfl | rfl | rfl | rfl | rfl | rfl <;> exact absurd q (by decide)
          · exact Or.inl u
          · exact Or.inr u
        rw [zsI_no (Or.inl (by decide)), zsI_no (Or.inr (by decide)), a5, nI_1]
        exact one (by omega)
      · have u := rkX_w hw (by omega)
        refine h1 _ ⟨by simp only [List.length_cons]; omega, a2, ?_, ?_, ?_, ?_, ?_, al⟩ ⟨zfr_put (zfr_put (zfr_rf _ _) (by decide)) (by decide), fun j hj => ?_, fun j hj => ?_⟩
        · rw [zsI_no (Or.inl (by decide)), zsI_no (Or.inr (by decide))]; exact a3
        · rw [zsI_no (Or.inl (by decide)), zsI_at]; rfl
        · rw [zsI_no (Or.inl (by decide)), zsI_no (Or.inr (by decide)), a5]
          show nI (opn W) = nI ((if w = 13 ∨ w = 14 ∨ w = 100 ∨ w = 101 then 1 else 0) + opn W)
          rw [if_neg (by omega), Nat.zero_add]
        · rw [zsI_row, zsI_ne (by decide)]; exact st _
        · rw [zsI_ne (by decide), zsI_ne (by decide)]; exact a7
        · rw [zsI_no (Or.inl (by decide)), zsI_no (Or.inr (fun e => hj (by rw [e]; decide)))]
        · rw [zsI_no (Or.inl (by decide)), zsI_no (Or.inl (by decide))]
theorem stk_hd {f : Nat → Int32} {w : Nat} {W : List Nat} (h : stk f ((w :: W).map wIX)) : f W.length = wIX w ∧ stk f (W.map wIX) := by
  have h : f (W.map wIX).length = wIX w ∧ stk f (W.map wIX) := h
  rw [List.length_map] at h
  exact h
theorem cm_laysT {K : zI → Prop} (hg : zGA g) {c0 m : Nat} (hm : 1 ≤ m) (hm7 : m ≤ 7) : ∀ (W cs : List Nat) (σ : zI), mC c0 σ W cs → (∀ σ', mC c0 σ' (layX m W cs).1 (layX m W cs).2 → mDf c0 σ σ' → K σ') →
    (if ((σ 57 19) ≤ 0 : Prop) then K σ else vp_in ((σ 57 19) - 1) 200 ∧ zCI mX8_rank d [.int (σ 65 (((σ 57 19) - 1 : Int32).toNatClampNeg))] g σ (fun v1 σ1 => (if (v1 < nI m : Prop) then K σ1 else vp_in ((σ1 57 19) - 1) 200 ∧ zCV mX8_codes d [.ref 57, .int (σ1 65 (((σ1 57 19) - 1 : Int32).toNatClampNeg))] g (zsI σ1 57 19 ((σ1 57 19) - 1)) (fun σ2 => vp_in (σ2 57 19) 200 ∧ (if ((σ2 65 ((σ2 57 19 : Int32).toNatClampNeg)) = 13 : Prop) then p_X8_lays_0 d g K (zsI σ2 57 20 ((σ2 57 20) - 1)) (nI m) else vp_in (σ2 57 19) 200 ∧ (if ((σ2 65 ((σ2 57 19 : Int32).toNatClampNeg)) = 14 : Prop) then p_X8_lays_0 d g K (zsI σ2 57 20 ((σ2 57 20) - 1)) (nI m) else p_X8_lays_0 d g K σ2 (nI m)))))))
  | [], cs, σ, h, h1 => by
    rw [h.2.2.2.1]
    exact i_le 0 0 rfl rfl (by omega) (by omega) (fun _ => h1 σ h (mDf_rf c0 σ)) (fun q => by omega)
  | w :: W, cs, σ, h, h1 => by
    obtain ⟨a1, a2, a3, a4, a5, a6, a7, a8⟩ := h
    obtain ⟨s1, s2⟩ := stk_hd a6
    have a4 : σ 57 19 = nI (W.length + 1) := a4
    have a1 : W.length + 1 + cs.length ≤ 160 := a1
    have hw := a8 w List.mem_cons_self
    have e1 : nI (W.length + 1) - 1 = nI W.length := nI_pred W.length
    have rk7 := rkX_le w
    rw [a4, e1, c_nI (by omega), s1]
    refine i_le (W.length + 1) 0 rfl rfl (by omega) (by omega) (fun q => by omega) (fun _ => ⟨v_in (by omega) (by omega), cm_rank hg hw (i_lt (rkX w) m rfl rfl (by omega) (by omega) (fun q => ?_) (fun q => ?_))⟩)
    · rw [layX_n q] at h1
      exact h1 σ ⟨a1, a2, a3, a4, a5, a6, a7, a8⟩ (mDf_rf c0 σ)
    · rw [layX_y q] at h1
      obtain ⟨w6, w14⟩ := rkX_w hw (by omega)
      rw [a4, e1, c_nI (by omega), s1, wIX_n w14]
      refine ⟨v_in (by omega) (by omega), s_X8_codes hg ?_⟩
      rw [zsI_no (Or.inr (by decide)), a3, c_nI (by omega), nI_1]
      generalize hs : zsI (zsI (zsI σ 57 19 (nI W.length)) 57 12 (nI (c0 + cs.length + 1))) 64 (c0 + cs.length) (nI w) = σ2
      have r19 : σ2 57 19 = nI W.length := by rw [← hs, zsI_no (Or.inl (by decide)), zsI_no (Or.inr (by decide)), zsI_at]
      have r12 : σ2 57 12 = nI (c0 + cs.length + 1) := by rw [← hs, zsI_no (Or.inl (by decide)), zsI_at]
      have r65 : σ2 65 = σ 65 := by rw [← hs, zsI_ne (by decide), zsI_ne (by decide), zsI_ne (by decide)]
      have r20 : σ2 57 20 = nI (opn (w :: W)) := by rw [← hs, zsI_no (Or.inl (by decide)), zsI_no (Or.inr (by decide)), zsI_no (Or.inr (by decide))]; exact a5
      have r64 : ∀ i y, (cs ++ [w])[i]? = some y → σ2 64 (c0 + i) = nI y := by
        rw [← hs]
        exact mC_64 a7 (fun j hj => by rw [zsI_no (Or.inr hj), zsI_no (Or.inl (by decide)), zsI_no (Or.inl (by decide))]) zsI_at
      have rD : mDf c0 σ σ2 := by
        rw [← hs]
        refine ⟨zfr_put (zfr_put (zfr_put (zfr_rf _ _) (by decide)) (by decide)) (by decide), fun j hj => ?_, fun j hj => ?_⟩
        · rw [zsI_no (Or.inl (by decide)), zsI_no (Or.inr (fun e => hj (by rw [e]; decide))), zsI_no (Or.inr (fun e => hj (by rw [e]; decide)))]
        · rw [zsI_no (Or.inr (by omega)), zsI_no (Or.inl (by decide)), zsI_no (Or.inl (by decide))]
      have alW : ∀ u, u ∈ W → wok u := fun u hu => a8 u (List.mem_cons_of_mem _ hu)
      have go : ∀ σ3, mC c0 σ3 W (cs ++ [w]) → mDf c0 σ σ3 → p_X8_lays_0 d g K σ3 (nI m) := fun σ3 h3 hd3 =>
        s_X8_lays_0 hg (cm_laysT hg hm hm7 W (cs ++ [w]) σ3 h3 (fun σ' h4 hd4 => h1 σ' h4 (mDf_tr hd3 hd4)))
      have len : W.length + (cs ++ [w]).length ≤ 160 := by simp only [List.length_append, List.length_cons, List.length_nil]; omega
      have cl : (cs ++ [w]).length = cs.length + 1 := by simp
      have one : (w = 13 ∨ w = 14) → p_X8_lays_0 d g K (zsI σ2 57 20 (σ2 57 20 - 1)) (nI m) := fun c => by
        refine go _ ⟨len, a2, ?_, ?_, ?_, ?_, ?_, alW⟩ (mDf_tr rD ⟨zfr_put (zfr_rf _ _) (by decide), fun j hj => zsI_no (Or.inr (fun e => hj (by rw [e]; decide))), fun j hj => zsI_no (Or.inl (by decide))⟩)
        · rw [zsI_no (Or.inr (by decide)), r12, cl, Nat.add_assoc]
        · rw [zsI_no (Or.inr (by decide))]; exact r19
        · rw [zsI_at, r20]
          have e : opn (w :: W) = opn W + 1 := by
            show (if w = 13 ∨ w = 14 ∨ w = 100 ∨ w = 101 then 1 else 0) + opn W = _
            rw [if_pos (by omega), Nat.add_comm]
          rw [e]
          exact nI_pred _
        · rw [zsI_ne (by decide), r65]; exact s2
        · rw [zsI_ne (by decide)]; exact r64
      rw [r19, c_nI (by omega), r65, s1, wIX_n w14]
      refine ⟨v_in (by omega) (by omega), v_in (by omega) (by omega), i_eq w 13 rfl rfl (by omega) (by omega) (fun q => one (Or.inl q)) (fun q => ⟨v_in (by omega) (by omega), i_eq w 14 rfl rfl (by omega) (by omega) (fun q2 => one (Or.inr q2)) (fun q2 => go σ2 ⟨len, a2, ?_, r19, ?_, ?_, r64, alW⟩ rD)⟩)⟩
      · rw [r12, cl, Nat.add_assoc]
      · rw [r20]
        show nI ((if w = 13 ∨ w = 14 ∨ w = 100 ∨ w = 101 then 1 else 0) + opn W) = _
        rw [if_neg (by omega), Nat.zero_add]
      · rw [r65]; exact s2
theorem cm_lays {K : zI → Prop} (hg : zGA g) {c0 m : Nat} {W cs : List Nat} (hm : 1 ≤ m) (hm7 : m ≤ 7) (h : mC c0 σ W cs) (h1 : ∀ σ', mC c0 σ' (layX m W cs).1 (layX m W cs).2 → mDf c0 σ σ' → K σ') : zCV mX8_lays (d + 1) [.ref 57, .int (nI m)] g σ K :=
  s_X8_lays hg (cm_laysT hg hm hm7 W cs σ h h1)
end
