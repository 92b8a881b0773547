/-! one step of the reference's reading -/
def mFr (σ0 : zI) (c0 : Nat) (σ : zI) : Prop := zfr [57, 64, 65] σ0 σ ∧ (∀ j, j ∉ [12, 13, 14, 15, 16, 17, 19, 20, 21, 22, 23] → σ 57 j = σ0 57 j) ∧ ∀ j, j < c0 → σ 64 j = σ0 64 j
def tkB (t : Nat) : Bool := decide (t ≤ 2) || (isSg t || decide (1000 ≤ t))
def mQ (σ0 : zI) (z : Nat) (B : Nat → Nat) (c0 : Nat) (σ : zI) (k : zTk) (W cs : List Nat) (cm be st : Bool) (b : Nat) : Prop :=
  mC c0 σ W cs ∧ mP σ z B ∧ mK σ k ∧ okT z k ∧ tkB k.2.2.1 = true ∧ W.length + cs.length ≤ b ∧ σ 57 21 = bI cm ∧ σ 57 22 = bI be ∧ σ 57 23 = bI st ∧ mFr σ0 c0 σ
theorem lxX_tk {B : Nat → Nat} {z p : Nat} : tkB (lxX B z p).2.2.1 = true := by
  unfold lxX
  generalize bgX B z p = b
  unfold tkA
  split
  · rfl
  · split
    · have := tkW_in B b (enX isLt B z b - b) 12
      show tkB (tkW B b (enX isLt B z b - b) 12) = true
      unfold tkB
      rcases this with u | u
      · rw [u]; rfl
      · simp; omega
    · split
      · show tkB (if enX isDg B z b - b ≤ 4 then 2 else 0) = true
        split <;> rfl
      · split
        · next h =>
          show tkB (B b) = true
          unfold tkB
          rw [h]
          simp
        · rfl
theorem tk_119 : ∀ t, t < 1012 → tkB t = true → (tkM t = 119 ↔ 1000 ≤ t) := by decide +kernel
theorem tk_48 : ∀ t, t < 1012 → tkB t = true → (tkM t = 48 ↔ t = 2) := by decide +kernel
theorem tk_101 : ∀ t, t < 1012 → tkB t = true → (tkM t = 101 ↔ t = 1) := by decide +kernel
theorem tk_sg : ∀ s, s < 62 → isSg s = true → ∀ t, t < 1012 → tkB t = true → (tkM t = nI s ↔ t = s) := by decide +kernel
theorem k_119 {A D : Prop} {z : Nat} {k : zTk} (hk : okT z k) (h : tkB k.2.2.1 = true) (f : 1000 ≤ k.2.2.1 → A) (g : ¬ 1000 ≤ k.2.2.1 → D) : if tkM k.2.2.1 = 119 then A else D := by
  have t := hk.2.2.2.2
  have e := tk_119 k.2.2.1 (by omega) h
  by_cases q : 1000 ≤ k.2.2.1
  · rw [if_pos (e.mpr q)]; exact f q
  · rw [if_neg (fun u => q (e.mp u))]; exact g q
theorem k_48 {A D : Prop} {z : Nat} {k : zTk} (hk : okT z k) (h : tkB k.2.2.1 = true) (f : k.2.2.1 = 2 → A) (g : ¬ k.2.2.1 = 2 → D) : if tkM k.2.2.1 = 48 then A else D := by
  have t := hk.2.2.2.2
  have e := tk_48 k.2.2.1 (by omega) h
  by_cases q : k.2.2.1 = 2
  · rw [if_pos (e.mpr q)]; exact f q
  · rw [if_neg (fun u => q (e.mp u))]; exact g q
theorem k_sg {A D : Prop} {z : Nat} {k : zTk} {x : Int32} (s : Nat) (hx : x = nI s) (hs : isSg s = true) (hk : okT z k) (h : tkB k.2.2.1 = true) (f : k.2.2.1 = s → A) (g : ¬ k.2.2.1 = s → D) : if tkM k.2.2.1 = x then A else D := by
  subst hx
  have t := hk.2.2.2.2
  have s62 := of_decide_eq_true hs
  have e := tk_sg s (by omega) hs k.2.2.1 (by omega) h
  by_cases q : k.2.2.1 = s
  · rw [if_pos (e.mpr q)]; exact f q
  · rw [if_neg (fun u => q (e.mp u))]; exact g q
theorem b_if {A D : Prop} {b : Bool} (f : b = false → A) (g : b = true → D) : if bI b = 0 then A else D := by
  cases b with
  | false => exact f rfl
  | true => exact g rfl
/-- the sign that a TOKEN is behind a ONE -/
def sgX (t : Nat) (cm : Bool) : Option Nat := if t = 42 then some 8 else if t = 43 then some 6 else if t = 45 then some 7 else if t = 60 then (if cm then none else some 9) else if t = 61 then (if cm then none else some 10) else if t = 1010 then some 11 else if t = 1009 then some 12 else none
section
variable {d : Nat} {g : zG} {σ0 σ : zI} {z c0 : Nat} {B : Nat → Nat} {k : zTk} {W cs : List Nat} {cm be st : Bool} {b : Nat}
theorem mFr_D {σ' : zI} (h : mFr σ0 c0 σ) (hd : mDf c0 σ σ') : mFr σ0 c0 σ' := ⟨zfr_tr h.1 hd.1, fun j hj => by
  rw [hd.2.1 j (fun q => hj (by simp at q ⊢; omega))]
  exact h.2.1 j hj, fun j hj => (hd.2.2 j hj).trans (h.2.2 j hj)⟩
theorem mK_D {σ' : zI} (h : mK σ k) (hd : ∀ j, j ∉ [12, 19, 20] → σ' 57 j = σ 57 j) : mK σ' k := by
  obtain ⟨a1, a2, a3, a4, a5⟩ := h
  exact ⟨by rw [hd 13 (by decide)]; exact a1, by rw [hd 14 (by decide)]; exact a2, by rw [hd 15 (by decide)]; exact a3, fun q => by rw [hd 17 (by decide)]; exact a4 q, fun q => by rw [hd 16 (by decide)]; exact a5 q⟩
theorem mQ_core {σ' : zI} {W' cs' : List Nat} {b' : Nat} (h : mQ σ0 z B c0 σ k W cs cm be st b) (hC : mC c0 σ' W' cs') (hd : mDf c0 σ σ') (hb : W'.length + cs'.length ≤ b') : mQ σ0 z B c0 σ' k W' cs' cm be st b' := by
  obtain ⟨a1, a2, a3, a4, a5, a6, a7, a8, a9, a10⟩ := h
  refine ⟨hC, ⟨a2.1, by rw [hd.2.1 6 (by decide)]; exact a2.2.1, fun i hi => by rw [hd.1 61 (by decide)]; exact a2.2.2 i hi⟩, mK_D a3 hd.2.1, a4, a5, hb, by rw [hd.2.1 21 (by decide)]; exact a7, by rw [hd.2.1 22 (by decide)]; exact a8, by rw [hd.2.1 23 (by decide)]; exact a9, mFr_D a10 hd⟩
theorem mC_fl {j : Nat} {x : Int32} (h : mC c0 σ W cs) (hj : j = 21 ∨ j = 22 ∨ j = 23) : mC c0 (zsI σ 57 j x) W cs := by
  obtain ⟨a1, a2, a3, a4, a5, a6, a7, a8⟩ := h
  exact ⟨a1, a2, by rw [zsI_no (by omega)]; exact a3, by rw [zsI_no (by omega)]; exact a4, by rw [zsI_no (by omega)]; exact a5, by rw [zsI_ne (by decide)]; exact a6, by rw [zsI_ne (by decide)]; exact a7, a8⟩
theorem mQ_rest {j : Nat} {x : Int32} (h : mQ σ0 z B c0 σ k W cs cm be st b) (hj : j = 21 ∨ j = 22 ∨ j = 23) : mC c0 (zsI σ 57 j x) W cs ∧ mP (zsI σ 57 j x) z B ∧ mK (zsI σ 57 j x) k ∧ mFr σ0 c0 (zsI σ 57 j x) := by
  obtain ⟨a1, a2, a3, a4, a5, a6, a7, a8, a9, a10⟩ := h
  refine ⟨mC_fl a1 hj, ⟨a2.1, by rw [zsI_no (by omega)]; exact a2.2.1, fun i hi => by rw [zsI_ne (by decide)]; exact a2.2.2 i hi⟩, ⟨by rw [zsI_no (by omega)]; exact a3.1, by rw [zsI_no (by omega)]; exact a3.2.1, by rw [zsI_no (by omega)]; exact a3.2.2.1, fun q => by rw [zsI_no (by omega)]; exact a3.2.2.2.1 q, fun q => by rw [zsI_no (by omega)]; exact a3.2.2.2.2 q⟩, zfr_put a10.1 (by decide), fun i hi => ?_, fun i hi => ?_⟩
  · have : i ≠ j := fun e => hi (by simp; omega)
    rw [zsI_no (Or.inr this)]
    exact a10.2.1 i hi
  · rw [zsI_no (Or.inl (by decide))]
    exact a10.2.2 i hi
theorem mQ_21 (h : mQ σ0 z B c0 σ k W cs cm be st b) (x : Bool) : mQ σ0 z B c0 (zsI σ 57 21 (bI x)) k W cs x be st b := by
  obtain ⟨r1, r2, r3, r4⟩ := mQ_rest (j := 21) (x := bI x) h (by omega)
  obtain ⟨a1, a2, a3, a4, a5, a6, a7, a8, a9, a10⟩ := h
  exact ⟨r1, r2, r3, a4, a5, a6, zsI_at, by rw [zsI_no (by omega)]; exact a8, by rw [zsI_no (by omega)]; exact a9, r4⟩
theorem mQ_22 (h : mQ σ0 z B c0 σ k W cs cm be st b) (x : Bool) : mQ σ0 z B c0 (zsI σ 57 22 (bI x)) k W cs cm x st b := by
  obtain ⟨r1, r2, r3, r4⟩ := mQ_rest (j := 22) (x := bI x) h (by omega)
  obtain ⟨a1, a2, a3, a4, a5, a6, a7, a8, a9, a10⟩ := h
  exact ⟨r1, r2, r3, a4, a5, a6, by rw [zsI_no (by omega)]; exact a7, zsI_at, by rw [zsI_no (by omega)]; exact a9, r4⟩
theorem mQ_23 (h : mQ σ0 z B c0 σ k W cs cm be st b) (x : Bool) : mQ σ0 z B c0 (zsI σ 57 23 (bI x)) k W cs cm be x b := by
  obtain ⟨r1, r2, r3, r4⟩ := mQ_rest (j := 23) (x := bI x) h (by omega)
  obtain ⟨a1, a2, a3, a4, a5, a6, a7, a8, a9, a10⟩ := h
  exact ⟨r1, r2, r3, a4, a5, a6, by rw [zsI_no (by omega)]; exact a7, by rw [zsI_no (by omega)]; exact a8, zsI_at, r4⟩
theorem mQ_nx {K : zI → Prop} (hg : zGA g) (h : mQ σ0 z B c0 σ k W cs cm be st k.2.1) (h1 : ∀ σ', mQ σ0 z B c0 σ' (nXT B z k) W cs cm be st (nXT B z k).1 → K σ') : zCV mX8_next (d + 1) [.ref 57] g σ K := by
  obtain ⟨a1, a2, a3, a4, a5, a6, a7, a8, a9, a10⟩ := h
  obtain ⟨n1, n2⟩ := lxX_ok (B := B) (p := k.2.1) a4.2.1
  refine cm_next hg a2 a3.2.1 a4.2.1 (fun σ' hf hk => h1 σ' ?_)
  obtain ⟨b1, b2, b3, b4, b5, b6, b7, b8⟩ := a1
  have n2 : k.2.1 ≤ (nXT B z k).1 := n2
  refine ⟨⟨b1, b2, by rw [hf.2 12 (by decide)]; exact b3, by rw [hf.2 19 (by decide)]; exact b4, by rw [hf.2 20 (by decide)]; exact b5, by rw [hf.1 65 (by decide)]; exact b6, by rw [hf.1 64 (by decide)]; exact b7, b8⟩, mP_7 a2 hf (by decide), hk, n1, lxX_tk, by omega, by rw [hf.2 21 (by decide)]; exact a7, by rw [hf.2 22 (by decide)]; exact a8, by rw [hf.2 23 (by decide)]; exact a9, zfr_tr a10.1 (zfr_up hf.1 (by decide)), fun j hj => ?_, fun j hj => ?_⟩
  · rw [hf.2 j (fun q => hj (by simp at q ⊢; omega))]
    exact a10.2.1 j hj
  · rw [hf.1 64 (by decide)]
    exact a10.2.2 j hj
theorem cm_signed {K : Int32 → zI → Prop} (hg : zGA g) (h : mQ σ0 z B c0 σ k W cs cm be st b) (hs : ∀ c, sgX k.2.2.1 cm = some c → K (nI c) σ) (hn : sgX k.2.2.1 cm = none → K (-1) σ) : zCI mX8_signed d [.ref 57] g σ K := by
  obtain ⟨a1, a2, a3, a4, a5, a6, a7, a8, a9, a10⟩ := h
  have t2 := a4.2.2.2.2
  unfold sgX at hs hn
  refine s_X8_signed hg ?_
  rw [a3.2.2.1, a7]
  refine k_sg 42 rfl rfl a4 a5 (fun q => hs 8 (by rw [if_pos q])) (fun n1 => k_sg 43 rfl rfl a4 a5 (fun q => hs 6 (by rw [if_neg n1, if_pos q])) (fun n2 => k_sg 45 rfl rfl a4 a5 (fun q => hs 7 (by rw [if_neg n1, if_neg n2, if_pos q])) (fun n3 => k_sg 60 rfl rfl a4 a5 (fun q => b_if (fun c => hs 9 (by rw [if_neg n1, if_neg n2, if_neg n3, if_pos q, c]; rfl)) (fun c => hn (by rw [if_neg n1, if_neg n2, if_neg n3, if_pos q, c]; rfl))) (fun n4 => k_sg 61 rfl rfl a4 a5 (fun q => b_if (fun c => hs 10 (by rw [if_neg n1, if_neg n2, if_neg n3, if_neg n4, if_pos q, c]; rfl)) (fun c => hn (by rw [if_neg n1, if_neg n2, if_neg n3, if_neg n4, if_pos q, c]; rfl))) (fun n5 => k_119 a4 a5 (fun q => ?_) (fun q => hn (by rw [if_neg n1, if_neg n2, if_neg n3, if_neg n4, if_neg n5, if_neg (by omega), if_neg (by omega)])))))))
  rw [a3.2.2.2.1 q]
  have hx := HX_lt (k.2.2.1 - 1000) (by omega)
  have hne10 := HX_ne (k.2.2.1 - 1000) (by omega) 10 (by omega)
  have hne9 := HX_ne (k.2.2.1 - 1000) (by omega) 9 (by omega)
  have hv1 : k.2.2.1 = 1010 → HX.getD (k.2.2.1 - 1000) 0 = 1111 := fun u => by rw [u]; rfl
  have hv2 : k.2.2.1 = 1009 → HX.getD (k.2.2.1 - 1000) 0 = 423 := fun u => by rw [u]; rfl
  generalize HX.getD (k.2.2.1 - 1000) 0 = v at *
  have w1 : HX.getD 10 0 = 1111 := rfl
  have w2 : HX.getD 9 0 = 423 := rfl
  rw [w1] at hne10
  rw [w2] at hne9
  have vl : v < 2147483648 := Nat.lt_trans hx (by decide)
  by_cases e : v = 1111
  · have e3 := hne10 e
    rw [if_pos (show nI v = 1111 by rw [e]; rfl)]
    exact hs 11 (by rw [if_neg n1, if_neg n2, if_neg n3, if_neg n4, if_neg n5, if_pos (by omega)])
  · rw [if_neg (show ¬ nI v = 1111 from fun u => e ((nI_eq (a := v) (b := 1111) (by omega) (by decide)).mp u))]
    by_cases e2 : v = 423
    · have e3 := hne9 e2
      rw [if_pos (show nI v = 423 by rw [e2]; rfl)]
      exact hs 12 (by rw [if_neg n1, if_neg n2, if_neg n3, if_neg n4, if_neg n5, if_neg (by omega), if_pos (by omega)])
    · rw [if_neg (show ¬ nI v = 423 from fun u => e2 ((nI_eq (a := v) (b := 423) (by omega) (by decide)).mp u))]
      exact hn (by rw [if_neg n1, if_neg n2, if_neg n3, if_neg n4, if_neg n5, if_neg (fun u => e (hv1 u)), if_neg (fun u => e2 (hv2 u))])
theorem sgX_in {t c : Nat} {cm : Bool} (h : sgX t cm = some c) : 6 ≤ c ∧ c ≤ 12 ∧ t ≠ 1 ∧ t ≠ 41 ∧ t ≠ 59 := by
  unfold sgX at h
  repeat' (split at h)
  all_goals (first | (cases h; done) | (simp at h; omega))
/-- p45 in a state behind a ONE: the loop's head -/
theorem m_behind {K : Int32 → zI → Prop} {l1 : Int32} (hg : zGA g) (h : mQ σ0 z B c0 σ k W cs cm true st b) (h59 : k.2.2.1 = 59 → zCV mX8_lays d [.ref 57, .int 1] g σ (fun σ1 => (if ((σ1 57 19) ≤ 0 : Prop) then vp_in l1 18 ∧ vp_in l1 18 ∧ zCV mX8_next d [.ref 57] g (zsI σ1 63 l1.toNatClampNeg ((σ1 57 12) - (σ1 62 l1.toNatClampNeg))) (fun σ2 => K 1 σ2) else K 0 σ1)))
    (hgo : ¬ k.2.2.1 = 59 → zCI mX8_goesOn d [.ref 57] g σ (fun v1 σ1 => (if v1 = 0 then K 0 σ1 else zCV mX8_next d [.ref 57] g σ1 (fun σ2 => p_X8_part_45 d g K σ2 l1)))) : p_X8_part_45 d g K σ l1 := by
  obtain ⟨a1, a2, a3, a4, a5, a6, a7, a8, a9, a10⟩ := h
  refine s_X8_part_45 hg ?_
  rw [a8, a3.2.2.1]
  exact b_if (fun q => by cases q) (fun _ => k_sg 59 rfl rfl a4 a5 h59 hgo)
theorem m_ahead {K : Int32 → zI → Prop} {l1 : Int32} (hg : zGA g) (h : mQ σ0 z B c0 σ k W cs cm false st b) (hgo : zCI mX8_one d [.ref 57, .int (bI st)] g σ (fun v1 σ1 => (v1 = 0 ∨ v1 = 1) ∧ (if v1 = 0 then K 0 σ1 else zCV mX8_next (d + 1) [.ref 57] g σ1 (fun σ2 => p_X8_part_45 (d + 1) g K σ2 l1)))) : p_X8_part_45 (d + 1) g K σ l1 := by
  obtain ⟨a1, a2, a3, a4, a5, a6, a7, a8, a9, a10⟩ := h
  refine s_X8_part_45 hg ?_
  rw [a8]
  refine b_if (fun _ => s_X8_goesOn hg ?_) (fun q => by cases q)
  rw [a8, a9]
  exact b_if (fun _ => hgo) (fun q => by cases q)
/-- a sign behind a ONE -/
theorem m_op {K : Int32 → zI → Prop} {l1 : Int32} {c : Nat} (hg : zGA g) (h : mQ σ0 z B c0 σ k W cs cm true st k.1) (hc : sgX k.2.2.1 cm = some c)
    (h1 : ∀ σ', mQ σ0 z B c0 σ' (nXT B z k) (c :: (layX (rkX c) W cs).1) (layX (rkX c) W cs).2 (if rkX c < 3 then false else if rkX c = 4 then true else cm) false (decide (rkX c < 3)) (nXT B z k).1 → p_X8_part_45 (d + 3) g K σ' l1) : p_X8_part_45 (d + 3) g K σ l1 := by
  obtain ⟨c6, c12, t1, t41, t59⟩ := sgX_in hc
  have hk := h.2.2.2.1
  have b3 := hk.2.2.1 t1
  have b4 := hk.2.1
  have z160 := h.2.1.1
  have rk1 : 1 ≤ rkX c := by
    rcases (show c = 6 ∨ c = 7 ∨ c = 8 ∨ c = 9 ∨ c = 10 ∨ c = 11 ∨ c = 12 by omega) with rfl | rfl | rfl | rfl | rfl | rfl | rfl <;> decide
  have rk7 := rkX_le c
  have hwok : wok c := Or.inl ⟨c6, by omega⟩
  have ew : nI c = wIX c := (wIX_n (by omega)).symm
  have len := layX_len (rkX c) W cs
  have hl := h.2.2.2.2.2.1
  refine m_behind hg h (fun q => absurd q t59) (fun _ => s_X8_goesOn hg ?_)
  rw [h.2.2.2.2.2.2.2.1, h.2.2.1.2.2.1]
  refine b_if (fun q => by cases q) (fun _ => k_sg 41 rfl rfl hk h.2.2.2.2.1 (fun q => absurd q t41) (fun _ => cm_signed hg h (fun c' hc' => ?_) (fun q => by rw [hc] at q; cases q)))
  rw [hc] at hc'
  cases hc'
  rw [if_neg (fun u => by have := congrArg Int32.toInt u; rw [nI_toInt' (by omega)] at this; have e : (-1 : Int32).toInt = -1 := rfl; omega), ew]
  refine cm_rank hg hwok (cm_lays (d := d + 1) hg rk1 rk7 h.1 (fun σ1 hC1 hD1 => cm_pushX (d := d + 1) hg hC1 (by omega) hwok (fun σ2 hC2 hD2 => cm_rank hg hwok ?_)))
  have Q2 : mQ σ0 z B c0 σ2 k (c :: (layX (rkX c) W cs).1) (layX (rkX c) W cs).2 cm true st k.2.1 := mQ_core h hC2 (mDf_tr hD1 hD2) (by simp only [List.length_cons]; omega)
  have Q3 := mQ_22 Q2 false
  have fin : ∀ σ4 cm' st', mQ σ0 z B c0 σ4 k (c :: (layX (rkX c) W cs).1) (layX (rkX c) W cs).2 cm' false st' k.2.1 → cm' = (if rkX c < 3 then false else if rkX c = 4 then true else cm) → st' = decide (rkX c < 3) → (if (1 : Int32) = 0 then K 0 σ4 else zCV mX8_next (d + 3) [.ref 57] g σ4 (fun σ5 => p_X8_part_45 (d + 3) g K σ5 l1)) := fun σ4 cm' st' Q4 e1 e2 => by
    subst e1
    subst e2
    exact z1 (mQ_nx (d := d + 2) hg Q4 h1)
  refine i_le 3 (rkX c) rfl rfl (by omega) (by omega) (fun q => cm_rank hg hwok (i_eq (rkX c) 4 rfl rfl (by omega) (by omega) (fun q4 => ?_) (fun q4 => ?_))) (fun q => ?_)
  · exact fin _ _ _ (mQ_21 (mQ_23 Q3 false) true) (by rw [if_neg (by omega), if_pos q4]) (by rw [decide_eq_false (by omega)])
  · exact fin _ _ _ (mQ_23 Q3 false) (by rw [if_neg (by omega), if_neg q4]) (by rw [decide_eq_false (by omega)])
  · exact fin _ _ _ (mQ_21 (mQ_23 Q3 true) false) (by rw [if_pos q]) (by rw [decide_eq_true q])
end
