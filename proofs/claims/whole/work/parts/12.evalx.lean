/-! the class's TEXTS; what they tell; what it COSTS -/
def enc (c : Nat) : Int32 := if c ≤ 5 then (-1) - nI c else if 15 ≤ c then nI (c - 15) else if c = 6 then -21 else if c = 7 then -22 else if c = 8 then -20 else if c = 9 then -23 else if c = 10 then -24 else if c = 11 then -25 else if c = 12 then -26 else if c = 13 then -11 else -12
def xTx (σ : zI) (T R dy : Nat) (P : Nat → Nat → List Nat) : Prop := T ≤ 6 ∧ R < T ∧ dy ≤ 99 ∧ σ 3 7 = nI dy ∧ σ 3 6 = nI R ∧ σ 3 5 = nI T ∧ ∀ t, t < T → ∀ q, q < 3 → okp (P t q) 0 ∧ ∃ s : Nat, σ (14 + t) q = nI s ∧ s + (P t q).length < 160 ∧ (∀ i c, (P t q)[i]? = some c → σ (7 + t) (s + i) = enc c) ∧ σ (7 + t) (s + (P t q).length) = -30
theorem xTx_fr {σ σ1 : zI} {l : List Nat} {T R dy : Nat} {P : Nat → Nat → List Nat} (h : xTx σ T R dy P) (hf : zfr l σ σ1) (hl : ∀ a, a ∈ l → a = 3 → False) (hl2 : ∀ a, a ∈ l → 7 ≤ a → a < 20 → False) : xTx σ1 T R dy P := by
  obtain ⟨h1, h2, h3, h4, h5, h6, h7⟩ := h
  have f3 := hf 3 (fun q => hl 3 q rfl)
  refine ⟨h1, h2, h3, by rw [f3]; exact h4, by rw [f3]; exact h5, by rw [f3]; exact h6, fun t ht q hq => ?_⟩
  rw [hf (14 + t) (fun z => hl2 _ z (by omega) (by omega)), hf (7 + t) (fun z => hl2 _ z (by omega) (by omega))]
  exact h7 t ht q hq
theorem xHr_fr {σ σ1 : zI} {l : List Nat} {a h k m o : Nat} (hh : xHr σ a h k m o) (hf : zfr l σ σ1) (hl : a ∉ l) : xHr σ1 a h k m o := by
  unfold xHr at hh ⊢
  rw [hf a hl]
  exact hh
section
variable {d : Nat} {g : zG} {σ : zI} {K : Int32 → zI → Prop}
theorem cx_joined (hg : zGA g) {c : Nat} (hc : 6 ≤ c) (hc2 : c ≤ 12) {a b : Int32} (h1 : K (bin c a b) σ) : zCI mX2_joined (d + 1) [.int (enc c), .int a, .int b] g σ K := by
  refine s_X2_joined hg.L ?_
  rcases (show c = 6 ∨ c = 7 ∨ c = 8 ∨ c = 9 ∨ c = 10 ∨ c = 11 ∨ c = 12 by omega) with rfl | rfl | rfl | rfl | rfl | rfl | rfl
  · rw [if_neg (by decide), if_neg (by decide), if_neg (by decide), if_neg (by decide), if_pos (by decide)]; exact h1
  · rw [if_neg (by decide), if_neg (by decide), if_neg (by decide), if_pos (by decide)]; exact h1
  · rw [if_neg (by decide), if_neg (by decide), if_neg (by decide), if_neg (by decide), if_neg (by decide), if_pos (by decide)]; exact h1
  · rw [if_neg (by decide), if_neg (by decide), if_pos (by decide)]
    have e : bin 9 a b = if b ≤ a then 0 else 1 := rfl
    rw [e] at h1
    by_cases q : b ≤ a
    · rw [if_pos q] at h1 ⊢; exact cx_truth hg (fun _ => h1) (fun z => absurd rfl z)
    · rw [if_neg q] at h1 ⊢; exact cx_truth hg (fun z => absurd z (by decide)) (fun _ => h1)
  · rw [if_neg (by decide), if_pos (by decide)]
    have e : bin 10 a b = if a = b then 1 else 0 := rfl
    rw [e] at h1
    by_cases q : a = b
    · rw [if_pos q] at h1 ⊢; exact cx_truth hg (fun z => absurd z (by decide)) (fun _ => h1)
    · rw [if_neg q] at h1 ⊢; exact cx_truth hg (fun _ => h1) (fun z => absurd rfl z)
  · rw [if_pos (by decide)]
    have e : bin 11 a b = if a = 0 then 0 else if b = 0 then 0 else 1 := rfl
    rw [e] at h1
    by_cases q : a = 0
    · rw [if_pos q] at h1 ⊢; exact cx_truth hg (fun _ => h1) (fun z => absurd rfl z)
    · rw [if_neg q] at h1 ⊢
      by_cases q2 : b = 0
      · rw [if_pos q2] at h1 ⊢; exact cx_truth hg (fun _ => h1) (fun z => absurd rfl z)
      · rw [if_neg q2] at h1 ⊢; exact cx_truth hg (fun z => absurd z (by decide)) (fun _ => h1)
  · rw [if_neg (by decide), if_neg (by decide), if_neg (by decide), if_neg (by decide), if_neg (by decide), if_neg (by decide)]
    have e : bin 12 a b = if a = 0 then (if b = 0 then 0 else 1) else 1 := rfl
    rw [e] at h1
    by_cases q : a = 0
    · rw [if_pos q] at h1 ⊢
      by_cases q2 : b = 0
      · rw [if_pos q2] at h1 ⊢; exact cx_truth hg (fun _ => h1) (fun z => absurd rfl z)
      · rw [if_neg q2] at h1 ⊢; exact cx_truth hg (fun z => absurd z (by decide)) (fun _ => h1)
    · rw [if_neg q] at h1 ⊢; exact cx_truth hg (fun z => absurd z (by decide)) (fun _ => h1)
theorem enc_op : ∀ c, 6 ≤ c → c ≤ 14 → ¬ enc c = -30 ∧ enc c ≤ -10 ∧ (enc c = -12 ↔ c = 14) ∧ (enc c = -11 ↔ c = 13) := by
  intro c h1 h2
  rcases (show c = 6 ∨ c = 7 ∨ c = 8 ∨ c = 9 ∨ c = 10 ∨ c = 11 ∨ c = 12 ∨ c = 13 ∨ c = 14 by omega) with rfl | rfl | rfl | rfl | rfl | rfl | rfl | rfl | rfl <;> decide
theorem enc_nm : ∀ c, c ≤ 5 → ¬ enc c = -30 ∧ ¬ enc c ≤ -10 ∧ enc c < 0 ∧ (-1) - enc c = nI c := by
  intro c h1
  rcases (show c = 0 ∨ c = 1 ∨ c = 2 ∨ c = 3 ∨ c = 4 ∨ c = 5 by omega) with rfl | rfl | rfl | rfl | rfl | rfl <;> decide
theorem cx_operand (hg : zGA g) {c : Nat} (hc : c < 20000) (hcc : c ≤ 5 ∨ 15 ≤ c) {env : Nat → Int32} (he : ∀ j, j < 6 → σ 20 j = env j) (h1 : K (if c ≤ 5 then env c else nI (c - 15)) σ) : zCI mX2_operand d [.ref 3, .int (enc c)] g σ K := by
  refine s_X2_operand hg.L ?_
  rcases hcc with h | h
  · obtain ⟨-, -, n3, n4⟩ := enc_nm c h
    rw [if_pos n3, n4, if_neg (show ¬ (6 : Int32) ≤ nI c from nI_nle' (a := 6) (b := c) (by omega) (by omega)), c_nI (by omega), he c (by omega)]
    rw [if_pos h] at h1
    exact ⟨v_in (by omega) (by omega), h1⟩
  · have e : enc c = nI (c - 15) := by simp [enc, show ¬ c ≤ 5 by omega, h]
    rw [e, if_neg (nI_pos (by omega))]
    rw [if_neg (by omega)] at h1
    exact h1
theorem cx_value (hg : zGA g) {T R dy : Nat} {P : Nat → Nat → List Nat} {q : Nat} (ht : xTx σ T R dy P) (hq : q < 3) {env : Nat → Int32} (he : ∀ j, j < 6 → σ 20 j = env j)
    (h1 : ∀ σ', zfr [21] σ σ' → K (evP env (P R q)) σ') : zCI mX2_value (d + 3) [.ref 3, .int (nI q)] g σ K := by
  obtain ⟨t1, t2, t3, t4, t5, t6, t7⟩ := ht
  obtain ⟨hok, b, b1, b2, b3, b4⟩ := t7 R t2 q hq
  generalize hp : P R q = p at *
  have ho : zAr g (7 + R) 1 160 := (gr_codesL_n hg.L R (by omega)).2
  have h20 : 20 ≠ 21 := by decide
  have key : ∀ (r : List Nat) (st : List Int32) (x : Nat) (σ1 : zI), zfr [21] σ σ1 → x + r.length = b + p.length → (∀ i c, r[i]? = some c → σ (7 + R) (x + i) = enc c) → okp r st.length → stk (σ1 21) st → st.length ≤ 63 →
      (∀ σ', zfr [21] σ σ' → K ((ev env r st).headD 0) σ') → p_X2_value_43 (d + 2) g K σ1 (7 + R) (nI st.length) (nI x) := by
    intro r
    induction r with
    | nil =>
      intro st x σ1 hf hx hc ho2 hs hl hk
      have hlen : st.length = 1 := ho2
      have hx2 : x = b + p.length := by simpa using hx
      have fR := hf (7 + R) (by simp; omega)
      refine s_X2_value_43 hg.L ho (i_le 160 x rfl rfl (by omega) (by omega) (fun z => by omega) (fun _ => ⟨v_in (by omega) (by omega), ?_⟩))
      rw [c_nI (n := x) (by omega), fR, hx2, b4, if_pos rfl]
      match st, hlen, hs, hk with
      | [v], _, hs, hk =>
        have ej : nI [v].length - 1 = nI 0 := (by decide : nI 1 - 1 = nI 0)
        rw [ej]
        refine i_le 1 1 rfl rfl (by omega) (by omega) (fun _ => ⟨v_in (n := 0) (by omega) (by omega), ?_⟩) (fun z => by omega)
        rw [c_nI (n := 0) (by omega), show σ1 21 0 = v from hs.1]
        exact hk σ1 hf
    | cons c r ih =>
      intro st x σ1 hf hx hc ho2 hs hl hk
      have fR := hf (7 + R) (by simp; omega)
      have f20 := hf 20 (by decide)
      have hlr : (c :: r).length = r.length + 1 := rfl
      have hc0 : σ (7 + R) x = enc c := by simpa using hc 0 c rfl
      obtain ⟨hc20, k1, k2, k3⟩ := ho2
      have nxt : ∀ (st2 : List Int32) (σ2 : zI), zfr [21] σ σ2 → okp r st2.length → stk (σ2 21) st2 → st2.length ≤ 63 → st2 = stp env c st → p_X2_value_43 (d + 2) g K σ2 (7 + R) (nI st2.length) (nI x + 1) := by
        intro st2 σ2 g1 g2 g3 g4 g5
        rw [nI_1]
        refine ih st2 (x + 1) σ2 g1 (by omega) (fun i c2 hi => ?_) g2 g3 g4 (fun σ' hσ => ?_)
        · have := hc (i + 1) c2 (by simpa using hi)
          rw [show x + 1 + i = x + (i + 1) by omega]
          exact this
        · have := hk σ' hσ
          rw [g5]
          exact this
      refine s_X2_value_43 hg.L ho (i_le 160 x rfl rfl (by omega) (by omega) (fun z => by omega) (fun _ => ⟨v_in (by omega) (by omega), ?_⟩))
      rw [c_nI (n := x) (by omega), fR, hc0]
      by_cases hcc : c ≤ 5 ∨ 15 ≤ c
      · obtain ⟨q1, q2⟩ := k1 hcc
        have n30 : ¬ enc c = -30 := by
          rcases hcc with h | h
          · exact (enc_nm c h).1
          · intro z
            have e : enc c = nI (c - 15) := by simp [enc, show ¬ c ≤ 5 by omega, h]
            have := congrArg Int32.toInt (e.symm.trans z)
            rw [nI_toInt' (by omega)] at this
            have e30 : (-30 : Int32).toInt = -30 := rfl
            omega
        have n10 : ¬ enc c ≤ -10 := by
          rcases hcc with h | h
          · exact (enc_nm c h).2.1
          · intro z
            have e : enc c = nI (c - 15) := by simp [enc, show ¬ c ≤ 5 by omega, h]
            rw [e] at z
            have := Int32.le_iff_toInt_le.mp z
            rw [nI_toInt' (by omega)] at this
            have e30 : (-10 : Int32).toInt = -10 := rfl
            omega
        rw [if_neg n30, if_neg n10]
        refine ⟨v_in (by omega) (by omega), i_le 64 st.length rfl rfl (by omega) (by omega) (fun z => by omega) (fun _ => ?_)⟩
        refine cx_operand (d := d + 2) hg hc20 hcc (env := env) (fun j hj => by rw [f20]; exact he j hj) ⟨v_in (by omega) (by omega), ?_⟩
        rw [c_nI (n := st.length) (by omega), nI_1 st.length]
        refine nxt (_ :: st) _ (zfr_put hf (by decide)) q2 (by rw [zsI_row]; exact stk_put hs) (by simp; omega) ?_
        rcases hcc with h | h
        · simp [stp, h]
        · simp [stp, show ¬ c ≤ 5 by omega, h]
      · obtain ⟨n30, n10, n12, n11⟩ := enc_op c (by omega) (by omega)
        rw [if_neg n30, if_pos n10]
        refine ⟨v_in (by omega) (by omega), ?_⟩
        have p110 : (c = 13 ∨ c = 14) → p_X2_value_110 (d + 2) g K σ1 (7 + R) (nI st.length) (nI x) (enc c) := by
          intro h13
          obtain ⟨q1, q2⟩ := k2 h13
          match st, q1, q2, hs, hl, nxt with
          | a :: s, q1, q2, hs, hl, nxt =>
            have ej : nI (a :: s).length - 1 = nI s.length := by
              rw [show (1 : Int32) = nI 1 from rfl, pk_sub (by simp)]
              simp
            have hsl : s.length < 63 := by simp at hl; omega
            have vv : vp_in (nI s.length) 64 := v_in (by omega) (by omega)
            have put : ∀ v : Int32, stk (zsI σ1 21 s.length v 21) (v :: s) := fun v => by rw [zsI_row]; exact stk_put hs.2
            refine s_X2_value_110 hg.L ho (i_lt (a :: s).length 1 rfl rfl (by omega) (by omega) (fun z => by simp at z) (fun _ => ?_))
            rw [ej, c_nI (n := s.length) (by omega), show σ1 21 s.length = a from hs.1]
            refine ⟨vv, ?_⟩
            by_cases w : c = 13
            · rw [if_pos (n11.mpr w)]
              refine t_eq (fun u => cx_truth hg (fun z => absurd z (by decide)) (fun _ => ⟨vv, nxt (1 :: s) _ (zfr_put hf (by decide)) q2 (put _) hl (by subst w; simp [stp, u])⟩)) (fun u => cx_truth hg (fun _ => ⟨vv, nxt (0 :: s) _ (zfr_put hf (by decide)) q2 (put _) hl (by subst w; simp [stp, u])⟩) (fun z => absurd rfl z))
            · rw [if_neg (fun z => w (n11.mp z))]
              have w14 : c = 14 := by omega
              exact ⟨vv, nxt ((-a) :: s) _ (zfr_put hf (by decide)) q2 (put _) hl (by subst w14; rfl)⟩
        refine t_eq (fun z => p110 (Or.inr (n12.mp z))) (fun z => t_eq (fun z2 => p110 (Or.inl (n11.mp z2))) (fun z2 => ?_))
        have c14 : ¬ c = 14 := fun u => z (n12.mpr u)
        have c13 : ¬ c = 13 := fun u => z2 (n11.mpr u)
        obtain ⟨q1, q2⟩ := k3 ⟨by omega, by omega⟩
        match st, q1, q2, hs, hl, nxt with
        | v2 :: v1 :: s, q1, q2, hs, hl, nxt =>
          have hsl : s.length < 62 := by simp at hl; omega
          have ej1 : nI (v2 :: v1 :: s).length + (-1) = nI (s.length + 1) := by
            rw [show (v2 :: v1 :: s).length = s.length + 1 + 1 from rfl]
            exact pk_m1 (s.length + 1)
          have ej2 : nI (s.length + 1) - 1 = nI s.length := nI_pred s.length
          refine i_lt (v2 :: v1 :: s).length 2 rfl rfl (by simp; omega) (by omega) (fun u => by have u2 : s.length + 1 + 1 < 2 := u; omega) (fun _ => ?_)
          rw [ej1, ej2, c_nI (n := s.length) (by omega), c_nI (n := s.length + 1) (by omega), show σ1 21 (s.length + 1) = v2 from hs.1, show σ1 21 s.length = v1 from hs.2.1]
          refine ⟨v_in (by omega) (by omega), v_in (by omega) (by omega), cx_joined (d := d + 1) hg (by omega) (by omega) ⟨v_in (by omega) (by omega), ?_⟩⟩
          refine nxt (bin c v1 v2 :: s) _ (zfr_put hf (by decide)) q2 (by rw [zsI_row]; exact stk_put hs.2.2) (by simp; omega) ?_
          simp [stp, show ¬ c ≤ 5 by omega, show ¬ 15 ≤ c by omega, c13, c14]
  refine s_X2_value hg.L ?_
  rw [t5, if_neg (nI_pos (by omega)), if_pos (show nI R < (6 : Int32) from nI_lt (b := 6) (by omega) (by omega)), c_nI (n := R) (by omega), c_nI (n := q) (by omega), b1]
  exact ⟨v_in (by omega) (by omega), v_in (by omega) (by omega), v_in hq (by omega), key p [] b σ (zfr_rf _ _) rfl b3 hok trivial (by simp) h1⟩
end
