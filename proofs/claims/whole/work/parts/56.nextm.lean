/-! the reference's next() -/
def sm7 (l : List Nat) (σ σ' : zI) : Prop := zfr [57] σ σ' ∧ ∀ j, j ∉ l → σ' 57 j = σ 57 j
theorem sm7_rf (l : List Nat) (σ : zI) : sm7 l σ σ := ⟨zfr_rf _ _, fun _ _ => rfl⟩
theorem sm7_put {l : List Nat} {σ σ1 : zI} {k : Nat} {x : Int32} (h : sm7 l σ σ1) (hk : k ∈ l) : sm7 l σ (zsI σ1 57 k x) := ⟨zfr_put h.1 (by decide), fun j hj => by
  rw [zsI_no (Or.inr (fun e => hj (by rw [e]; exact hk)))]
  exact h.2 j hj⟩
theorem sm7_tr {l : List Nat} {σ σ1 σ2 : zI} (h : sm7 l σ σ1) (h2 : sm7 l σ1 σ2) : sm7 l σ σ2 := ⟨zfr_tr h.1 h2.1, fun j hj => (h2.2 j hj).trans (h.2 j hj)⟩
theorem sm7_up {l m : List Nat} {σ σ1 : zI} (h : sm7 l σ σ1) (hl : ∀ j, j ∈ l → j ∈ m) : sm7 m σ σ1 := ⟨h.1, fun j hj => h.2 j (fun q => hj (hl j q))⟩
theorem mP_7 {σ σ1 : zI} {z : Nat} {B : Nat → Nat} {l : List Nat} (h : mP σ z B) (hf : sm7 l σ σ1) (hl : 6 ∉ l) : mP σ1 z B :=
  ⟨h.1, by rw [hf.2 6 hl]; exact h.2.1, fun i hi => by rw [hf.1 61 (by decide)]; exact h.2.2 i hi⟩
def tkM (t : Nat) : Int32 := if t = 0 then 120 else if t = 1 then 101 else if t = 2 then 48 else if 1000 ≤ t then 119 else nI t
def mK (σ : zI) (k : zTk) : Prop := σ 57 13 = nI k.1 ∧ σ 57 14 = nI k.2.1 ∧ σ 57 15 = tkM k.2.2.1 ∧ (1000 ≤ k.2.2.1 → σ 57 17 = nI (HX.getD (k.2.2.1 - 1000) 0)) ∧ (k.2.2.1 = 2 → σ 57 16 = nI k.2.2.2)
theorem HX_ne : ∀ i, i < 12 → ∀ n, n < 12 → HX.getD i 0 = HX.getD n 0 → i = n := by decide
theorem HX_lt : ∀ i, i < 12 → HX.getD i 0 < 14348907 := by decide
theorem tkW_eq {B : Nat → Nat} {b k i : Nat} (hi : i < 12) (hk : k ≤ 5) (h : hsX B b k = HX.getD i 0) : ∀ n, n ≤ 12 → tkW B b k n = if i < n then 1000 + i else 0
  | 0, _ => rfl
  | n + 1, hn => by
    have ih := tkW_eq hi hk h n (by omega)
    unfold tkW
    by_cases c : n = i
    · subst c
      rw [if_pos (show wsX B b k n = true from decide_eq_true ⟨hk, h⟩), if_pos (by omega)]
    · rw [if_neg (by rw [show wsX B b k n = false from decide_eq_false (fun u => c (HX_ne n (by omega) i hi (u.2.symm.trans h)))]; decide), ih]
      by_cases c2 : i < n
      · rw [if_pos c2, if_pos (by omega)]
      · rw [if_neg c2, if_neg (by omega)]
theorem tkW_0 {B : Nat → Nat} {b k : Nat} (h : ∀ i, i < 12 → ¬ (k ≤ 5 ∧ hsX B b k = HX.getD i 0)) : ∀ n, n ≤ 12 → tkW B b k n = 0
  | 0, _ => rfl
  | n + 1, hn => by
    have ih := tkW_0 h n (by omega)
    unfold tkW
    rw [if_neg (by rw [show wsX B b k n = false from decide_eq_false (h n (by omega))]; decide), ih]
section
variable {d : Nat} {g : zG} {σ : zI}
theorem cm_isLt {K : Int32 → zI → Prop} (hg : zGA g) {c : Nat} (hc : c ≤ 255) (h0 : isLt c = false → K 0 σ) (h1 : isLt c = true → K 1 σ) : zCI mX8_isLetter d [.int (nI c)] g σ K :=
  s_X8_isLetter hg (i_lt c 97 rfl rfl (by omega) (by omega) (fun q => h0 (decide_eq_false (by omega))) (fun q => i_lt 122 c rfl rfl (by omega) (by omega) (fun q2 => h0 (decide_eq_false (by omega))) (fun q2 => h1 (decide_eq_true (by omega)))))
theorem cm_isDg {K : Int32 → zI → Prop} (hg : zGA g) {c : Nat} (hc : c ≤ 255) (h0 : isDg c = false → K 0 σ) (h1 : isDg c = true → K 1 σ) : zCI mX8_isDigit d [.int (nI c)] g σ K :=
  s_X8_isDigit hg (i_lt c 48 rfl rfl (by omega) (by omega) (fun q => h0 (decide_eq_false (by omega))) (fun q => i_lt 57 c rfl rfl (by omega) (by omega) (fun q2 => h0 (decide_eq_false (by omega))) (fun q2 => h1 (decide_eq_true (by omega)))))
theorem cm_isSg {K : Int32 → zI → Prop} (hg : zGA g) {c : Nat} (hc : c ≤ 255) (h0 : isSg c = false → K 0 σ) (h1 : isSg c = true → K 1 σ) : zCI mX8_isSign d [.int (nI c)] g σ K :=
  s_X8_isSign hg (i_eq c 40 rfl rfl (by omega) (by omega) (fun q40 => h1 (decide_eq_true (by omega))) (fun q40 => i_eq c 41 rfl rfl (by omega) (by omega) (fun q41 => h1 (decide_eq_true (by omega))) (fun q41 => i_eq c 42 rfl rfl (by omega) (by omega) (fun q42 => h1 (decide_eq_true (by omega))) (fun q42 => i_eq c 43 rfl rfl (by omega) (by omega) (fun q43 => h1 (decide_eq_true (by omega))) (fun q43 => i_eq c 44 rfl rfl (by omega) (by omega) (fun q44 => h0 (decide_eq_false (by omega))) (fun q44 => i_eq c 45 rfl rfl (by omega) (by omega) (fun q45 => h1 (decide_eq_true (by omega))) (fun q45 => i_eq c 46 rfl rfl (by omega) (by omega) (fun q46 => h0 (decide_eq_false (by omega))) (fun q46 => i_eq c 47 rfl rfl (by omega) (by omega) (fun q47 => h0 (decide_eq_false (by omega))) (fun q47 => i_eq c 48 rfl rfl (by omega) (by omega) (fun q48 => h0 (decide_eq_false (by omega))) (fun q48 => i_eq c 49 rfl rfl (by omega) (by omega) (fun q49 => h0 (decide_eq_false (by omega))) (fun q49 => i_eq c 50 rfl rfl (by omega) (by omega) (fun q50 => h0 (decide_eq_false (by omega))) (fun q50 => i_eq c 51 rfl rfl (by omega) (by omega) (fun q51 => h0 (decide_eq_false (by omega))) (fun q51 => i_eq c 52 rfl rfl (by omega) (by omega) (fun q52 => h0 (decide_eq_false (by omega))) (fun q52 => i_eq c 53 rfl rfl (by omega) (by omega) (fun q53 => h0 (decide_eq_false (by omega))) (fun q53 => i_eq c 54 rfl rfl (by omega) (by omega) (fun q54 => h0 (decide_eq_false (by omega))) (fun q54 => i_eq c 55 rfl rfl (by omega) (by omega) (fun q55 => h0 (decide_eq_false (by omega))) (fun q55 => i_eq c 56 rfl rfl (by omega) (by omega) (fun q56 => h0 (decide_eq_false (by omega))) (fun q56 => i_eq c 57 rfl rfl (by omega) (by omega) (fun q57 => h0 (decide_eq_false (by omega))) (fun q57 => i_eq c 58 rfl rfl (by omega) (by omega) (fun q58 => h0 (decide_eq_false (by omega))) (fun q58 => i_eq c 59 rfl rfl (by omega) (by omega) (fun q59 => h1 (decide_eq_true (by omega))) (fun q59 => i_eq c 60 rfl rfl (by omega) (by omega) (fun q60 => h1 (decide_eq_true (by omega))) (fun q60 => i_eq c 61 rfl rfl (by omega) (by omega) (fun q61 => h1 (decide_eq_true (by omega))) (fun q61 => h0 (decide_eq_false (by omega)))))))))))))))))))))))))
theorem cm_named {K : Int32 → zI → Prop} (hg : zGA g) {h : Nat} (hh : h < 2147483648) (hw : σ 57 17 = nI h) (h1 : ∀ i, i < 6 → h = HX.getD i 0 → K (nI i) σ) (h0 : (∀ i, i < 6 → h ≠ HX.getD i 0) → K (-1) σ) : zCI mX8_named d [.ref 57] g σ K := by
  refine s_X8_named hg ?_
  rw [hw]
  refine i_eq h 14 rfl rfl (by omega) (by omega) (fun q0 => h1 0 (by omega) q0) (fun q0 => i_eq h 2968 rfl rfl (by omega) (by omega) (fun q5 => h1 5 (by omega) q5) (fun q5 => i_eq h 11570 rfl rfl (by omega) (by omega) (fun q1 => h1 1 (by omega) q1) (fun q1 => i_eq h 161370 rfl rfl (by omega) (by omega) (fun q4 => h1 4 (by omega) q4) (fun q4 => i_eq h 257011 rfl rfl (by omega) (by omega) (fun q3 => h1 3 (by omega) q3) (fun q3 => i_eq h 267305 rfl rfl (by omega) (by omega) (fun q2 => h1 2 (by omega) q2) (fun q2 => h0 (fun i hi e => ?_)))))))
  rcases (show i = 0 ∨ i = 1 ∨ i = 2 ∨ i = 3 ∨ i = 4 ∨ i = 5 by omega) with rfl | rfl | rfl | rfl | rfl | rfl <;> simp [HX] at e <;> omega
theorem cm_isKey {K : Int32 → zI → Prop} (hg : zGA g) {h : Nat} (hh : h < 2147483648) (hw : σ 57 17 = nI h) (h1 : ∀ i, 6 ≤ i → i < 12 → h = HX.getD i 0 → K 1 σ) (h0 : (∀ i, 6 ≤ i → i < 12 → h ≠ HX.getD i 0) → K 0 σ) : zCI mX8_isKey d [.ref 57] g σ K := by
  refine s_X8_isKey hg ?_
  rw [hw]
  refine i_eq h 423 rfl rfl (by omega) (by omega) (fun q9 => h1 9 (by omega) (by omega) q9) (fun q9 => i_eq h 1111 rfl rfl (by omega) (by omega) (fun q10 => h1 10 (by omega) (by omega) q10) (fun q10 => i_eq h 10631 rfl rfl (by omega) (by omega) (fun q11 => h1 11 (by omega) (by omega) q11) (fun q11 => i_eq h 375400 rfl rfl (by omega) (by omega) (fun q6 => h1 6 (by omega) (by omega) q6) (fun q6 => i_eq h 7008275 rfl rfl (by omega) (by omega) (fun q7 => h1 7 (by omega) (by omega) q7) (fun q7 => i_eq h 12532058 rfl rfl (by omega) (by omega) (fun q8 => h1 8 (by omega) (by omega) q8) (fun q8 => h0 (fun i hi hi2 e => ?_)))))))
  rcases (show i = 6 ∨ i = 7 ∨ i = 8 ∨ i = 9 ∨ i = 10 ∨ i = 11 by omega) with rfl | rfl | rfl | rfl | rfl | rfl <;> simp [HX] at e <;> omega
theorem cm_word184 {K : zI → Prop} (hg : zGA g) {B : Nat → Nat} {b e : Nat} (hbe : b < e) (he160 : e ≤ 160) (hb : σ 57 13 = nI b) (he : σ 57 14 = nI e) (hl : ∀ j, j < e - b → isLt (B (b + j)) = true) (h17 : σ 57 17 = nI (hsX B b (min 5 (e - b))))
    (h1 : ∀ σ', sm7 [15, 17] σ σ' → σ' 57 15 = tkM (tkW B b (e - b) 12) → (1000 ≤ tkW B b (e - b) 12 → σ' 57 17 = nI (HX.getD (tkW B b (e - b) 12 - 1000) 0)) → K σ') : p_X8_next_184 d g K σ := by
  have hlt : hsX B b (min 5 (e - b)) < 2147483648 := by
    have a1 := hsX_lt (B := B) (b := b) (min 5 (e - b)) (fun i hi => hl i (by omega))
    have a2 : 27 ^ (min 5 (e - b)) ≤ 27 ^ 5 := Nat.pow_le_pow_right (by omega) (by omega)
    omega
  have in15 : ∀ x, sm7 [15, 17] σ (zsI σ 57 15 x) := fun x => sm7_put (sm7_rf _ _) (by decide)
  have no : (∀ i, i < 12 → ¬ (e - b ≤ 5 ∧ hsX B b (e - b) = HX.getD i 0)) → ∀ σ', sm7 [15, 17] σ σ' → σ' 57 15 = 120 → K σ' := fun u σ' hf hx => by
    have t0 := tkW_0 u 12 (by omega)
    rw [t0] at h1
    exact h1 σ' hf hx (fun q => by omega)
  refine s_X8_next_184 hg ?_
  rw [hb, he, pk_sub (by omega)]
  refine i_le (e - b) 5 rfl rfl (by omega) (by omega) (fun c => ?_) (fun c => ?_)
  · rw [show min 5 (e - b) = e - b by omega] at h17 hlt
    have yes : ∀ i, i < 12 → hsX B b (e - b) = HX.getD i 0 → K (zsI σ 57 15 119) := fun i hi hx => by
      have t1 := tkW_eq hi c hx 12 (by omega)
      rw [if_pos hi] at t1
      rw [t1] at h1
      refine h1 _ (in15 119) ?_ (fun _ => ?_)
      · rw [zsI_at]
        unfold tkM
        rw [if_neg (by omega), if_neg (by omega), if_neg (by omega), if_pos (by omega)]
      · rw [zsI_no (by omega), h17, hx, show 1000 + i - 1000 = i by omega]
    refine cm_named hg hlt h17 (fun i hi hx => ?_) (fun hn => ?_)
    · rw [if_neg (fun u => by have := congrArg Int32.toInt u; rw [nI_toInt' (by omega)] at this; have e : (-1 : Int32).toInt = -1 := rfl; omega)]
      exact yes i (by omega) hx
    · rw [if_pos rfl]
      refine cm_isKey hg hlt h17 (fun i h6 hi hx => z1 (yes i hi hx)) (fun hk => z0 (no (fun i hi u => ?_) _ (in15 120) zsI_at))
      by_cases c6 : i < 6
      · exact hn i c6 u.2
      · exact hk i (by omega) hi u.2
  · refine s_X8_named hg ?_
    rw [zsI_at]
    rw [if_neg (by decide), if_neg (by decide), if_neg (by decide), if_neg (by decide), if_neg (by decide), if_neg (by decide), if_pos rfl]
    refine s_X8_isKey hg ?_
    rw [zsI_at]
    rw [if_neg (by decide), if_neg (by decide), if_neg (by decide), if_neg (by decide), if_neg (by decide), if_neg (by decide)]
    exact z0 (no (fun i hi u => by omega) _ (sm7_put (sm7_put (sm7_rf _ _) (by decide)) (by decide)) zsI_at)
theorem cm_word108 {K : zI → Prop} (hg : zGA g) {z : Nat} {B : Nat → Nat} {b : Nat} (hP : mP σ z B) (hb : σ 57 13 = nI b) (hbz : b < z) (hc : isLt (B b) = true) (h14 : σ 57 14 = nI b) (h17 : σ 57 17 = 0)
    (h1 : ∀ σ', sm7 [14, 15, 17] σ σ' → σ' 57 14 = nI (enX isLt B z b) → σ' 57 15 = tkM (tkW B b (enX isLt B z b - b) 12) → (1000 ≤ tkW B b (enX isLt B z b - b) 12 → σ' 57 17 = nI (HX.getD (tkW B b (enX isLt B z b - b) 12 - 1000) 0)) → K σ') : p_X8_next_108 d g K σ := by
  have z160 := hP.1
  have eE : rnX isLt B (z - b) b = enX isLt B z b := by
    unfold enX
    rw [show z - b = (z - (b + 1)) + 1 by omega, rnX_y hc]
  have al := rnX_all isLt B (z - b) b
  have rin := rnX_in isLt B (z - (b + 1)) (b + 1)
  rw [eE] at al
  have hbe : b < enX isLt B z b := by unfold enX; omega
  have hez : enX isLt B z b ≤ z := by unfold enX; omega
  generalize enX isLt B z b = e at *
  have fin : ∀ σ1, sm7 [14, 17] σ σ1 → σ1 57 14 = nI e → σ1 57 17 = nI (hsX B b (min 5 (e - b))) → p_X8_next_184 d g K σ1 := fun σ1 hf h2 h3 => by
    refine cm_word184 hg hbe (by omega) (by rw [hf.2 13 (by decide)]; exact hb) h2 (fun j hj => al (b + j) (by omega) (by omega)) h3 (fun σ' hf2 h15 hw => h1 σ' (sm7_tr (sm7_up hf (by decide)) (sm7_up hf2 (by decide))) ?_ h15 hw)
    rw [hf2.2 14 (by decide)]
    exact h2
  have key : ∀ (r j : Nat) (σ1 : zI), b + j + r = z → b + j ≤ e → sm7 [14, 17] σ σ1 → σ1 57 14 = nI (b + j) → σ1 57 17 = nI (hsX B b (min 5 j)) → rnX isLt B r (b + j) = e → p_X8_next_108 d g K σ1 := by
    intro r
    induction r with
    | zero =>
      intro j σ1 hr hje hf h2 h3 he
      have he : b + j = e := he
      refine s_X8_next_108 hg ?_
      rw [(mP_7 hP hf (by decide)).2.1, h2]
      refine i_le z (b + j) rfl rfl (by omega) (by omega) (fun _ => fin σ1 hf (by rw [← he]; exact h2) (by rw [h3, show e - b = j by omega])) (fun q => by omega)
    | succ r ih =>
      intro j σ1 hr hje hf h2 h3 he
      have hP1 := mP_7 hP hf (by decide)
      obtain ⟨q1, q2⟩ := hP1.2.2 (b + j) (by omega)
      refine s_X8_next_108 hg ?_
      rw [hP1.2.1, h2, c_nI (by omega), q1]
      refine i_le z (b + j) rfl rfl (by omega) (by omega) (fun q => by omega) (fun _ => ⟨v_in (by omega) (by omega), cm_isLt hg q2 (fun w => z0 ?_) (fun w => z1 ?_)⟩)
      · rw [rnX_n w] at he
        exact fin σ1 hf (by rw [← he]; exact h2) (by rw [h3, show e - b = j by omega])
      · rw [rnX_y w] at he
        have r2 := rnX_in isLt B r (b + j + 1)
        have dj := of_decide_eq_true w
        rw [h2, hf.2 13 (by decide), hb, pk_sub (by omega), show b + j - b = j by omega, c_nI (by omega), q1, nI_1 (b + j), h3]
        refine i_le 5 j rfl rfl (by omega) (by omega) (fun c => ?_) (fun c => ⟨v_in (by omega) (by omega), ?_⟩)
        · exact ih (j + 1) _ (by omega) (by omega) (sm7_put hf (by decide)) zsI_at (by rw [zsI_no (by omega), h3, show min 5 j = 5 by omega, show min 5 (j + 1) = 5 by omega]) he
        · rw [show (27 : Int32) * nI (hsX B b (min 5 j)) = nI (27 * hsX B b (min 5 j)) from pk_mul 27 _, nI_add, show nI (27 * hsX B b (min 5 j) + B (b + j)) - 96 = nI (27 * hsX B b (min 5 j) + B (b + j) - 96) from pk_sub (b := 96) (by omega)]
          refine ih (j + 1) _ (by omega) (by omega) (sm7_put (sm7_put hf (by decide)) (by decide)) zsI_at ?_ he
          rw [zsI_no (by omega), zsI_at, show min 5 j = j by omega, show min 5 (j + 1) = j + 1 by omega]
          rfl
  exact key (z - b) 0 σ (by omega) (by omega) (sm7_rf _ _) h14 (by rw [h17]; rfl) eE
theorem cm_num243 {K : zI → Prop} (hg : zGA g) {z : Nat} {B : Nat → Nat} {b : Nat} (hP : mP σ z B) (hb : σ 57 13 = nI b) (hbz : b < z) (hc : isDg (B b) = true) (h14 : σ 57 14 = nI b) (h16 : σ 57 16 = 0)
    (h1 : ∀ σ', sm7 [14, 15, 16] σ σ' → σ' 57 14 = nI (enX isDg B z b) → σ' 57 15 = tkM (if enX isDg B z b - b ≤ 4 then 2 else 0) → σ' 57 16 = nI (nmX B b (min 4 (enX isDg B z b - b))) → K σ') : p_X8_next_243 d g K σ := by
  have z160 := hP.1
  have eE : rnX isDg B (z - b) b = enX isDg B z b := by
    unfold enX
    rw [show z - b = (z - (b + 1)) + 1 by omega, rnX_y hc]
  have rin := rnX_in isDg B (z - (b + 1)) (b + 1)
  have hbe : b < enX isDg B z b := by unfold enX; omega
  have hez : enX isDg B z b ≤ z := by unfold enX; omega
  generalize enX isDg B z b = e at *
  have fin : ∀ σ1, sm7 [14, 16] σ σ1 → σ1 57 14 = nI e → σ1 57 16 = nI (nmX B b (min 4 (e - b))) → (if ((nI e - nI b : Int32) ≤ 4 : Prop) then K (zsI σ1 57 15 48) else K (zsI σ1 57 15 120)) := fun σ1 hf h2 h3 => by
    rw [pk_sub (by omega)]
    refine i_le (e - b) 4 rfl rfl (by omega) (by omega) (fun c => h1 _ (sm7_put (sm7_up hf (by decide)) (by decide)) (by rw [zsI_no (by omega)]; exact h2) (by rw [zsI_at, if_pos c]; rfl) (by rw [zsI_no (by omega)]; exact h3)) (fun c => h1 _ (sm7_put (sm7_up hf (by decide)) (by decide)) (by rw [zsI_no (by omega)]; exact h2) (by rw [zsI_at, if_neg (by omega)]; rfl) (by rw [zsI_no (by omega)]; exact h3))
  have key : ∀ (r j : Nat) (σ1 : zI), b + j + r = z → b + j ≤ e → sm7 [14, 16] σ σ1 → σ1 57 14 = nI (b + j) → σ1 57 16 = nI (nmX B b (min 4 j)) → rnX isDg B r (b + j) = e → p_X8_next_243 d g K σ1 := by
    intro r
    induction r with
    | zero =>
      intro j σ1 hr hje hf h2 h3 he
      have he : b + j = e := he
      refine s_X8_next_243 hg ?_
      rw [(mP_7 hP hf (by decide)).2.1, h2, hf.2 13 (by decide), hb]
      refine i_le z (b + j) rfl rfl (by omega) (by omega) (fun _ => ?_) (fun q => by omega)
      rw [he]
      exact fin σ1 hf (by rw [← he]; exact h2) (by rw [h3, show e - b = j by omega])
    | succ r ih =>
      intro j σ1 hr hje hf h2 h3 he
      have hP1 := mP_7 hP hf (by decide)
      obtain ⟨q1, q2⟩ := hP1.2.2 (b + j) (by omega)
      refine s_X8_next_243 hg ?_
      rw [hP1.2.1, h2, c_nI (by omega), q1, hf.2 13 (by decide), hb]
      refine i_le z (b + j) rfl rfl (by omega) (by omega) (fun q => by omega) (fun _ => ⟨v_in (by omega) (by omega), cm_isDg hg q2 (fun w => z0 ?_) (fun w => z1 ?_)⟩)
      · rw [rnX_n w] at he
        rw [h2, hf.2 13 (by decide), hb, he]
        exact fin σ1 hf (by rw [← he]; exact h2) (by rw [h3, show e - b = j by omega])
      · rw [rnX_y w] at he
        have r2 := rnX_in isDg B r (b + j + 1)
        have dj := of_decide_eq_true w
        rw [h2, hf.2 13 (by decide), hb, pk_sub (by omega), show b + j - b = j by omega, c_nI (by omega), q1, nI_1 (b + j), h3]
        refine i_le 4 j rfl rfl (by omega) (by omega) (fun c => ?_) (fun c => ⟨v_in (by omega) (by omega), ?_⟩)
        · exact ih (j + 1) _ (by omega) (by omega) (sm7_put hf (by decide)) zsI_at (by rw [zsI_no (by omega), h3, show min 4 j = 4 by omega, show min 4 (j + 1) = 4 by omega]) he
        · rw [show (10 : Int32) * nI (nmX B b (min 4 j)) = nI (10 * nmX B b (min 4 j)) from pk_mul 10 _, nI_add, show nI (10 * nmX B b (min 4 j) + B (b + j)) - 48 = nI (10 * nmX B b (min 4 j) + B (b + j) - 48) from pk_sub (b := 48) (by omega)]
          refine ih (j + 1) _ (by omega) (by omega) (sm7_put (sm7_put hf (by decide)) (by decide)) zsI_at ?_ he
          rw [zsI_no (by omega), zsI_at, show min 4 j = j by omega, show min 4 (j + 1) = j + 1 by omega]
          rfl
  exact key (z - b) 0 σ (by omega) (by omega) (sm7_rf _ _) h14 (by rw [h16]; rfl) eE
theorem tkM_sg {c : Nat} (h : isSg c = true) : tkM c = nI c := by
  have h3 := of_decide_eq_true h
  unfold tkM
  rw [if_neg (by omega), if_neg (by omega), if_neg (by omega), if_neg (by omega)]
theorem cm_next60 {K : zI → Prop} (hg : zGA g) {z : Nat} {B : Nat → Nat} {b : Nat} (hP : mP σ z B) (hb : σ 57 13 = nI b) (hbz : b ≤ z) (h1 : ∀ σ', sm7 [14, 15, 16, 17] σ σ' → mK σ' (tkA B z b) → K σ') : p_X8_next_60 d g K σ := by
  have z160 := hP.1
  refine s_X8_next_60 hg ?_
  rw [hb, hP.2.1]
  refine i_eq b z rfl rfl (by omega) (by omega) (fun c => ?_) (fun c => ?_)
  · have eA : tkA B z b = (b, b, 1, 0) := if_pos (by omega)
    rw [eA] at h1
    refine h1 _ (sm7_put (sm7_put (sm7_put (sm7_rf _ _) (by decide)) (by decide)) (by decide)) ⟨?_, ?_, zsI_at, fun e => absurd e (by show ¬ 1000 ≤ 1; omega), fun e => absurd e (by show ¬ 1 = 2; omega)⟩
    · rw [zsI_no (by omega), zsI_no (by omega), zsI_no (by omega)]; exact hb
    · rw [zsI_no (by omega), zsI_no (by omega), zsI_at]
  · obtain ⟨q1, q2⟩ := hP.2.2 b (by omega)
    rw [c_nI (by omega), q1]
    generalize hs : zsI (zsI σ 57 14 (nI b)) 57 17 0 = σ1
    have f1 : sm7 [14, 17] σ σ1 := by rw [← hs]; exact sm7_put (sm7_put (sm7_rf _ _) (by decide)) (by decide)
    have s13 : σ1 57 13 = nI b := by rw [f1.2 13 (by decide)]; exact hb
    have s14 : σ1 57 14 = nI b := by rw [← hs, zsI_no (by omega), zsI_at]
    have s17 : σ1 57 17 = 0 := by rw [← hs, zsI_at]
    have P1 : mP σ1 z B := mP_7 hP f1 (by decide)
    have eA : tkA B z b = if isLt (B b) then (b, enX isLt B z b, tkW B b (enX isLt B z b - b) 12, 0) else if isDg (B b) then (b, enX isDg B z b, if enX isDg B z b - b ≤ 4 then 2 else 0, nmX B b (min 4 (enX isDg B z b - b))) else if isSg (B b) then (b, b + 1, B b, 0) else (b, b + 1, 0, 0) := if_neg (by omega)
    rw [eA] at h1
    refine ⟨v_in (by omega) (by omega), cm_isLt hg q2 (fun w => z0 (cm_isDg hg q2 (fun w2 => z0 ?_) (fun w2 => z1 ?_))) (fun w => z1 ?_)⟩
    · rw [s14, nI_1 b]
      refine cm_isSg hg q2 (fun w3 => z0 ?_) (fun w3 => z1 ?_)
      · rw [w, w2, w3] at h1
        refine h1 _ (sm7_put (sm7_put (sm7_up f1 (by decide)) (by decide)) (by decide)) ⟨?_, ?_, zsI_at, fun e => absurd e (by show ¬ 1000 ≤ 0; omega), fun e => absurd e (by show ¬ 0 = 2; omega)⟩
        · rw [zsI_no (by omega), zsI_no (by omega)]; exact s13
        · rw [zsI_no (by omega), zsI_at]; rfl
      · have h3 := of_decide_eq_true w3
        rw [w, w2, w3] at h1
        refine h1 _ (sm7_put (sm7_put (sm7_up f1 (by decide)) (by decide)) (by decide)) ⟨?_, ?_, ?_, fun e => absurd e (by show ¬ 1000 ≤ B b; omega), fun e => absurd e (by show ¬ B b = 2; omega)⟩
        · rw [zsI_no (by omega), zsI_no (by omega)]; exact s13
        · rw [zsI_no (by omega), zsI_at]; rfl
        · rw [zsI_at]; exact (tkM_sg w3).symm
    · rw [w, w2] at h1
      have f2 : sm7 [14, 16, 17] σ (zsI σ1 57 16 0) := sm7_put (sm7_up f1 (by decide)) (by decide)
      refine cm_num243 hg (mP_7 hP f2 (by decide)) (by rw [zsI_no (by omega)]; exact s13) (by omega) w2 (by rw [zsI_no (by omega)]; exact s14) zsI_at (fun σ' hf e2 e3 e5 => h1 σ' (sm7_tr (sm7_up f2 (by decide)) (sm7_up hf (by decide))) ⟨?_, e2, e3, fun e => ?_, fun _ => e5⟩)
      · rw [hf.2 13 (by decide), zsI_no (by omega)]; exact s13
      · have e : 1000 ≤ if enX isDg B z b - b ≤ 4 then 2 else 0 := e
        split at e <;> omega
    · rw [w] at h1
      refine cm_word108 hg P1 s13 (by omega) w s14 s17 (fun σ' hf e2 e3 e4 => h1 σ' (sm7_tr (sm7_up f1 (by decide)) (sm7_up hf (by decide))) ⟨?_, e2, e3, e4, fun e => ?_⟩)
      · rw [hf.2 13 (by decide)]; exact s13
      · have e : tkW B b (enX isLt B z b - b) 12 = 2 := e
        have := tkW_in B b (enX isLt B z b - b) 12
        omega
theorem cm_next {K : zI → Prop} (hg : zGA g) {z : Nat} {B : Nat → Nat} {p : Nat} (hP : mP σ z B) (h2 : σ 57 14 = nI p) (hpz : p ≤ z) (h1 : ∀ σ', sm7 [13, 14, 15, 16, 17] σ σ' → mK σ' (lxX B z p) → K σ') : zCV mX8_next (d + 1) [.ref 57] g σ K := by
  have z160 := hP.1
  have rin := rnX_in isBl B (z - p) p
  have fin : ∀ σ1, sm7 [13] σ σ1 → σ1 57 13 = nI (rnX isBl B (z - p) p) → p_X8_next_60 d g K σ1 := fun σ1 hf he =>
    cm_next60 (b := rnX isBl B (z - p) p) hg (mP_7 hP hf (by decide)) he (by omega) (fun σ' hf2 hk => h1 σ' (sm7_tr (sm7_up hf (by decide)) (sm7_up hf2 (by decide))) hk)
  have key : ∀ (r u : Nat) (σ1 : zI), u + r = z → sm7 [13] σ σ1 → σ1 57 13 = nI u → rnX isBl B r u = rnX isBl B (z - p) p → p_X8_next_8 d g K σ1 := by
    intro r
    induction r with
    | zero =>
      intro u σ1 hr hf hu he
      have he : u = rnX isBl B (z - p) p := he
      refine s_X8_next_8 hg ?_
      rw [(mP_7 hP hf (by decide)).2.1, hu]
      exact i_le z u rfl rfl (by omega) (by omega) (fun _ => fin σ1 hf (by rw [← he]; exact hu)) (fun q => by omega)
    | succ r ih =>
      intro u σ1 hr hf hu he
      have hP1 := mP_7 hP hf (by decide)
      obtain ⟨q1, q2⟩ := hP1.2.2 u (by omega)
      have yes : isBl (B u) = true → p_X8_next_8 d g K (zsI σ1 57 13 (nI (u + 1))) := fun w => by
        rw [rnX_y w] at he
        exact ih (u + 1) _ (by omega) (sm7_put hf (by decide)) zsI_at he
      refine s_X8_next_8 hg ?_
      rw [hP1.2.1, hu, c_nI (by omega), q1, nI_1 u]
      refine i_le z u rfl rfl (by omega) (by omega) (fun q => by omega) (fun _ => ⟨v_in (by omega) (by omega), i_eq (B u) 32 rfl rfl (by omega) (by omega) (fun y => yes (decide_eq_true (Or.inl y))) (fun y => ⟨v_in (by omega) (by omega), i_eq (B u) 10 rfl rfl (by omega) (by omega) (fun y2 => yes (decide_eq_true (Or.inr y2))) (fun y2 => ?_)⟩)⟩)
      rw [rnX_n (decide_eq_false (by omega) : isBl (B u) = false)] at he
      exact fin σ1 hf (by rw [← he]; exact hu)
  refine s_X8_next hg ?_
  rw [h2]
  exact key (z - p) p _ (by omega) (sm7_put (sm7_rf _ _) (by decide)) zsI_at rfl
end
