/-! the class's next() -/
def sm4 (l : List Nat) (σ σ' : zI) : Prop := zfr [4] σ σ' ∧ ∀ j, j ∉ l → σ' 4 j = σ 4 j
theorem sm4_rf (l : List Nat) (σ : zI) : sm4 l σ σ := ⟨zfr_rf _ _, fun _ _ => rfl⟩
theorem sm4_put {l : List Nat} {σ σ1 : zI} {k : Nat} {x : Int32} (h : sm4 l σ σ1) (hk : k ∈ l) : sm4 l σ (zsI σ1 4 k x) := ⟨zfr_put h.1 (by decide), fun j hj => by
  rw [zsI_no (Or.inr (fun e => hj (by rw [e]; exact hk)))]
  exact h.2 j hj⟩
theorem xP_4 {σ σ1 : zI} {z : Nat} {B : Nat → Nat} {l : List Nat} (h : xP σ z B) (hf : sm4 l σ σ1) (hl : 1 ∉ l) : xP σ1 z B :=
  ⟨h.1, by rw [hf.2 1 hl]; exact h.2.1, fun i hi => by rw [hf.1 5 (by decide)]; exact h.2.2 i hi⟩
section
variable {d : Nat} {g : zG} {σ : zI} {K : zI → Prop}
theorem cx_wordL (hg : zGL g) {z : Nat} {B : Nat → Nat} {b e : Nat} (hbe : b < e) (hez : e ≤ z) (hl : ∀ j, j < e - b → isLt (B (b + j)) = true) (h1 : ∀ σ', sm4 [3] σ σ' → σ' 4 3 = nI (tkW B b (e - b) 12) → K σ') : ∀ (r i : Nat) (σ1 : zI), i + r = 12 → xP σ1 z B → sm4 [3] σ σ1 → σ1 4 4 = nI b → σ1 4 2 = nI e → σ1 4 3 = nI (tkW B b (e - b) i) → p_X4_nextWord_46 (d + 5) g K σ1 (nI i) := by
  intro r
  induction r with
  | zero =>
    intro i σ1 hr hP hf hb he h3
    have ei : i = 12 := by omega
    subst ei
    exact s_X4_nextWord_46 hg (i_le 12 12 rfl rfl (by omega) (by omega) (fun _ => h1 σ1 hf h3) (fun q => by omega))
  | succ r ih =>
    intro i σ1 hr hP hf hb he h3
    refine s_X4_nextWord_46 hg (i_le 12 i rfl rfl (by omega) (by omega) (fun q => by omega) (fun _ => cx_word hg (by omega) ⟨i + 1, rfl, show i + 1 < 14 by omega, cx_stands (d := d) hg hP hb he hbe hez (by omega) hl (fun w => z0 ?_) (fun w => z1 ?_)⟩))
    · rw [nI_1 i]
      refine ih (i + 1) σ1 (by omega) hP hf hb he ?_
      rw [h3]
      unfold tkW
      rw [if_neg (by rw [w]; decide)]
      cases i <;> rfl
    · rw [nI_1 i, show (1000 : Int32) + nI i = nI (1000 + i) from nI_add 1000 i]
      refine ih (i + 1) _ (by omega) (xP_4 (l := [3]) hP (sm4_put (sm4_rf _ _) (by decide)) (by decide)) (sm4_put hf (by decide)) (by rw [zsI_no (by omega)]; exact hb) (by rw [zsI_no (by omega)]; exact he) ?_
      rw [zsI_at]
      unfold tkW
      rw [if_pos w]
theorem cx_nextWord (hg : zGL g) {z : Nat} {B : Nat → Nat} {b : Nat} (hP : xP σ z B) (hb : σ 4 4 = nI b) (h2 : σ 4 2 = nI (b + 1)) (hbz : b < z) (hc : isLt (B b) = true)
    (h1 : ∀ σ', sm4 [2, 3] σ σ' → σ' 4 2 = nI (enX isLt B z b) → σ' 4 3 = nI (tkW B b (enX isLt B z b - b) 12) → K σ') : zCV mX4_nextWord (d + 6) [.ref 4] g σ K := by
  have z160 := hP.1
  have al := rnX_all isLt B (z - (b + 1)) (b + 1)
  have rin := rnX_in isLt B (z - (b + 1)) (b + 1)
  have all : ∀ j, j < enX isLt B z b - b → isLt (B (b + j)) = true := fun j hj => by
    by_cases e0 : j = 0
    · rw [e0]; exact hc
    · exact al (b + j) (by omega) (by unfold enX at hj; omega)
  have hbe : b < enX isLt B z b := by unfold enX; omega
  have hez : enX isLt B z b ≤ z := by unfold enX; omega
  have fin : ∀ σ1, sm4 [2] σ σ1 → σ1 4 2 = nI (enX isLt B z b) → p_X4_nextWord_46 (d + 5) g K (zsI σ1 4 3 0) 0 := fun σ1 hf he => by
    refine cx_wordL (d := d) (σ := zsI σ1 4 3 0) hg hbe hez all (fun σ' hf2 h3 => h1 σ' ⟨zfr_tr (zfr_put hf.1 (by decide)) hf2.1, fun j hj => ?_⟩ ?_ h3) 12 0 _ (by omega) (xP_4 (l := [3]) (xP_4 hP hf (by decide)) (sm4_put (sm4_rf _ _) (by decide)) (by decide)) (sm4_rf _ _) ?_ ?_ zsI_at
    · have hj3 : j ∉ [3] := fun q => hj (by simp at q ⊢; omega)
      rw [hf2.2 j hj3, zsI_no (Or.inr (fun e => hj3 (by rw [e]; decide)))]
      exact hf.2 j (fun q => hj (by simp at q ⊢; omega))
    · rw [hf2.2 2 (by decide), zsI_no (by omega)]; exact he
    · rw [zsI_no (by omega), hf.2 4 (by decide)]; exact hb
    · rw [zsI_no (by omega)]; exact he
  have tree : ∀ (p : Nat) (σ1 : zI), p ≤ z → xP σ1 z B → σ1 4 2 = nI p → (p < z → isLt (B p) = true → p_X4_nextWord_0 (d + 5) g K (zsI σ1 4 2 (nI (p + 1)))) → (z ≤ p ∨ isLt (B p) = false → p_X4_nextWord_46 (d + 5) g K (zsI σ1 4 3 0) 0) →
      (if ((σ1 4 1) ≤ (σ1 4 2) : Prop) then p_X4_nextWord_46 (d + 5) g K (zsI σ1 4 3 0) 0 else vp_in (σ1 4 2) 160 ∧ zCI mX4_isLetter (d + 5) [.int (σ1 5 ((σ1 4 2 : Int32).toNatClampNeg))] g σ1 (fun v1 σ2 => (if (v1 = 0 : Prop) then p_X4_nextWord_46 (d + 5) g K (zsI σ2 4 3 0) 0 else p_X4_nextWord_0 (d + 5) g K (zsI σ2 4 2 ((σ2 4 2) + 1))))) := by
    intro p σ1 hpz hP1 hp ky kn
    rw [hP1.2.1, hp]
    refine i_le z p rfl rfl (by omega) (by omega) (fun c => kn (Or.inl c)) (fun c => ?_)
    rw [c_nI (by omega), (hP1.2.2 p (by omega)).1]
    refine ⟨v_in (by omega) (by omega), cx_isLt hg (hP1.2.2 p (by omega)).2 (fun w => z0 (kn (Or.inr w))) (fun w => z1 ?_)⟩
    rw [hp, nI_1 p]
    exact ky (by omega) w
  have key : ∀ (r p : Nat) (σ1 : zI), p + r = z → sm4 [2] σ σ1 → σ1 4 2 = nI p → rnX isLt B r p = enX isLt B z b → p_X4_nextWord_0 (d + 5) g K σ1 := by
    intro r
    induction r with
    | zero =>
      intro p σ1 hr hf hp he
      have he : p = enX isLt B z b := he
      refine s_X4_nextWord_0 hg (tree p σ1 (by omega) (xP_4 hP hf (by decide)) hp (fun q => by omega) (fun _ => fin σ1 hf (by rw [← he]; exact hp)))
    | succ r ih =>
      intro p σ1 hr hf hp he
      refine s_X4_nextWord_0 hg (tree p σ1 (by omega) (xP_4 hP hf (by decide)) hp (fun q w => ?_) (fun q => fin σ1 hf ?_))
      · rw [rnX_y w] at he
        exact ih (p + 1) _ (by omega) (sm4_put hf (by decide)) zsI_at he
      · rcases q with q | q
        · omega
        · rw [rnX_n q] at he
          rw [← he]; exact hp
  have he : rnX isLt B (z - (b + 1)) (b + 1) = enX isLt B z b := rfl
  refine s_X4_nextWord hg (tree (b + 1) σ (by omega) hP h2 (fun q w => key (z - (b + 2)) (b + 2) _ (by omega) (sm4_put (sm4_rf _ _) (by decide)) zsI_at ?_) (fun q => fin σ (sm4_rf _ _) ?_))
  · rw [← he, show z - (b + 1) = (z - (b + 2)) + 1 by omega, rnX_y w]
  · rw [h2, ← he]
    by_cases c : z ≤ b + 1
    · rw [show z - (b + 1) = 0 by omega]; rfl
    · rcases q with q | q
      · omega
      · rw [show z - (b + 1) = (z - (b + 2)) + 1 by omega, rnX_n q]
theorem cx_nextNum (hg : zGL g) {z : Nat} {B : Nat → Nat} {b : Nat} (hP : xP σ z B) (hb : σ 4 4 = nI b) (h2 : σ 4 2 = nI (b + 1)) (hbz : b < z) (hc : isDg (B b) = true)
    (h1 : ∀ σ', sm4 [2, 3, 5] σ σ' → σ' 4 2 = nI (enX isDg B z b) → σ' 4 3 = nI (if enX isDg B z b - b ≤ 4 then 2 else 0) → σ' 4 5 = nI (nmX B b (min 4 (enX isDg B z b - b))) → K σ') : zCV mX4_nextNumber (d + 6) [.ref 4] g σ K := by
  have z160 := hP.1
  have al := rnX_all isDg B (z - (b + 1)) (b + 1)
  have rin := rnX_in isDg B (z - (b + 1)) (b + 1)
  have all : ∀ j, j < enX isDg B z b - b → isDg (B (b + j)) = true := fun j hj => by
    by_cases e0 : j = 0
    · rw [e0]; exact hc
    · exact al (b + j) (by omega) (by unfold enX at hj; omega)
  have hbe : b < enX isDg B z b := by unfold enX; omega
  have hez : enX isDg B z b ≤ z := by unfold enX; omega
  have fin : ∀ σ1, sm4 [2] σ σ1 → σ1 4 2 = nI (enX isDg B z b) → p_X4_nextNumber_49 (d + 5) g K (zsI σ1 4 5 0) (nI b) := fun σ1 hf he => by
    generalize enX isDg B z b = e at *
    have key : ∀ (r j : Nat) (σ2 : zI), j + r = min 4 (e - b) → sm4 [2, 5] σ σ2 → σ2 4 2 = nI e → σ2 4 5 = nI (nmX B b j) → p_X4_nextNumber_49 (d + 5) g K σ2 (nI (b + j)) := by
      intro r
      induction r with
      | zero =>
        intro j σ2 hr hf2 he2 h5
        have bb : σ2 4 4 = nI b := by rw [hf2.2 4 (by decide)]; exact hb
        have ed : j = min 4 (e - b) := by omega
        have done : (if ((nI e - nI b : Int32) ≤ 4 : Prop) then K (zsI σ2 4 3 2) else K (zsI σ2 4 3 0)) := by
          rw [pk_sub (by omega)]
          have up : ∀ x : Int32, sm4 [2, 3, 5] σ (zsI σ2 4 3 x) := fun x => ⟨zfr_put hf2.1 (by decide), fun i hi => by
            rw [zsI_no (Or.inr (fun e => hi (by rw [e]; decide)))]
            exact hf2.2 i (fun q => hi (by simp at q ⊢; omega))⟩
          refine i_le (e - b) 4 rfl rfl (by omega) (by omega) (fun c => h1 _ (up 2) (by rw [zsI_no (by omega)]; exact he2) (by rw [zsI_at, if_pos c]; rfl) (by rw [zsI_no (by omega), h5, ed])) (fun c => h1 _ (up 0) (by rw [zsI_no (by omega)]; exact he2) (by rw [zsI_at, if_neg (by omega)]; rfl) (by rw [zsI_no (by omega), h5, ed]))
        refine s_X4_nextNumber_49 hg ?_
        rw [bb, he2, show nI b + 4 = nI (b + 4) from nI_add b 4]
        exact i_le e (b + j) rfl rfl (by omega) (by omega) (fun _ => done) (fun q => i_le (b + 4) (b + j) rfl rfl (by omega) (by omega) (fun _ => done) (fun q2 => by omega))
      | succ r ih =>
        intro j σ2 hr hf2 he2 h5
        have bb : σ2 4 4 = nI b := by rw [hf2.2 4 (by decide)]; exact hb
        have dj := of_decide_eq_true (all j (by omega))
        have b5 : σ2 5 (b + j) = nI (B (b + j)) := by rw [hf2.1 5 (by decide)]; exact (hP.2.2 (b + j) (by omega)).1
        refine s_X4_nextNumber_49 hg ?_
        rw [bb, he2, show nI b + 4 = nI (b + 4) from nI_add b 4, h5, c_nI (n := b + j) (by omega), b5, show (10 : Int32) * nI (nmX B b j) = nI (10 * nmX B b j) from pk_mul 10 _, nI_add, show nI (10 * nmX B b j + B (b + j)) - 48 = nI (10 * nmX B b j + B (b + j) - 48) from pk_sub (b := 48) (by omega), nI_1 (b + j)]
        refine i_le e (b + j) rfl rfl (by omega) (by omega) (fun q => by omega) (fun q => i_le (b + 4) (b + j) rfl rfl (by omega) (by omega) (fun q => by omega) (fun q2 => ⟨v_in (by omega) (by omega), ih (j + 1) _ (by omega) (sm4_put hf2 (by decide)) (by rw [zsI_no (by omega)]; exact he2) ?_⟩))
        rw [zsI_at]
        rfl
    exact key (min 4 (e - b)) 0 _ (by omega) ⟨zfr_put hf.1 (by decide), fun i hi => by
      rw [zsI_no (Or.inr (fun e => hi (by rw [e]; decide)))]
      exact hf.2 i (fun q => hi (by simp at q ⊢; omega))⟩ (by rw [zsI_no (by omega)]; exact he) zsI_at
  have tree : ∀ (p : Nat) (σ1 : zI), p ≤ z → xP σ1 z B → σ1 4 2 = nI p → (p < z → isDg (B p) = true → p_X4_nextNumber_0 (d + 5) g K (zsI σ1 4 2 (nI (p + 1)))) → (z ≤ p ∨ isDg (B p) = false → p_X4_nextNumber_49 (d + 5) g K (zsI σ1 4 5 0) (σ1 4 4)) →
      (if ((σ1 4 1) ≤ (σ1 4 2) : Prop) then p_X4_nextNumber_49 (d + 5) g K (zsI σ1 4 5 0) (σ1 4 4) else vp_in (σ1 4 2) 160 ∧ zCI mX4_isDigit (d + 5) [.int (σ1 5 ((σ1 4 2 : Int32).toNatClampNeg))] g σ1 (fun v1 σ2 => (if (v1 = 0 : Prop) then p_X4_nextNumber_49 (d + 5) g K (zsI σ2 4 5 0) (σ2 4 4) else p_X4_nextNumber_0 (d + 5) g K (zsI σ2 4 2 ((σ2 4 2) + 1))))) := by
    intro p σ1 hpz hP1 hp ky kn
    rw [hP1.2.1, hp]
    refine i_le z p rfl rfl (by omega) (by omega) (fun c => kn (Or.inl c)) (fun c => ?_)
    rw [c_nI (by omega), (hP1.2.2 p (by omega)).1]
    refine ⟨v_in (by omega) (by omega), cx_isDg hg (hP1.2.2 p (by omega)).2 (fun w => z0 (kn (Or.inr w))) (fun w => z1 ?_)⟩
    rw [hp, nI_1 p]
    exact ky (by omega) w
  have key : ∀ (r p : Nat) (σ1 : zI), p + r = z → sm4 [2] σ σ1 → σ1 4 2 = nI p → rnX isDg B r p = enX isDg B z b → p_X4_nextNumber_0 (d + 5) g K σ1 := by
    intro r
    induction r with
    | zero =>
      intro p σ1 hr hf hp he
      have he : p = enX isDg B z b := he
      refine s_X4_nextNumber_0 hg (tree p σ1 (by omega) (xP_4 hP hf (by decide)) hp (fun q => by omega) (fun _ => by rw [hf.2 4 (by decide), hb]; exact fin σ1 hf (by rw [← he]; exact hp)))
    | succ r ih =>
      intro p σ1 hr hf hp he
      refine s_X4_nextNumber_0 hg (tree p σ1 (by omega) (xP_4 hP hf (by decide)) hp (fun q w => ?_) (fun q => ?_))
      · rw [rnX_y w] at he
        exact ih (p + 1) _ (by omega) (sm4_put hf (by decide)) zsI_at he
      · rw [hf.2 4 (by decide), hb]
        refine fin σ1 hf ?_
        rcases q with q | q
        · omega
        · rw [rnX_n q] at he
          rw [← he]; exact hp
  have he : rnX isDg B (z - (b + 1)) (b + 1) = enX isDg B z b := rfl
  refine s_X4_nextNumber hg (tree (b + 1) σ (by omega) hP h2 (fun q w => key (z - (b + 2)) (b + 2) _ (by omega) (sm4_put (sm4_rf _ _) (by decide)) zsI_at ?_) (fun q => ?_))
  · rw [← he, show z - (b + 1) = (z - (b + 2)) + 1 by omega, rnX_y w]
  · rw [hb]
    refine fin σ (sm4_rf _ _) ?_
    rw [h2, ← he]
    by_cases c : z ≤ b + 1
    · rw [show z - (b + 1) = 0 by omega]; rfl
    · rcases q with q | q
      · omega
      · rw [show z - (b + 1) = (z - (b + 2)) + 1 by omega, rnX_n q]
theorem cx_next52 (hg : zGL g) {z : Nat} {B : Nat → Nat} {b : Nat} (hP : xP σ z B) (h2 : σ 4 2 = nI b) (hbz : b ≤ z) (h1 : ∀ σ', sm4 [2, 3, 4, 5] σ σ' → xK σ' (tkA B z b) → K σ') : p_X4_next_52 (d + 6) g K σ := by
  have z160 := hP.1
  refine s_X4_next_52 hg ?_
  rw [h2, hP.2.1]
  have up : ∀ {l : List Nat} {σ1 : zI}, (∀ j, j ∈ l → j ∈ [2, 3, 4, 5]) → sm4 l σ σ1 → sm4 [2, 3, 4, 5] σ σ1 := fun hl h => ⟨h.1, fun j hj => h.2 j (fun q => hj (hl j q))⟩
  refine i_lt b z rfl rfl (by omega) (by omega) (fun c => ?_) (fun c => ?_)
  · obtain ⟨q1, q2⟩ := hP.2.2 b c
    rw [c_nI (by omega), q1, nI_1 b]
    generalize hs : zsI (zsI σ 4 4 (nI b)) 4 2 (nI (b + 1)) = σ1
    have f1 : sm4 [2, 4] σ σ1 := by rw [← hs]; exact sm4_put (sm4_put (sm4_rf _ _) (by decide)) (by decide)
    have s4 : σ1 4 4 = nI b := by rw [← hs, zsI_no (by omega), zsI_at]
    have s2 : σ1 4 2 = nI (b + 1) := by rw [← hs, zsI_at]
    have P1 : xP σ1 z B := xP_4 hP f1 (by decide)
    have eA : tkA B z b = if isLt (B b) then (b, enX isLt B z b, tkW B b (enX isLt B z b - b) 12, 0) else if isDg (B b) then (b, enX isDg B z b, if enX isDg B z b - b ≤ 4 then 2 else 0, nmX B b (min 4 (enX isDg B z b - b))) else if isSg (B b) then (b, b + 1, B b, 0) else (b, b + 1, 0, 0) := if_neg (by omega)
    rw [eA] at h1
    refine ⟨v_in (by omega) (by omega), cx_isLt hg q2 (fun w => z0 (cx_isDg hg q2 (fun w2 => z0 (cx_isSg (d := d + 2) hg q2 (fun w3 => z0 ?_) (fun w3 => z1 ?_))) (fun w2 => z1 ?_))) (fun w => z1 ?_)⟩
    · rw [w, w2, w3] at h1
      refine h1 _ (sm4_put (up (by decide) f1) (by decide)) ⟨?_, ?_, zsI_at, fun e => absurd e (by show ¬ 0 = 2; omega)⟩
      · rw [zsI_no (by omega)]; exact s4
      · rw [zsI_no (by omega)]; exact s2
    · have h3 := of_decide_eq_true w3
      rw [w, w2, w3] at h1
      refine h1 _ (sm4_put (up (by decide) f1) (by decide)) ⟨?_, ?_, zsI_at, fun e => absurd e (by show ¬ B b = 2; omega)⟩
      · rw [zsI_no (by omega)]; exact s4
      · rw [zsI_no (by omega)]; exact s2
    · rw [w, w2] at h1
      refine cx_nextNum (d := d) hg P1 s4 s2 c w2 (fun σ' hf e2 e3 e5 => h1 σ' ⟨zfr_tr f1.1 hf.1, fun j hj => ?_⟩ ⟨?_, e2, e3, fun _ => e5⟩)
      · rw [hf.2 j (fun q => hj (by simp at q ⊢; omega))]
        exact f1.2 j (fun q => hj (by simp at q ⊢; omega))
      · rw [hf.2 4 (by decide)]; exact s4
    · rw [w] at h1
      refine cx_nextWord (d := d) hg P1 s4 s2 c w (fun σ' hf e2 e3 => h1 σ' ⟨zfr_tr f1.1 hf.1, fun j hj => ?_⟩ ⟨?_, e2, e3, fun e => ?_⟩)
      · rw [hf.2 j (fun q => hj (by simp at q ⊢; omega))]
        exact f1.2 j (fun q => hj (by simp at q ⊢; omega))
      · rw [hf.2 4 (by decide)]; exact s4
      · have e : tkW B b (enX isLt B z b - b) 12 = 2 := e
        have := tkW_in B b (enX isLt B z b - b) 12
        omega
  · have eA : tkA B z b = (b, b, 1, 0) := if_pos c
    rw [eA] at h1
    refine h1 _ (sm4_put (sm4_put (sm4_rf _ _) (by decide)) (by decide)) ⟨?_, ?_, zsI_at, fun e => absurd e (by show ¬ 1 = 2; omega)⟩
    · rw [zsI_no (by omega), zsI_at]
    · rw [zsI_no (by omega), zsI_no (by omega)]; exact h2
theorem cx_next (hg : zGL g) {z : Nat} {B : Nat → Nat} {p : Nat} (hP : xP σ z B) (h2 : σ 4 2 = nI p) (hpz : p ≤ z) (h1 : ∀ σ', sm4 [2, 3, 4, 5] σ σ' → xK σ' (lxX B z p) → K σ') : zCV mX4_next (d + 7) [.ref 4] g σ K := by
  have z160 := hP.1
  have rin := rnX_in isBl B (z - p) p
  have fin : ∀ σ1, sm4 [2] σ σ1 → σ1 4 2 = nI (rnX isBl B (z - p) p) → p_X4_next_52 (d + 6) g K σ1 := fun σ1 hf he => by
    refine cx_next52 (d := d) (b := rnX isBl B (z - p) p) hg (xP_4 hP hf (by decide)) he (by omega) (fun σ' hf2 hk => h1 σ' ⟨zfr_tr hf.1 hf2.1, fun j hj => ?_⟩ hk)
    rw [hf2.2 j hj]
    exact hf.2 j (fun q => hj (by simp at q ⊢; omega))
  have tree : ∀ (u : Nat) (σ1 : zI), u ≤ z → xP σ1 z B → σ1 4 2 = nI u → (u < z → isBl (B u) = true → p_X4_next_0 (d + 6) g K (zsI σ1 4 2 (nI (u + 1)))) → (z ≤ u ∨ isBl (B u) = false → p_X4_next_52 (d + 6) g K σ1) →
      (if ((σ1 4 1) ≤ (σ1 4 2) : Prop) then p_X4_next_52 (d + 6) g K σ1 else vp_in (σ1 4 2) 160 ∧ (if ((σ1 5 ((σ1 4 2 : Int32).toNatClampNeg)) = 32 : Prop) then p_X4_next_0 (d + 6) g K (zsI σ1 4 2 ((σ1 4 2) + 1)) else vp_in (σ1 4 2) 160 ∧ (if ((σ1 5 ((σ1 4 2 : Int32).toNatClampNeg)) = 10 : Prop) then p_X4_next_0 (d + 6) g K (zsI σ1 4 2 ((σ1 4 2) + 1)) else p_X4_next_52 (d + 6) g K σ1))) := by
    intro u σ1 hu hP1 h2 ky kn
    rw [hP1.2.1, h2]
    refine i_le z u rfl rfl (by omega) (by omega) (fun c => kn (Or.inl c)) (fun c => ?_)
    obtain ⟨q1, q2⟩ := hP1.2.2 u (by omega)
    rw [c_nI (by omega), q1, nI_1 u]
    refine ⟨v_in (by omega) (by omega), i_eq (B u) 32 rfl rfl (by omega) (by omega) (fun y => ky (by omega) (decide_eq_true (Or.inl y))) (fun y => ⟨v_in (by omega) (by omega), i_eq (B u) 10 rfl rfl (by omega) (by omega) (fun y2 => ky (by omega) (decide_eq_true (Or.inr y2))) (fun y2 => kn (Or.inr (decide_eq_false (by omega))))⟩)⟩
  have key : ∀ (r u : Nat) (σ1 : zI), u + r = z → sm4 [2] σ σ1 → σ1 4 2 = nI u → rnX isBl B r u = rnX isBl B (z - p) p → p_X4_next_0 (d + 6) g K σ1 := by
    intro r
    induction r with
    | zero =>
      intro u σ1 hr hf hu he
      have he : u = rnX isBl B (z - p) p := he
      exact s_X4_next_0 hg (tree u σ1 (by omega) (xP_4 hP hf (by decide)) hu (fun q => by omega) (fun _ => fin σ1 hf (by rw [← he]; exact hu)))
    | succ r ih =>
      intro u σ1 hr hf hu he
      refine s_X4_next_0 hg (tree u σ1 (by omega) (xP_4 hP hf (by decide)) hu (fun q w => ?_) (fun q => fin σ1 hf ?_))
      · rw [rnX_y w] at he
        exact ih (u + 1) _ (by omega) (sm4_put hf (by decide)) zsI_at he
      · rcases q with q | q
        · omega
        · rw [rnX_n q] at he
          rw [← he]; exact hu
  refine s_X4_next hg (tree p σ hpz hP h2 (fun q w => key (z - (p + 1)) (p + 1) _ (by omega) (sm4_put (sm4_rf _ _) (by decide)) zsI_at ?_) (fun q => fin σ (sm4_rf _ _) ?_))
  · rw [show z - p = (z - (p + 1)) + 1 by omega, rnX_y w]
  · rw [h2]
    by_cases c : z ≤ p
    · rw [show z - p = 0 by omega]; rfl
    · rcases q with q | q
      · omega
      · rw [show z - p = (z - (p + 1)) + 1 by omega, rnX_n q]
end
