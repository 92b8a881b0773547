/-! the calls that change something: both sides answer alike -/
theorem okI_up {I : zIm} {n n1 T T1 : Nat} (h : okI I n T) (hn : n ≤ n1) (hT : T ≤ T1) : okI I n1 T1 := by
  cases I with
  | none => trivial
  | some v =>
    obtain ⟨n0, y0, r0, mo⟩ := v
    obtain ⟨a1, a2, a3, a4⟩ := h
    exact ⟨Nat.le_trans a1 hn, a2, Nat.lt_of_lt_of_le a3 hT, a4⟩
section
variable {σ σ1 : zI} {n n1 : Nat} {fam fam1 : Nat → zH} {T T1 R R1 dy dy1 : Nat} {P P1 : Nat → Nat → List Nat} {z z1' : Nat} {B B1 : Nat → Nat} {S S1 : Nat → zS} {I I1 : zIm} {l : List Nat}
theorem XJ_fam (h : XJ σ n fam T R dy P z B S I) (hF : xF σ1 n1 fam1) (hf : zfr l σ σ1) (hl : ∀ a, a ∈ l → a = 0 ∨ (43 ≤ a ∧ a < 49)) : XJ σ1 n1 fam1 T R dy P z B S I := by
  obtain ⟨a1, a2, a3, a4, a5⟩ := h
  have no : ∀ a, a ≠ 0 → ¬ (43 ≤ a ∧ a < 49) → a ∉ l := fun a h0 h1 q => by
    rcases hl a q with u | u
    · exact h0 u
    · exact h1 u
  exact ⟨hF, xTx_fr a2 hf (fun a ha e => no 3 (by omega) (by omega) (by rw [← e]; exact ha)) (fun a ha h1 h2 => no a (by omega) (by omega) ha), xP_fr a3 hf ⟨no 4 (by omega) (by omega), no 5 (by omega) (by omega)⟩, xSS_fr a4 hf (fun a ha => by rcases hl a ha with u | u <;> omega), xIm_fr a5 hf ⟨no 38 (by omega) (by omega), no 39 (by omega) (by omega), no 40 (by omega) (by omega)⟩⟩
theorem MJ_fam (h : MJ σ n fam T R dy P z B S I) (hF : mF σ1 n1 fam1) (hf : zfr l σ σ1) (hl : ∀ a, a ∈ l → 57 ≤ a ∧ a ≤ 60) (h57 : ∀ j, j ≠ 1 → σ1 57 j = σ 57 j) : MJ σ1 n1 fam1 T R dy P z B S I := by
  obtain ⟨a1, a2, a3, a4, a5, a6, a7, c0, a8⟩ := h
  have e : ∀ a, (a < 57 ∨ 60 < a) → σ1 a = σ a := fun a ha => hf a (fun q => by have := hl a q; omega)
  refine ⟨hF, ?_, mP_fr a3 (h57 6 (by omega)) (e 61 (by omega)), ?_, mIm_fr a5 (h57 32 (by omega)) (h57 33 (by omega)) (e 74 (by omega)), by rw [e 68 (by omega)]; exact a6, by rw [e 69 (by omega)]; exact a7, c0, mTc_fr a8 (h57 12 (by omega)) (e 62 (by omega))⟩
  · unfold mTx
    rw [h57 0 (by omega), h57 5 (by omega), h57 8 (by omega), e 62 (by omega), e 63 (by omega), e 64 (by omega)]
    exact a2
  · unfold mSS mS
    rw [e 75 (by omega), e 76 (by omega), e 77 (by omega)]
    exact a4
theorem XJ_tx (h : XJ σ n fam T R dy P z B S I) (hT : xTx σ1 T1 R1 dy1 P1) (hP : xP σ1 z1' B1) (hf : zfr l σ σ1) (hl : ∀ a, a ∈ l → 3 ≤ a ∧ a < 20) : XJ σ1 n fam T1 R1 dy1 P1 z1' B1 S I := by
  obtain ⟨a1, a2, a3, a4, a5⟩ := h
  have no : ∀ a, (a < 3 ∨ 20 ≤ a) → a ∉ l := fun a h0 q => by have := hl a q; omega
  exact ⟨xF_fr a1 hf (no 0 (by omega)) (fun i hi => no _ (by omega)), hT, hP, xSS_fr a4 hf (fun a ha => by have := hl a ha; omega), xIm_fr a5 hf ⟨no 38 (by omega), no 39 (by omega), no 40 (by omega)⟩⟩
theorem MJ_tx {c0 : Nat} (h : MJ σ n fam T R dy P z B S I) (hT : mTx σ1 T1 R1 dy1 P1) (hP : mP σ1 z1' B1) (hc : mTc σ1 T1 P1 c0) (hf : zfr l σ σ1) (hl : ∀ a, a ∈ l → a = 57 ∨ (61 ≤ a ∧ a ≤ 65)) (h1 : σ1 57 1 = σ 57 1) (h32 : σ1 57 32 = σ 57 32) (h33 : σ1 57 33 = σ 57 33) : MJ σ1 n fam T1 R1 dy1 P1 z1' B1 S I := by
  obtain ⟨a1, a2, a3, a4, a5, a6, a7, _⟩ := h
  have e : ∀ a, a ≠ 57 → ¬ (61 ≤ a ∧ a ≤ 65) → σ1 a = σ a := fun a h0 h1 => hf a (fun q => by have := hl a q; omega)
  refine ⟨⟨a1.1, h1.trans a1.2.1, fun i hi => ⟨(a1.2.2 i hi).1, mH_same (a1.2.2 i hi).2 (by rw [e 58 (by omega) (by omega)]) (by rw [e 59 (by omega) (by omega)]) (by rw [e 60 (by omega) (by omega)])⟩⟩, hT, hP, ?_, mIm_fr a5 h32 h33 (e 74 (by omega) (by omega)), by rw [e 68 (by omega) (by omega)]; exact a6, by rw [e 69 (by omega) (by omega)]; exact a7, c0, hc⟩
  unfold mSS mS
  rw [e 75 (by omega) (by omega), e 76 (by omega) (by omega), e 77 (by omega) (by omega)]
  exact a4
theorem XJ_sh (h : XJ σ n fam T R dy P z B S I) (hS : xSS σ1 S1) (hf : zfr l σ σ1) (hl : ∀ a, a ∈ l → a ∈ scX ∨ (49 ≤ a ∧ a < 57)) : XJ σ1 n fam T R dy P z B S1 I := by
  obtain ⟨a1, a2, a3, a4, a5⟩ := h
  have no : ∀ a, a < 49 → a ∉ scX → a ∉ l := fun a ha hs q => by
    rcases hl a q with u | u
    · exact hs u
    · omega
  refine ⟨xF_fr a1 hf (no 0 (by omega) (by decide)) (fun i hi => no _ (by omega) (by unfold scX; simp; omega)), xTx_fr a2 hf (fun a ha e => no 3 (by omega) (by decide) (by rw [← e]; exact ha)) (fun a ha h1 h2 => ?_), xP_fr a3 hf ⟨no 4 (by omega) (by decide), no 5 (by omega) (by decide)⟩, hS, xIm_fr a5 hf ⟨no 38 (by omega) (by decide), no 39 (by omega) (by decide), no 40 (by omega) (by decide)⟩⟩
  rcases hl a ha with u | u
  · unfold scX at u; simp at u; omega
  · omega
theorem MJ_sh (h : MJ σ n fam T R dy P z B S I) (hS : mSS σ1 S1) (hf : zfr l σ σ1) (hl : ∀ a, a ∈ l → (66 ≤ a ∧ a ≤ 69) ∨ (75 ≤ a ∧ a ≤ 77)) (h8 : σ1 68 0 = 0) (h9 : σ1 69 0 = 0) : MJ σ1 n fam T R dy P z B S1 I := by
  obtain ⟨a1, a2, a3, a4, a5, a6, a7, c0, a8⟩ := h
  have e : ∀ a, (a < 66 ∨ (69 < a ∧ a < 75)) → σ1 a = σ a := fun a ha => hf a (fun q => by have := hl a q; omega)
  refine ⟨⟨a1.1, by rw [e 57 (by omega)]; exact a1.2.1, fun i hi => ⟨(a1.2.2 i hi).1, mH_same (a1.2.2 i hi).2 (by rw [e 58 (by omega)]) (by rw [e 59 (by omega)]) (by rw [e 60 (by omega)])⟩⟩, ?_, mP_fr a3 (by rw [e 57 (by omega)]) (e 61 (by omega)), hS, mIm_fr a5 (by rw [e 57 (by omega)]) (by rw [e 57 (by omega)]) (e 74 (by omega)), h8, h9, c0, mTc_fr a8 (by rw [e 57 (by omega)]) (e 62 (by omega))⟩
  unfold mTx
  rw [e 57 (by omega), e 62 (by omega), e 63 (by omega), e 64 (by omega)]
  exact a2
theorem sok_up {c sz : Nat} {so : Int32} {C : Nat → Int32} (h : sok S) (hs : so = -1 ∨ (0 ≤ so.toInt ∧ so.toInt ≤ 2)) : sok (upS S c (so, sz, C)) := fun i hi => by
  by_cases e : i = c
  · subst e; rw [upS_at]; exact hs
  · rw [upS_no e]; exact h i hi
theorem sok_sm {c sz : Nat} {C : Nat → Int32} (h : sok S) (hc : c < 4) : sok (upS S c ((S c).1, sz, C)) := sok_up h (h c hc)
theorem XJ_m (h : XJ σ n fam T R dy P z B S I) (hf : zfr l σ σ1) (hl : ∀ a, a ∈ l → 57 ≤ a) : XJ σ1 n fam T R dy P z B S I := XJ_lo h hf hl
theorem dSet_0 {w h v : Int32} (e : dSet n w h v = some (0, 0)) : ∃ k, k ≤ 99 ∧ v = nI k := by
  unfold dSet at e
  by_cases c : w = 0
  · rw [if_pos c] at e
    by_cases c2 : 0 ≤ v.toInt ∧ v.toInt ≤ 99
    · exact zNat c2.1 c2.2 (by omega)
    · rw [if_neg c2] at e; cases e
  · rw [if_neg c] at e
    cases q : hA n h with
    | none => rw [q] at e; cases e
    | some i =>
      rw [q] at e
      have e : (if w = 1 then (if 0 ≤ v.toInt ∧ v.toInt ≤ 9 then some (1, i) else none) else if w = 2 then (if 0 ≤ v.toInt ∧ v.toInt ≤ 1073741823 then some (2, i) else none) else none) = some (0, 0) := e
      split at e
      · split at e <;> cases e
      · split at e
        · split at e <;> cases e
        · cases e
theorem dSet_12 {w h v : Int32} {u i : Nat} (hn : n ≤ 6) (e : dSet n w h v = some (u, i)) (hu : u = 1 ∨ u = 2) : i < n ∧ (u = 1 → ∃ k, k ≤ 9 ∧ v = nI k) ∧ (u = 2 → ∃ k, k ≤ 1073741823 ∧ v = nI k) := by
  unfold dSet at e
  by_cases c : w = 0
  · rw [if_pos c] at e
    split at e
    · cases e; omega
    · cases e
  · rw [if_neg c] at e
    cases q : hA n h with
    | none => rw [q] at e; cases e
    | some j =>
      rw [q] at e
      have lt := (hA_some hn q).1
      have e : (if w = 1 then (if 0 ≤ v.toInt ∧ v.toInt ≤ 9 then some (1, j) else none) else if w = 2 then (if 0 ≤ v.toInt ∧ v.toInt ≤ 1073741823 then some (2, j) else none) else none) = some (u, i) := e
      split at e
      · split at e
        · next c2 =>
          cases e
          exact ⟨lt, fun _ => zNat c2.1 c2.2 (by omega), fun q => by omega⟩
        · cases e
      · split at e
        · split at e
          · next c2 =>
            cases e
            exact ⟨lt, fun q => by omega, fun _ => zNat c2.1 c2.2 (by omega)⟩
          · cases e
        · cases e
theorem xF_one {i : Nat} {x : zH} (h : xF σ n fam) (hi : i < n) (hf : zfr [43 + i] σ σ1) (hx : xH σ1 (43 + i) x) (h1 : x.1 = i) : xF σ1 n (upF fam i x) := by
  obtain ⟨a1, a2, a3⟩ := h
  refine ⟨a1, by rw [hf 0 (by simp; omega)]; exact a2, fun j hj => ?_⟩
  by_cases e : j = i
  · subst e; rw [upF_at]; exact ⟨h1, hx⟩
  · rw [upF_no e]; exact ⟨(a3 j hj).1, xHr_fr (a3 j hj).2 hf (by simp; omega)⟩
theorem mF_one {i a : Nat} {x : zH} (h : mF σ n fam) (hi : i < n) (ha : a = 59 ∨ a = 60) (hf : zfr [a] σ σ1) (hk : ∀ k, k ≠ i → σ1 a k = σ a k) (hx : mH σ1 x) (h1 : x.1 = i) : mF σ1 n (upF fam i x) := by
  obtain ⟨a1, a2, a3⟩ := h
  refine ⟨a1, by rw [hf 57 (by simp; omega)]; exact a2, fun j hj => ?_⟩
  by_cases e : j = i
  · subst e; rw [upF_at]; exact ⟨h1, hx⟩
  · rw [upF_no e]
    have e2 : (fam j).1 ≠ i := by rw [(a3 j hj).1]; exact e
    refine ⟨(a3 j hj).1, mH_same (a3 j hj).2 (by rw [hf 58 (by simp; omega)]) ?_ ?_⟩
    · rcases ha with rfl | rfl
      · exact hk _ e2
      · rw [hf 59 (by simp)]
    · rcases ha with rfl | rfl
      · rw [hf 60 (by simp)]
      · exact hk _ e2
end
section
variable {g : zG} {σ : zI}
theorem L_set (hg : zGA g) (hJ : JJ σ) {a b c : Int32} {KX : Int32 → zI → Prop} (h : ∀ v σ1, σ1 3000 = σ 3000 → (∀ KM : Int32 → zI → Prop, (∀ σ2, JJ σ2 → σ2 3000 = σ 3000 → KM v σ2) → zCI mX8_set 60 [.ref 57, .int a, .int b, .int c] g σ1 KM) → KX v σ1) : zCI mX7_set 60 [.ref 0, .int a, .int b, .int c] g σ KX := by
  obtain ⟨n, fam, T, R, dy, P, z, B, S, I, hX, hM, hs, hi⟩ := hJ
  have n6 := hX.1.1
  refine cx_set (d := 59) hg hX.1 (fun e => h _ σ rfl (fun KM hK => ?_)) (fun e => ?_) (fun i e => ?_) (fun i e => ?_)
  · exact cm_set (d := 57) hg hM.1 (fun _ => hK σ ⟨n, fam, T, R, dy, P, z, B, S, I, hX, hM, hs, hi⟩ rfl) (fun e' => by rw [e] at e'; cases e') (fun i e' => by rw [e] at e'; cases e') (fun i e' => by rw [e] at e'; cases e')
  · obtain ⟨k, hk, rfl⟩ := dSet_0 e
    rw [hX.2.1.2.2.2.1]
    have f1 : zfr [3] σ (zsI σ 3 7 (nI k)) := zfr_I (by simp)
    have M1 := MJ_same hM (zfr_hi f1 (by decide))
    have X1 : XJ (zsI σ 3 7 (nI k)) n fam T R k P z B S I := by
      refine XJ_tx hX ?_ (xP_fr hX.2.2.1 f1 (by decide)) f1 (by decide)
      obtain ⟨p0, p1, p2, p3, p4, p5, p6⟩ := hX.2.1
      refine ⟨p0, p1, hk, zsI_at, by rw [zsI_no (by omega)]; exact p4, by rw [zsI_no (by omega)]; exact p5, fun t ht q hq => ?_⟩
      obtain ⟨a1, s, a2, a3, a4, a5⟩ := p6 t ht q hq
      exact ⟨a1, s, by rw [zsI_no (by omega)]; exact a2, a3, fun i c hc => by rw [zsI_no (by omega)]; exact a4 i c hc, by rw [zsI_no (by omega)]; exact a5⟩
    refine h _ _ (zsI_ne (by decide)) (fun KM hK => cm_set (d := 57) hg M1.1 (fun e' => by rw [e] at e'; cases e') (fun _ => ?_) (fun i e' => by rw [e] at e'; cases e') (fun i e' => by rw [e] at e'; cases e'))
    rw [M1.2.1.2.2.2.1]
    have f2 : zfr [57] (zsI σ 3 7 (nI k)) (zsI (zsI σ 3 7 (nI k)) 57 0 (nI k)) := zfr_I (by simp)
    obtain ⟨c0, hc0⟩ := M1.2.2.2.2.2.2.2
    refine hK _ ⟨n, fam, T, R, k, P, z, B, S, I, XJ_lo X1 f2 (by decide), MJ_tx (c0 := c0) M1 ?_ (mP_fr M1.2.2.1 (zsI_no (by omega)) (zsI_ne (by decide))) (mTc_fr hc0 (zsI_no (by omega)) (zsI_ne (by decide))) f2 (by decide) (zsI_no (by omega)) (zsI_no (by omega)) (zsI_no (by omega)), hs, hi⟩ ((zsI_ne (by decide)).trans (zsI_ne (by decide)))
    obtain ⟨p0, p1, p2, p3, p4, p5, p6⟩ := M1.2.1
    refine ⟨p0, p1, hk, zsI_at, by rw [zsI_no (by omega)]; exact p4, by rw [zsI_no (by omega)]; exact p5, fun t ht q hq => ?_⟩
    obtain ⟨a1, b, a2, a3, a4, a5⟩ := p6 t ht q hq
    exact ⟨a1, b, by rw [zsI_ne (by decide)]; exact a2, by rw [zsI_ne (by decide)]; exact a3, a4, fun i c hc => by rw [zsI_ne (by decide)]; exact a5 i c hc⟩
  · obtain ⟨hin, hk0, _⟩ := dSet_12 n6 e (Or.inl rfl)
    obtain ⟨k, hk, rfl⟩ := hk0 rfl
    obtain ⟨p0, p1, p2, p3, p4, p5, p6, p7⟩ := (hX.1.2.2 i hin).2
    rw [p2]
    have f1 : zfr [43 + i] σ (zsI σ (43 + i) 2 (nI k)) := zfr_I (by simp)
    have M1 := MJ_same hM (zfr_hi f1 (by simp; omega))
    have X1 : XJ (zsI σ (43 + i) 2 (nI k)) n (upF fam i (wMor (fam i) k)) T R dy P z B S I := XJ_fam hX (xF_one hX.1 hin f1 (x := wMor (fam i) k) (xH_mor (x := fam i) (o := (fam i).2.2.1) ⟨p0, p1, p2, p3, p4, p5, p6, p7⟩ hk) (hX.1.2.2 i hin).1) f1 (by simp; omega)
    refine h _ _ (zsI_ne (by omega)) (fun KM hK => cm_set (d := 57) hg M1.1 (fun e' => by rw [e] at e'; cases e') (fun e' => by rw [e] at e'; cases e') (fun i' e' => ?_) (fun i e' => by rw [e] at e'; cases e'))
    rw [e] at e'
    cases e'
    obtain ⟨x1, hx⟩ := M1.1.2.2 i hin
    have hx' : mHr (zsI σ (43 + i) 2 (nI k)) (fam i).1 (fam i).2.1 (fam i).2.2.1 (fam i).2.2.2 := hx
    rw [x1] at hx'
    obtain ⟨q0, q1, q2, q3, q4, q5, q6⟩ := hx'
    rw [q2]
    generalize zsI σ (43 + i) 2 (nI k) = σ1 at *
    have f2 : zfr [59] σ1 (zsI σ1 59 i (nI k)) := zfr_I (by simp)
    have hx2 : mH (zsI σ1 59 i (nI k)) (wMor (fam i) k) := by
      show mHr _ (fam i).1 (fam i).2.1 k (fam i).2.2.2
      rw [x1]
      exact ⟨q0, by rw [zsI_ne (by decide)]; exact q1, zsI_at, by rw [zsI_ne (by decide)]; exact q3, q4, hk, q6⟩
    exact hK _ ⟨n, _, T, R, dy, P, z, B, S, I, XJ_lo X1 f2 (by decide), MJ_fam M1 (mF_one M1.1 hin (Or.inl rfl) f2 (fun u hu => zsI_no (Or.inr hu)) hx2 x1) f2 (by decide) (fun j hj => zsI_no (by omega)), hs, hi⟩ (by rw [zsI_ne (by decide)]; exact (f1 3000 (by simp; omega)))
  · obtain ⟨hin, _, hk0⟩ := dSet_12 n6 e (Or.inr rfl)
    obtain ⟨k, hk, rfl⟩ := hk0 rfl
    obtain ⟨p0, p1, p2, p3, p4, p5, p6, p7⟩ := (hX.1.2.2 i hin).2
    rw [p3]
    have f1 : zfr [43 + i] σ (zsI σ (43 + i) 3 (nI k)) := zfr_I (by simp)
    have M1 := MJ_same hM (zfr_hi f1 (by simp; omega))
    have X1 : XJ (zsI σ (43 + i) 3 (nI k)) n (upF fam i (wOwn (fam i) k)) T R dy P z B S I := XJ_fam hX (xF_one hX.1 hin f1 (x := wOwn (fam i) k) (xH_own (x := fam i) (o := (fam i).2.2.2) ⟨p0, p1, p2, p3, p4, p5, p6, p7⟩ (by omega)) (hX.1.2.2 i hin).1) f1 (by simp; omega)
    refine h _ _ (zsI_ne (by omega)) (fun KM hK => cm_set (d := 57) hg M1.1 (fun e' => by rw [e] at e'; cases e') (fun e' => by rw [e] at e'; cases e') (fun i e' => by rw [e] at e'; cases e') (fun i' e' => ?_))
    rw [e] at e'
    cases e'
    obtain ⟨x1, hx⟩ := M1.1.2.2 i hin
    have hx' : mHr (zsI σ (43 + i) 3 (nI k)) (fam i).1 (fam i).2.1 (fam i).2.2.1 (fam i).2.2.2 := hx
    rw [x1] at hx'
    obtain ⟨q0, q1, q2, q3, q4, q5, q6⟩ := hx'
    rw [q3]
    generalize zsI σ (43 + i) 3 (nI k) = σ1 at *
    have f2 : zfr [60] σ1 (zsI σ1 60 i (nI k)) := zfr_I (by simp)
    have hx2 : mH (zsI σ1 60 i (nI k)) (wOwn (fam i) k) := by
      show mHr _ (fam i).1 (fam i).2.1 (fam i).2.2.1 k
      rw [x1]
      exact ⟨q0, by rw [zsI_ne (by decide)]; exact q1, by rw [zsI_ne (by decide)]; exact q2, zsI_at, q4, q5, by omega⟩
    exact hK _ ⟨n, _, T, R, dy, P, z, B, S, I, XJ_lo X1 f2 (by decide), MJ_fam M1 (mF_one M1.1 hin (Or.inr rfl) f2 (fun u hu => zsI_no (Or.inr hu)) hx2 x1) f2 (by decide) (fun j hj => zsI_no (by omega)), hs, hi⟩ (by rw [zsI_ne (by decide)]; exact (f1 3000 (by simp; omega)))
end
