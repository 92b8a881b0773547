/-! the two sides together -/
def XJ (σ : zI) (n : Nat) (fam : Nat → zH) (T R dy : Nat) (P : Nat → Nat → List Nat) (z : Nat) (B : Nat → Nat) (S : Nat → zS) (I : zIm) : Prop := xF σ n fam ∧ xTx σ T R dy P ∧ xP σ z B ∧ xSS σ S ∧ xIm σ I
def MJ (σ : zI) (n : Nat) (fam : Nat → zH) (T R dy : Nat) (P : Nat → Nat → List Nat) (z : Nat) (B : Nat → Nat) (S : Nat → zS) (I : zIm) : Prop := mF σ n fam ∧ mTx σ T R dy P ∧ mP σ z B ∧ mSS σ S ∧ mIm σ I ∧ σ 68 0 = 0 ∧ σ 69 0 = 0 ∧ ∃ c0, mTc σ T P c0
def JJ (σ : zI) : Prop := ∃ n fam T R dy P z B S I, XJ σ n fam T R dy P z B S I ∧ MJ σ n fam T R dy P z B S I ∧ sok S ∧ okI I n T
def scX : List Nat := [20, 21, 23, 24, 25, 26, 27, 28, 30, 31, 32, 33, 34, 35, 36, 37, 41, 42]
def scM : List Nat := [66, 67, 68, 69, 70, 71, 72, 73, 78]
section
variable {σ σ1 : zI} {n : Nat} {fam : Nat → zH} {T R dy : Nat} {P : Nat → Nat → List Nat} {z : Nat} {B : Nat → Nat} {S : Nat → zS} {I : zIm} {l : List Nat}
theorem xP_fr (h : xP σ z B) (hf : zfr l σ σ1) (hl : 4 ∉ l ∧ 5 ∉ l) : xP σ1 z B := ⟨h.1, by rw [hf 4 hl.1]; exact h.2.1, fun i hi => by rw [hf 5 hl.2]; exact h.2.2 i hi⟩
theorem mP_fr (h : mP σ z B) (h1 : σ1 57 6 = σ 57 6) (h2 : σ1 61 = σ 61) : mP σ1 z B := ⟨h.1, h1.trans h.2.1, fun i hi => by rw [h2]; exact h.2.2 i hi⟩
theorem mTc_fr {c0 : Nat} (h : mTc σ T P c0) (h1 : σ1 57 12 = σ 57 12) (h2 : σ1 62 = σ 62) : mTc σ1 T P c0 := ⟨h1.trans h.1, h.2.1, fun t ht q hq b hb hbe => by rw [h2] at hbe; exact h.2.2 t ht q hq b hb hbe⟩
/-- what touches the class's scratch alone -/
theorem XJ_q (h : XJ σ n fam T R dy P z B S I) (hf : zfr l σ σ1) (hl : ∀ a, a ∈ l → a ∈ scX ∨ 57 ≤ a) : XJ σ1 n fam T R dy P z B S I := by
  obtain ⟨a1, a2, a3, a4, a5⟩ := h
  have no : ∀ a, a < 57 → a ∉ scX → a ∉ l := fun a ha hs q => by
    rcases hl a q with u | u
    · exact hs u
    · omega
  refine ⟨xF_fr a1 hf (no 0 (by omega) (by decide)) (fun i hi => no _ (by omega) (by unfold scX; simp; omega)), xTx_fr a2 hf (fun a ha e => no 3 (by omega) (by decide) (by rw [← e]; exact ha)) (fun a ha h1 h2 => ?_), xP_fr a3 hf ⟨no 4 (by omega) (by decide), no 5 (by omega) (by decide)⟩, xSS_fr a4 hf (fun a ha => ?_), xIm_fr a5 hf ⟨no 38 (by omega) (by decide), no 39 (by omega) (by decide), no 40 (by omega) (by decide)⟩⟩
  · rcases hl a ha with u | u
    · unfold scX at u; simp at u; omega
    · omega
  · rcases hl a ha with u | u
    · unfold scX at u; simp at u; omega
    · omega
theorem MJ_same (h : MJ σ n fam T R dy P z B S I) (hf : ∀ a, 57 ≤ a → a ≤ 78 → σ1 a = σ a) : MJ σ1 n fam T R dy P z B S I := by
  obtain ⟨a1, a2, a3, a4, a5, a6, a7, c0, a8⟩ := h
  have z : zfr [0] (fun a => if 57 ≤ a ∧ a ≤ 78 then σ a else σ1 a) σ1 := fun a _ => by
    show σ1 a = if 57 ≤ a ∧ a ≤ 78 then σ a else σ1 a
    by_cases c : 57 ≤ a ∧ a ≤ 78
    · rw [if_pos c]; exact hf a c.1 c.2
    · rw [if_neg c]
  have e : ∀ a, 57 ≤ a → a ≤ 78 → σ1 a = σ a := hf
  refine ⟨⟨a1.1, by rw [e 57 (by omega) (by omega)]; exact a1.2.1, fun i hi => ⟨(a1.2.2 i hi).1, mH_same (a1.2.2 i hi).2 (by rw [e 58 (by omega) (by omega)]) (by rw [e 59 (by omega) (by omega)]) (by rw [e 60 (by omega) (by omega)])⟩⟩, ?_, mP_fr a3 (by rw [e 57 (by omega) (by omega)]) (e 61 (by omega) (by omega)), ?_, mIm_fr a5 (by rw [e 57 (by omega) (by omega)]) (by rw [e 57 (by omega) (by omega)]) (e 74 (by omega) (by omega)), by rw [e 68 (by omega) (by omega)]; exact a6, by rw [e 69 (by omega) (by omega)]; exact a7, c0, mTc_fr a8 (by rw [e 57 (by omega) (by omega)]) (e 62 (by omega) (by omega))⟩
  · unfold mTx
    rw [e 57 (by omega) (by omega), e 62 (by omega) (by omega), e 63 (by omega) (by omega), e 64 (by omega) (by omega)]
    exact a2
  · unfold mSS mS
    rw [e 75 (by omega) (by omega), e 76 (by omega) (by omega), e 77 (by omega) (by omega)]
    exact a4
theorem zfr_hi (hf : zfr l σ σ1) (hl : ∀ a, a ∈ l → a < 57) : ∀ a, 57 ≤ a → a ≤ 78 → σ1 a = σ a := fun a h1 _ => hf a (fun q => by have := hl a q; omega)
theorem zfr_sc (hf : zfr l σ σ1) (hl : ∀ a, a ∈ l → a < 100) : σ1 3000 = σ 3000 := hf 3000 (fun q => by have := hl 3000 q; omega)
theorem MJ_q (h : MJ σ n fam T R dy P z B S I) (hf : zfr l σ σ1) (hl : ∀ a, a ∈ l → a ∈ scM) (h8 : σ1 68 0 = 0) (h9 : σ1 69 0 = 0) : MJ σ1 n fam T R dy P z B S I := by
  obtain ⟨a1, a2, a3, a4, a5, a6, a7, c0, a8⟩ := h
  have e : ∀ a, a ∉ scM → σ1 a = σ a := fun a ha => hf a (fun q => ha (hl a q))
  refine ⟨⟨a1.1, by rw [e 57 (by decide)]; exact a1.2.1, fun i hi => ⟨(a1.2.2 i hi).1, mH_same (a1.2.2 i hi).2 (by rw [e 58 (by decide)]) (by rw [e 59 (by decide)]) (by rw [e 60 (by decide)])⟩⟩, ?_, mP_fr a3 (by rw [e 57 (by decide)]) (e 61 (by decide)), ?_, mIm_fr a5 (by rw [e 57 (by decide)]) (by rw [e 57 (by decide)]) (e 74 (by decide)), h8, h9, c0, mTc_fr a8 (by rw [e 57 (by decide)]) (e 62 (by decide))⟩
  · unfold mTx
    rw [e 57 (by decide), e 62 (by decide), e 63 (by decide), e 64 (by decide)]
    exact a2
  · unfold mSS mS
    rw [e 75 (by decide), e 76 (by decide), e 77 (by decide)]
    exact a4
theorem XJ_lo (h : XJ σ n fam T R dy P z B S I) (hf : zfr l σ σ1) (hl : ∀ a, a ∈ l → 57 ≤ a) : XJ σ1 n fam T R dy P z B S I := XJ_q h hf (fun a ha => Or.inr (hl a ha))
end
