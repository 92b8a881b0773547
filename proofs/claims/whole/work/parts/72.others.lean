/-! the other calls that change something -/
section
variable {g : zG} {σ : zI}
theorem L_heir (hg : zGA g) (hJ : JJ σ) {a b : Int32} {KX : Int32 → zI → Prop} (h : ∀ v σ1, σ1 3000 = σ 3000 → (∀ KM : Int32 → zI → Prop, (∀ σ2, JJ σ2 → σ2 3000 = σ 3000 → KM v σ2) → zCI mX8_heir 60 [.ref 57, .int a, .int b] g σ1 KM) → KX v σ1) : zCI mX7_heir 60 [.ref 0, .int a, .int b] g σ KX := by
  obtain ⟨n, fam, T, R, dy, P, z, B, S, I, hX, hM, hs, hi⟩ := hJ
  have n6 := hX.1.1
  refine cx_heir (d := 60) hg hX.1 (fun q => h _ σ rfl (fun KM hK => cm_heir (d := 59) hg hM.1 (fun _ => hK σ ⟨n, fam, T, R, dy, P, z, B, S, I, hX, hM, hs, hi⟩ rfl) (fun q2 => absurd q2 q) (fun u v hu hv e1 e2 => absurd (by rw [e1, e2, nI_toInt' (by omega), nI_toInt' (by omega)]; omega) q))) (fun q q6 => h _ σ rfl (fun KM hK => cm_heir (d := 59) hg hM.1 (fun q2 => absurd q q2) (fun _ _ => hK σ ⟨n, fam, T, R, dy, P, z, B, S, I, hX, hM, hs, hi⟩ rfl) (fun u v hu hv e1 e2 hn => by omega))) (fun u v hu hv e1 e2 hn σ1 hf hF => ?_)
  have hl : ∀ x, x ∈ [0, 43 + n] → x = 0 ∨ (43 ≤ x ∧ x < 49) := by intro x hx; simp at hx; omega
  have X1 := XJ_fam hX hF hf hl
  have M1 := MJ_same hM (zfr_hi hf (by intro x hx; simp at hx; omega))
  have s1 : σ1 3000 = σ 3000 := zfr_sc hf (by intro x hx; simp at hx; omega)
  have rng : 0 ≤ a.toInt ∧ a.toInt ≤ 5 ∧ 0 ≤ b.toInt ∧ b.toInt ≤ 9 := by rw [e1, e2, nI_toInt' (by omega), nI_toInt' (by omega)]; omega
  refine h _ σ1 s1 (fun KM hK => cm_heir (d := 59) hg M1.1 (fun q => absurd rng q) (fun _ q => by omega) (fun u2 v2 hu2 hv2 e3 e4 hn2 σ2 hf2 h57 hF2 => ?_))
  have eu : u = u2 := (nI_eq (by omega) (by omega)).mp (e1.symm.trans e3)
  have ev : v = v2 := (nI_eq (by omega) (by omega)).mp (e2.symm.trans e4)
  subst eu
  subst ev
  exact hK σ2 ⟨n + 1, _, T, R, dy, P, z, B, S, I, XJ_lo X1 hf2 (by decide), MJ_fam M1 hF2 hf2 (by decide) h57, hs, okI_up hi (by omega) (Nat.le_refl _)⟩ ((zfr_sc hf2 (by decide)).trans s1)
theorem L_give (hg : zGA g) (hJ : JJ σ) {a b c : Int32} {KX : Int32 → zI → Prop} (h : ∀ v σ1, σ1 3000 = σ 3000 → (∀ KM : Int32 → zI → Prop, (∀ σ2, JJ σ2 → σ2 3000 = σ 3000 → KM v σ2) → zCI mX8_give 60 [.ref 57, .int a, .int b, .int c] g σ1 KM) → KX v σ1) : zCI mX7_give 60 [.ref 0, .int a, .int b, .int c] g σ KX := by
  obtain ⟨n, fam, T, R, dy, P, z, B, S, I, hX, hM, hs, hi⟩ := hJ
  have n6 := hX.1.1
  refine cx_give (d := 58) hg hX.1 (fun e => h _ σ rfl (fun KM hK => cm_give (d := 57) hg hM.1 (fun _ => hK σ ⟨n, fam, T, R, dy, P, z, B, S, I, hX, hM, hs, hi⟩ rfl) (fun e2 => by rw [e] at e2; cases e2) (fun i j m e2 => by rw [e] at e2; cases e2))) (fun e => h _ σ rfl (fun KM hK => cm_give (d := 57) hg hM.1 (fun e2 => by rw [e] at e2; cases e2) (fun _ => hK σ ⟨n, fam, T, R, dy, P, z, B, S, I, hX, hM, hs, hi⟩ rfl) (fun i j m e2 => by rw [e] at e2; cases e2))) (fun i j m e hin hjn hij σ1 hf hF => ?_)
  have X1 := XJ_fam hX hF hf (by intro x hx; simp at hx; omega)
  have M1 := MJ_same hM (zfr_hi hf (by intro x hx; simp at hx; omega))
  have s1 : σ1 3000 = σ 3000 := zfr_sc hf (by intro x hx; simp at hx; omega)
  refine h _ σ1 s1 (fun KM hK => cm_give (d := 57) hg M1.1 (fun e2 => by rw [e] at e2; cases e2) (fun e2 => by rw [e] at e2; cases e2) (fun i2 j2 m2 e2 _ _ _ σ2 hf2 hF2 => ?_))
  rw [e] at e2
  cases e2
  exact hK σ2 ⟨n, _, T, R, dy, P, z, B, S, I, XJ_lo X1 hf2 (by decide), MJ_fam M1 hF2 hf2 (by decide) (fun j _ => by rw [hf2 57 (by decide)]), hs, hi⟩ ((zfr_sc hf2 (by decide)).trans s1)
theorem L_feed (hg : zGA g) (hJ : JJ σ) {a : Int32} {KX : Int32 → zI → Prop} (h : ∀ v σ1, σ1 3000 = σ 3000 → (∀ KM : Int32 → zI → Prop, (∀ σ2, JJ σ2 → σ2 3000 = σ 3000 → KM v σ2) → zCI mX8_feed 60 [.ref 57, .int a] g σ1 KM) → KX v σ1) : zCI mX7_feed 60 [.ref 0, .int a] g σ KX := by
  obtain ⟨n, fam, T, R, dy, P, z, B, S, I, hX, hM, hs, hi⟩ := hJ
  have n6 := hX.1.1
  refine cx_feed (d := 59) hg hX.2.2.1 (fun q => h _ σ rfl (fun KM hK => cm_feed (d := 59) hg hM.2.2.1 (fun _ => hK σ ⟨n, fam, T, R, dy, P, z, B, S, I, hX, hM, hs, hi⟩ rfl) (fun q2 => absurd q2 q) (fun b hb e => absurd (by rw [e, nI_toInt' (by omega)]; omega) q))) (fun q q6 => h _ σ rfl (fun KM hK => cm_feed (d := 59) hg hM.2.2.1 (fun q2 => absurd q q2) (fun _ _ => hK σ ⟨n, fam, T, R, dy, P, z, B, S, I, hX, hM, hs, hi⟩ rfl) (fun b hb e hz => by omega))) (fun b hb e hz σ1 hf h4 hP => ?_)
  have X1 : XJ σ1 n fam T R dy P (z + 1) (upB B z b) S I := by
    refine XJ_tx hX ?_ hP hf (by decide)
    unfold xTx
    have h3 : σ1 3 = σ 3 := hf 3 (by decide)
    obtain ⟨p0, p1, p2, p3, p4, p5, p6⟩ := hX.2.1
    refine ⟨p0, p1, p2, by rw [h3]; exact p3, by rw [h3]; exact p4, by rw [h3]; exact p5, fun t ht q hq => ?_⟩
    obtain ⟨a1, s, a2, a3, a4, a5⟩ := p6 t ht q hq
    have f1 := hf (14 + t) (by simp; omega)
    have f2 := hf (7 + t) (by simp; omega)
    exact ⟨a1, s, by rw [f1]; exact a2, a3, fun i c hc => by rw [f2]; exact a4 i c hc, by rw [f2]; exact a5⟩
  have M1 := MJ_same hM (zfr_hi hf (by decide))
  have s1 : σ1 3000 = σ 3000 := zfr_sc hf (by decide)
  have rng : 0 ≤ a.toInt ∧ a.toInt ≤ 255 := by rw [e, nI_toInt' (by omega)]; omega
  refine h _ σ1 s1 (fun KM hK => cm_feed (d := 59) hg M1.2.2.1 (fun q => absurd rng q) (fun _ q => by omega) (fun b2 hb2 e2 hz2 σ2 hf2 h57 hP2 => ?_))
  have eb : b = b2 := (nI_eq (by omega) (by omega)).mp (e.symm.trans e2)
  subst eb
  obtain ⟨c0, hc0⟩ := M1.2.2.2.2.2.2.2
  refine hK σ2 ⟨n, fam, T, R, dy, P, z + 1, _, S, I, XJ_lo X1 hf2 (by decide), MJ_tx (c0 := c0) M1 ?_ hP2 (mTc_fr hc0 (h57 12 (by omega)) (hf2 62 (by decide))) hf2 (by decide) (h57 1 (by omega)) (h57 32 (by omega)) (h57 33 (by omega)), hs, hi⟩ ((zfr_sc hf2 (by decide)).trans s1)
  unfold mTx
  rw [h57 0 (by omega), h57 5 (by omega), h57 8 (by omega), hf2 62 (by decide), hf2 63 (by decide), hf2 64 (by decide)]
  exact M1.2.1
theorem L_text (hg : zGA g) (hJ : JJ σ) {KX : Int32 → zI → Prop} (h : ∀ v σ1, σ1 3000 = σ 3000 → (∀ KM : Int32 → zI → Prop, (∀ σ2, JJ σ2 → σ2 3000 = σ 3000 → KM v σ2) → zCI mX8_text 60 [.ref 57] g σ1 KM) → KX v σ1) : zCI mX7_text 60 [.ref 0] g σ KX := by
  obtain ⟨n, fam, T, R, dy, P, z, B, S, I, hX, hM, hs, hi⟩ := hJ
  have n6 := hX.1.1
  obtain ⟨c0, hc0⟩ := hM.2.2.2.2.2.2.2
  refine cx_text (d := 1) hg hX.2.1 hX.2.2.1 (fun q => h _ σ rfl (fun KM hK => cm_text (d := 55) (c0 := c0) hg hM.2.1 hM.2.2.1 hc0 (fun _ => hK σ ⟨n, fam, T, R, dy, P, z, B, S, I, hX, hM, hs, hi⟩ rfl) (fun a b e q2 => by omega) (fun p q2 => by omega))) (fun a b e hT he σ1 hf hT1 hP1 => ?_) (fun p hT he hp σ1 hf hT1 hP1 => ?_)
  · have X1 := XJ_tx hX hT1 hP1 hf (by intro x hx; simp at hx; omega)
    have M1 := MJ_same hM (zfr_hi hf (by intro x hx; simp at hx; omega))
    have s1 : σ1 3000 = σ 3000 := zfr_sc hf (by intro x hx; simp at hx; omega)
    obtain ⟨c1, hc1⟩ := M1.2.2.2.2.2.2.2
    refine h _ σ1 s1 (fun KM hK => cm_text (d := 55) (c0 := c1) hg M1.2.1 M1.2.2.1 hc1 (fun q => by omega) (fun a2 b2 e2 _ he2 σ2 c2 hf2 h57 hT2 hP2 hc2 => ?_) (fun p q2 he2 => by rw [he] at he2; cases he2))
    rw [he] at he2
    cases he2
    exact hK σ2 ⟨n, fam, T + 1, R, dy, _, 0, B, S, I, XJ_lo X1 hf2 (by decide), MJ_tx M1 hT2 hP2 hc2 hf2 (by decide) (h57 1 (by decide)) (h57 32 (by decide)) (h57 33 (by decide)), hs, okI_up hi (Nat.le_refl _) (by omega)⟩ ((zfr_sc hf2 (by decide)).trans s1)
  · have X1 := XJ_tx hX hT1 hP1 hf (by intro x hx; simp at hx; omega)
    have M1 := MJ_same hM (zfr_hi hf (by intro x hx; simp at hx; omega))
    have s1 : σ1 3000 = σ 3000 := zfr_sc hf (by intro x hx; simp at hx; omega)
    obtain ⟨c1, hc1⟩ := M1.2.2.2.2.2.2.2
    refine h _ σ1 s1 (fun KM hK => cm_text (d := 55) (c0 := c1) hg M1.2.1 M1.2.2.1 hc1 (fun q => by omega) (fun a2 b2 e2 _ he2 => by rw [he] at he2; cases he2) (fun p2 _ he2 _ σ2 hf2 h57 hT2 hP2 hc2 => ?_))
    rw [he] at he2
    cases he2
    exact hK σ2 ⟨n, fam, T, R, dy, P, 0, B, S, I, XJ_lo X1 hf2 (by decide), MJ_tx M1 hT2 hP2 hc2 hf2 (by decide) (h57 1 (by decide)) (h57 32 (by decide)) (h57 33 (by decide)), hs, hi⟩ ((zfr_sc hf2 (by decide)).trans s1)
theorem L_force (hg : zGA g) (hJ : JJ σ) {a : Int32} {KX : Int32 → zI → Prop} (h : ∀ v σ1, σ1 3000 = σ 3000 → (∀ KM : Int32 → zI → Prop, (∀ σ2, JJ σ2 → σ2 3000 = σ 3000 → KM v σ2) → zCI mX8_force 60 [.ref 57, .int a] g σ1 KM) → KX v σ1) : zCI mX7_force 60 [.ref 0, .int a] g σ KX := by
  obtain ⟨n, fam, T, R, dy, P, z, B, S, I, hX, hM, hs, hi⟩ := hJ
  have n6 := hX.1.1
  have T6 := hX.2.1.1
  refine cx_force (d := 60) hg T6 hX.2.1.2.2.2.2.2.1 (fun q => h _ σ rfl (fun KM hK => cm_force (d := 59) hg T6 hM.2.1.2.2.2.2.2.1 (fun _ => hK σ ⟨n, fam, T, R, dy, P, z, B, S, I, hX, hM, hs, hi⟩ rfl) (fun q2 => absurd q2 q))) (fun q => ?_)
  obtain ⟨t, ht, rfl⟩ := zNat (v := a) (n := 6) q.1 (by omega) (by omega)
  rw [nI_toInt' (by omega)] at q
  rw [hX.2.1.2.2.2.2.1]
  have f1 : zfr [3] σ (zsI σ 3 6 (nI t)) := zfr_I (by simp)
  have X1 := XJ_tx hX (xTx_rule hX.2.1 (show t < T by omega)) (xP_fr hX.2.2.1 f1 (by decide)) f1 (by decide)
  have M1 := MJ_same hM (zfr_hi f1 (by decide))
  refine h _ _ (zsI_ne (by decide)) (fun KM hK => cm_force (d := 59) hg T6 M1.2.1.2.2.2.2.2.1 (fun q2 => absurd (by rw [nI_toInt' (by omega)]; exact q) q2) (fun _ => ?_))
  rw [M1.2.1.2.2.2.2.1]
  generalize zsI σ 3 6 (nI t) = σ1 at *
  have f2 : zfr [57] σ1 (zsI σ1 57 5 (nI t)) := zfr_I (by simp)
  obtain ⟨c0, hc0⟩ := M1.2.2.2.2.2.2.2
  exact hK _ ⟨n, fam, T, t, dy, P, z, B, S, I, XJ_lo X1 f2 (by decide), MJ_tx (c0 := c0) M1 (mTx_rule M1.2.1 (show t < T by omega)) (mP_fr M1.2.2.1 (zsI_no (by omega)) (zsI_ne (by decide))) (mTc_fr hc0 (zsI_no (by omega)) (zsI_ne (by decide))) f2 (by decide) (zsI_no (by omega)) (zsI_no (by omega)) (zsI_no (by omega)), hs, hi⟩ ((zsI_ne (by decide)).trans (f1 3000 (by decide)))
theorem L_film (hg : zGA g) (hJ : JJ σ) {a b c d : Int32} {KX : Int32 → zI → Prop} (h : ∀ v σ1, σ1 3000 = σ 3000 → (∀ KM : Int32 → zI → Prop, (∀ σ2, JJ σ2 → σ2 3000 = σ 3000 → KM v σ2) → zCI mX8_film 60 [.ref 57, .int a, .int b, .int c, .int d] g σ1 KM) → KX v σ1) : zCI mX7_film 60 [.ref 0, .int a, .int b, .int c, .int d] g σ KX := by
  obtain ⟨n, fam, T, R, dy, P, z, B, S, I, hX, hM, hs, hi⟩ := hJ
  have n6 := hX.1.1
  refine cx_film (d := 54) (E := (R, dy, P)) hg hX.2.1 hX.1 hX.2.2.2.1 (fun e => h _ σ rfl (fun KM hK => cm_film (d := 54) (E := (R, dy, P)) hg hM.2.1 hM.1 hM.2.2.2.1 hM.2.2.2.2.2.1 hM.2.2.2.2.2.2.1 (fun _ => hK σ ⟨n, fam, T, R, dy, P, z, B, S, I, hX, hM, hs, hi⟩ rfl) (fun c i j k m e2 => by rw [e] at e2; cases e2))) (fun c i j k m e hc hin hjn hij hk hm hkm σ1 hf hS => ?_)
  have X1 := XJ_sh hX hS hf (by intro x hx; unfold scX; simp at hx ⊢; omega)
  have M1 := MJ_same hM (zfr_hi hf (by intro x hx; simp at hx; omega))
  have s1 : σ1 3000 = σ 3000 := zfr_sc hf (by intro x hx; simp at hx; omega)
  refine h _ σ1 s1 (fun KM hK => cm_film (d := 54) (E := (R, dy, P)) hg M1.2.1 M1.1 M1.2.2.2.1 M1.2.2.2.2.2.1 M1.2.2.2.2.2.2.1 (fun e2 => by rw [e] at e2; cases e2) (fun c2 i2 j2 k2 m2 e2 _ _ _ _ _ _ _ σ2 hf2 h8 h9 hS2 => ?_))
  rw [e] at e2
  cases e2
  exact hK σ2 ⟨n, fam, T, R, dy, P, z, B, _, I, XJ_lo X1 hf2 (by decide), MJ_sh M1 hS2 hf2 (by decide) h8 h9, sok_up hs (Or.inr (by decide)), hi⟩ ((zfr_sc hf2 (by decide)).trans s1)
theorem L_image (hg : zGA g) (hJ : JJ σ) {KX : Int32 → zI → Prop} (h : ∀ v σ1, σ1 3000 = σ 3000 → (∀ KM : Int32 → zI → Prop, (∀ σ2, JJ σ2 → σ2 3000 = σ 3000 → KM v σ2) → zCI mX8_image 60 [.ref 57] g σ1 KM) → KX v σ1) : zCI mX7_image 60 [.ref 0] g σ KX := by
  obtain ⟨n, fam, T, R, dy, P, z, B, S, I, hX, hM, hs, hi⟩ := hJ
  have n6 := hX.1.1
  refine cx_image (d := 60) hg hX.1 hX.2.1 (fun σ1 hf hI => ?_)
  have no : ∀ a, (a < 38 ∨ 40 < a) → a ∉ [38, 39, 40] := by intro a ha; simp; omega
  have X1 : XJ σ1 n fam T R dy P z B S (imgI n dy R fam) := ⟨xF_fr hX.1 hf (by decide) (fun i hi => no _ (by omega)), xTx_fr hX.2.1 hf (by decide) (by intro a ha h1 h2; simp at ha; omega), xP_fr hX.2.2.1 hf (by decide), xSS_fr hX.2.2.2.1 hf (by intro a ha; simp at ha; omega), hI⟩
  have M1 := MJ_same hM (zfr_hi hf (by decide))
  have s1 : σ1 3000 = σ 3000 := zfr_sc hf (by decide)
  refine h _ σ1 s1 (fun KM hK => cm_image (d := 60) hg M1.1 M1.2.1 (fun σ2 hf2 h57 hI2 => ?_))
  obtain ⟨b1, b2, b3, b4, b5, b6, b7, c0, b8⟩ := M1
  have e : ∀ a, a ≠ 57 → a ≠ 74 → σ2 a = σ1 a := fun a h1 h2 => hf2 a (by simp; omega)
  refine hK σ2 ⟨n, fam, T, R, dy, P, z, B, S, imgI n dy R fam, XJ_lo X1 hf2 (by decide), ⟨⟨b1.1, by rw [h57 1 (by omega) (by omega)]; exact b1.2.1, fun i hi => ⟨(b1.2.2 i hi).1, mH_same (b1.2.2 i hi).2 (by rw [e 58 (by omega) (by omega)]) (by rw [e 59 (by omega) (by omega)]) (by rw [e 60 (by omega) (by omega)])⟩⟩, ?_, mP_fr b3 (h57 6 (by omega) (by omega)) (e 61 (by omega) (by omega)), ?_, hI2, by rw [e 68 (by omega) (by omega)]; exact b6, by rw [e 69 (by omega) (by omega)]; exact b7, c0, mTc_fr b8 (h57 12 (by omega) (by omega)) (e 62 (by omega) (by omega))⟩, hs, ⟨Nat.le_refl _, hX.2.1.2.2.1, hX.2.1.2.1, fun i hi => ⟨(hX.1.2.2 i hi).2.2.2.2.2.2.2.1, (hX.1.2.2 i hi).2.2.2.2.2.2.2.2⟩⟩⟩ ((zfr_sc hf2 (by decide)).trans s1)
  · unfold mTx
    rw [h57 0 (by omega) (by omega), h57 5 (by omega) (by omega), h57 8 (by omega) (by omega), e 62 (by omega) (by omega), e 63 (by omega) (by omega), e 64 (by omega) (by omega)]
    exact b2
  · unfold mSS mS
    rw [e 75 (by omega) (by omega), e 76 (by omega) (by omega), e 77 (by omega) (by omega)]
    exact b4
theorem L_back (hg : zGA g) (hJ : JJ σ) {KX : Int32 → zI → Prop} (h : ∀ v σ1, σ1 3000 = σ 3000 → (∀ KM : Int32 → zI → Prop, (∀ σ2, JJ σ2 → σ2 3000 = σ 3000 → KM v σ2) → zCI mX8_back 60 [.ref 57] g σ1 KM) → KX v σ1) : zCI mX7_back 60 [.ref 0] g σ KX := by
  obtain ⟨n, fam, T, R, dy, P, z, B, S, I, hX, hM, hs, hi⟩ := hJ
  have n6 := hX.1.1
  refine cx_back (d := 60) hg hX.1 hX.2.1 hX.2.2.2.2 hi (fun e => h _ σ rfl (fun KM hK => cm_back (d := 60) hg hM.1 hM.2.1 hM.2.2.2.2.1 hi (fun _ => hK σ ⟨n, fam, T, R, dy, P, z, B, S, I, hX, hM, hs, hi⟩ rfl) (fun n0 y0 r0 mo e2 => by rw [e] at e2; cases e2))) (fun n0 y0 r0 mo e σ1 hf hF hT => ?_)
  have no : ∀ a, a ≠ 0 → a ≠ 3 → (a < 43 ∨ 48 < a) → a ∉ [0, 3, 43, 44, 45, 46, 47, 48] := by intro a h1 h2 h3; simp; omega
  have X1 : XJ σ1 n0 (bckF fam mo) T r0 y0 P z B S I := ⟨hF, hT, xP_fr hX.2.2.1 hf (by decide), xSS_fr hX.2.2.2.1 hf (by intro a ha; simp at ha; omega), xIm_fr hX.2.2.2.2 hf (by decide)⟩
  have M1 := MJ_same hM (zfr_hi hf (by decide))
  have s1 : σ1 3000 = σ 3000 := zfr_sc hf (by decide)
  refine h _ σ1 s1 (fun KM hK => cm_back (d := 60) hg M1.1 M1.2.1 M1.2.2.2.2.1 hi (fun e2 => by rw [e] at e2; cases e2) (fun n2 y2 r2 mo2 e2 σ2 hf2 h57 hF2 hT2 => ?_))
  rw [e] at e2
  cases e2
  obtain ⟨b1, b2, b3, b4, b5, b6, b7, c0, b8⟩ := M1
  have e9 : ∀ a, a ≠ 57 → a ≠ 59 → a ≠ 60 → σ2 a = σ1 a := fun a h1 h2 h3 => hf2 a (by simp; omega)
  refine hK σ2 ⟨n0, _, T, r0, y0, P, z, B, S, I, XJ_lo X1 hf2 (by decide), ⟨hF2, hT2, mP_fr b3 (h57 6 (by omega) (by omega) (by omega)) (e9 61 (by omega) (by omega) (by omega)), ?_, mIm_fr b5 (h57 32 (by omega) (by omega) (by omega)) (h57 33 (by omega) (by omega) (by omega)) (e9 74 (by omega) (by omega) (by omega)), by rw [e9 68 (by omega) (by omega) (by omega)]; exact b6, by rw [e9 69 (by omega) (by omega) (by omega)]; exact b7, c0, mTc_fr b8 (h57 12 (by omega) (by omega) (by omega)) (e9 62 (by omega) (by omega) (by omega))⟩, hs, ?_⟩ ((zfr_sc hf2 (by decide)).trans s1)
  · unfold mSS mS
    rw [e9 75 (by omega) (by omega) (by omega), e9 76 (by omega) (by omega) (by omega), e9 77 (by omega) (by omega) (by omega)]
    exact b4
  · rw [e] at hi ⊢
    obtain ⟨a1, a2, a3, a4⟩ := hi
    exact ⟨Nat.le_refl _, a2, a3, a4⟩
theorem L_sheet (hg : zGA g) (hJ : JJ σ) {a b c : Int32} {KX : Int32 → zI → Prop} (h : ∀ v σ1, σ1 3000 = σ 3000 → (∀ KM : Int32 → zI → Prop, (∀ σ2, JJ σ2 → σ2 3000 = σ 3000 → KM v σ2) → zCI mX8_sheet 60 [.ref 57, .int a, .int b, .int c] g σ1 KM) → KX v σ1) : zCI mX7_sheet 60 [.ref 0, .int a, .int b, .int c] g σ KX := by
  obtain ⟨n, fam, T, R, dy, P, z, B, S, I, hX, hM, hs, hi⟩ := hJ
  have n6 := hX.1.1
  refine cx_sheet (d := 59) hg (fun e => h _ σ rfl (fun KM hK => cm_sheet (d := 58) hg (fun _ => hK σ ⟨n, fam, T, R, dy, P, z, B, S, I, hX, hM, hs, hi⟩ rfl) (fun e2 => by rw [e] at e2; cases e2) (fun i sz e2 => by rw [e] at e2; cases e2))) (fun e => h _ σ rfl (fun KM hK => cm_sheet (d := 58) hg (fun e2 => by rw [e] at e2; cases e2) (fun _ => hK σ ⟨n, fam, T, R, dy, P, z, B, S, I, hX, hM, hs, hi⟩ rfl) (fun i sz e2 => by rw [e] at e2; cases e2))) (fun i sz e hi4 σ1 hf hS => ?_)
  have X1 := XJ_sh hX (xSS_up hX.2.2.2.1 hf (by intro x hx; simp at hx; omega) hS) hf (by intro x hx; simp at hx; omega)
  have M1 := MJ_same hM (zfr_hi hf (by intro x hx; simp at hx; omega))
  have s1 : σ1 3000 = σ 3000 := zfr_sc hf (by intro x hx; simp at hx; omega)
  have hso : b = -1 ∨ (0 ≤ b.toInt ∧ b.toInt ≤ 2) := by
    unfold dSh at e
    cases q : hA 4 a with
    | none => rw [q] at e; cases e
    | some j =>
      rw [q] at e
      have e : (if -1 ≤ b.toInt ∧ b.toInt ≤ 2 then (if b = -1 then some (some (j, 0)) else if 40 < c.toInt then none else if c.toInt < 0 then some none else some (some (j, c.toInt.toNat))) else none) = some (some (i, sz)) := e
      by_cases u : -1 ≤ b.toInt ∧ b.toInt ≤ 2
      · by_cases w : b = -1
        · exact Or.inl w
        · have : b.toInt ≠ -1 := fun y => w (Int32.toInt_inj.mp y)
          exact Or.inr ⟨by omega, u.2⟩
      · rw [if_neg u] at e; cases e
  refine h _ σ1 s1 (fun KM hK => cm_sheet (d := 58) hg (fun e2 => by rw [e] at e2; cases e2) (fun e2 => by rw [e] at e2; cases e2) (fun i2 sz2 e2 _ σ2 hf2 h7 h8 hS2 => ?_))
  rw [e] at e2
  cases e2
  exact hK σ2 ⟨n, fam, T, R, dy, P, z, B, _, I, XJ_lo X1 hf2 (by decide), MJ_sh M1 (mSS_up M1.2.2.2.1 h7 h8 hS2) hf2 (by decide) (by rw [hf2 68 (by decide)]; exact M1.2.2.2.2.2.1) (by rw [hf2 69 (by decide)]; exact M1.2.2.2.2.2.2.1), sok_up hs hso, hi⟩ ((zfr_sc hf2 (by decide)).trans s1)
theorem L_cell (hg : zGA g) (hJ : JJ σ) {a b c : Int32} {KX : Int32 → zI → Prop} (h : ∀ v σ1, σ1 3000 = σ 3000 → (∀ KM : Int32 → zI → Prop, (∀ σ2, JJ σ2 → σ2 3000 = σ 3000 → KM v σ2) → zCI mX8_cell 60 [.ref 57, .int a, .int b, .int c] g σ1 KM) → KX v σ1) : zCI mX7_cell 60 [.ref 0, .int a, .int b, .int c] g σ KX := by
  obtain ⟨n, fam, T, R, dy, P, z, B, S, I, hX, hM, hs, hi⟩ := hJ
  have n6 := hX.1.1
  refine cx_cell (d := 58) hg hX.2.2.2.1 (fun r e => h _ σ rfl (fun KM hK => cm_cell (d := 58) hg hM.2.2.2.1 hs (fun r2 e2 => by rw [e] at e2; cases e2; exact hK σ ⟨n, fam, T, R, dy, P, z, B, S, I, hX, hM, hs, hi⟩ rfl) (fun i k e2 => by rw [e] at e2; cases e2))) (fun i k e hi4 hk σ1 hf hS => ?_)
  have X1 := XJ_sh hX hS hf (by intro x hx; simp at hx; omega)
  have M1 := MJ_same hM (zfr_hi hf (by intro x hx; simp at hx; omega))
  have s1 : σ1 3000 = σ 3000 := zfr_sc hf (by intro x hx; simp at hx; omega)
  refine h _ σ1 s1 (fun KM hK => cm_cell (d := 58) hg M1.2.2.2.1 hs (fun r2 e2 => by rw [e] at e2; cases e2) (fun i2 k2 e2 _ _ σ2 hf2 hS2 => ?_))
  rw [e] at e2
  cases e2
  exact hK σ2 ⟨n, fam, T, R, dy, P, z, B, _, I, XJ_lo X1 hf2 (by decide), MJ_sh M1 hS2 hf2 (by decide) (by rw [hf2 68 (by decide)]; exact M1.2.2.2.2.2.1) (by rw [hf2 69 (by decide)]; exact M1.2.2.2.2.2.2.1), sok_sm hs hi4, hi⟩ ((zfr_sc hf2 (by decide)).trans s1)
theorem L_copy (hg : zGA g) (hJ : JJ σ) {a b c d e : Int32} {KX : Int32 → zI → Prop} (h : ∀ v σ1, σ1 3000 = σ 3000 → (∀ KM : Int32 → zI → Prop, (∀ σ2, JJ σ2 → σ2 3000 = σ 3000 → KM v σ2) → zCI mX8_copy 60 [.ref 57, .int a, .int b, .int c, .int d, .int e] g σ1 KM) → KX v σ1) : zCI mX7_copy 60 [.ref 0, .int a, .int b, .int c, .int d, .int e] g σ KX := by
  obtain ⟨n, fam, T, R, dy, P, z, B, S, I, hX, hM, hs, hi⟩ := hJ
  have n6 := hX.1.1
  refine cx_copy (d := 59) hg hX.2.2.2.1 (fun r e => h _ σ rfl (fun KM hK => cm_copy (d := 58) hg hM.2.2.2.1 hs (fun r2 e2 => by rw [e] at e2; cases e2; exact hK σ ⟨n, fam, T, R, dy, P, z, B, S, I, hX, hM, hs, hi⟩ rfl) (fun i k o u w e2 => by rw [e] at e2; cases e2))) (fun i k o u w e' hi4 ho4 hw σ1 hf hS => ?_)
  have X1 := XJ_sh hX hS hf (by intro x hx; simp at hx; omega)
  have M1 := MJ_same hM (zfr_hi hf (by intro x hx; simp at hx; omega))
  have s1 : σ1 3000 = σ 3000 := zfr_sc hf (by intro x hx; simp at hx; omega)
  refine h _ σ1 s1 (fun KM hK => cm_copy (d := 58) hg M1.2.2.2.1 hs (fun r2 e2 => by rw [e'] at e2; cases e2) (fun i2 k2 o2 u2 w2 e2 _ _ _ σ2 hf2 hS2 => ?_))
  rw [e'] at e2
  cases e2
  exact hK σ2 ⟨n, fam, T, R, dy, P, z, B, _, I, XJ_lo X1 hf2 (by decide), MJ_sh M1 hS2 hf2 (by decide) (by rw [hf2 68 (by decide)]; exact M1.2.2.2.2.2.1) (by rw [hf2 69 (by decide)]; exact M1.2.2.2.2.2.2.1), sok_sm hs ho4, hi⟩ ((zfr_sc hf2 (by decide)).trans s1)
theorem addH_ge (F : zFm) (k m : Int32) : F.1 ≤ (addH F k m).1.1 := by
  unfold addH
  split
  · exact Nat.le_succ _
  · exact Nat.le_refl _
theorem hsT_ge (C : Nat → Int32) (sz : Nat) : ∀ r f F c, F.1 ≤ (hsT C sz r f F c).2.1
  | 0, _, F, _ => Nat.le_refl _
  | r + 1, f, F, c => by
    unfold hsT
    split
    · exact Nat.le_trans (addH_ge _ _ _) (hsT_ge C sz r _ _ _)
    · exact Nat.le_refl _
theorem dHs_ge {S : Nat → zS} {F : zFm} {s so f n : Int32} : F.1 ≤ (dHs S F s so f n).2.1 := by
  cases e : hA 4 s with
  | none => rw [dHs_no e]; exact Nat.le_refl _
  | some a =>
    rw [dHs_eq e]
    split
    · split
      · exact Nat.le_refl _
      · split
        · exact hsT_ge _ _ _ _ _ _
        · exact Nat.le_refl _
    · exact Nat.le_refl _
theorem L_heirs (hg : zGA g) (hJ : JJ σ) {a b c d : Int32} {KX : Int32 → zI → Prop} (h : ∀ v σ1, σ1 3000 = σ 3000 → (∀ KM : Int32 → zI → Prop, (∀ σ2, JJ σ2 → σ2 3000 = σ 3000 → KM v σ2) → zCI mX8_heirs 60 [.ref 57, .int a, .int b, .int c, .int d] g σ1 KM) → KX v σ1) : zCI mX7_heirs 60 [.ref 0, .int a, .int b, .int c, .int d] g σ KX := by
  obtain ⟨n, fam, T, R, dy, P, z, B, S, I, hX, hM, hs, hi⟩ := hJ
  have n6 := hX.1.1
  refine cx_heirs (d := 58) hg hX.2.2.2.1 (F := (n, fam)) hX.1 (fun σ1 hf hF => ?_)
  have X1 := XJ_fam hX hF hf (by decide)
  have M1 := MJ_same hM (zfr_hi hf (by decide))
  have s1 : σ1 3000 = σ 3000 := zfr_sc hf (by decide)
  refine h _ σ1 s1 (fun KM hK => cm_heirs (d := 58) hg M1.2.2.2.1 hs (F := (n, fam)) M1.1 (fun σ2 hf2 h57 hF2 => ?_))
  exact hK σ2 ⟨_, _, T, R, dy, P, z, B, S, I, XJ_lo X1 hf2 (by decide), MJ_fam M1 hF2 hf2 (by decide) h57, hs, okI_up hi (dHs_ge (F := (n, fam))) (Nat.le_refl _)⟩ ((zfr_sc hf2 (by decide)).trans s1)
end
