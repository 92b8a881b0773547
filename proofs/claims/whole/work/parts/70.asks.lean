/-! the calls that only ask: both sides answer alike -/
section
variable {g : zG} {σ : zI}
theorem L_says (hg : zGA g) (hJ : JJ σ) {a b c : Int32} {KX : Int32 → zI → Prop} (h : ∀ v σ1, σ1 3000 = σ 3000 → (∀ KM : Int32 → zI → Prop, (∀ σ2, JJ σ2 → σ2 3000 = σ 3000 → KM v σ2) → zCI mX8_says 60 [.ref 57, .int a, .int b, .int c] g σ1 KM) → KX v σ1) : zCI mX7_says 60 [.ref 0, .int a, .int b, .int c] g σ KX := by
  obtain ⟨n, fam, T, R, dy, P, z, B, S, I, hX, hM, hs, hi⟩ := hJ
  refine cx_says (d := 55) (E := (R, dy, P)) hg hX.2.1 hX.1 (fun σ1 hf1 => h _ σ1 (zfr_sc hf1 (by decide)) (fun KM hK => ?_))
  have M1 := MJ_same hM (zfr_hi hf1 (by decide))
  have X1 := XJ_q hX hf1 (by decide)
  refine cm_says (d := 55) (E := (R, dy, P)) hg M1.2.1 M1.1 (fun σ2 hf2  => hK σ2 ⟨n, fam, T, R, dy, P, z, B, S, I, XJ_lo X1 hf2 (by decide), MJ_q M1 hf2 (by decide) (by rw [hf2 68 (by decide)]; exact M1.2.2.2.2.2.1) (by rw [hf2 69 (by decide)]; exact M1.2.2.2.2.2.2.1), hs, hi⟩ ((zfr_sc hf2 (by decide)).trans (zfr_sc hf1 (by decide))))
theorem L_common (hg : zGA g) (hJ : JJ σ) {a b : Int32} {KX : Int32 → zI → Prop} (h : ∀ v σ1, σ1 3000 = σ 3000 → (∀ KM : Int32 → zI → Prop, (∀ σ2, JJ σ2 → σ2 3000 = σ 3000 → KM v σ2) → zCI mX8_common 60 [.ref 57, .int a, .int b] g σ1 KM) → KX v σ1) : zCI mX7_common 60 [.ref 0, .int a, .int b] g σ KX := by
  obtain ⟨n, fam, T, R, dy, P, z, B, S, I, hX, hM, hs, hi⟩ := hJ
  refine cx_common (d := 56) hg hX.1 (h _ σ rfl (fun KM hK => ?_))
  have M1 := hM
  have X1 := hX
  exact cm_common (d := 54) hg M1.1 (hK _ ⟨n, fam, T, R, dy, P, z, B, S, I, X1, M1, hs, hi⟩ rfl)
theorem L_pays (hg : zGA g) (hJ : JJ σ) {a b c d : Int32} {KX : Int32 → zI → Prop} (h : ∀ v σ1, σ1 3000 = σ 3000 → (∀ KM : Int32 → zI → Prop, (∀ σ2, JJ σ2 → σ2 3000 = σ 3000 → KM v σ2) → zCI mX8_pays 60 [.ref 57, .int a, .int b, .int c, .int d] g σ1 KM) → KX v σ1) : zCI mX7_pays 60 [.ref 0, .int a, .int b, .int c, .int d] g σ KX := by
  obtain ⟨n, fam, T, R, dy, P, z, B, S, I, hX, hM, hs, hi⟩ := hJ
  refine cx_pays (d := 53) (E := (R, dy, P)) hg hX.2.1 hX.1 (fun σ1 hf1 => h _ σ1 (zfr_sc hf1 (by decide)) (fun KM hK => ?_))
  have M1 := MJ_same hM (zfr_hi hf1 (by decide))
  have X1 := XJ_q hX hf1 (by decide)
  refine cm_pays (d := 53) (E := (R, dy, P)) hg M1.2.1 M1.1 M1.2.2.2.2.2.1 M1.2.2.2.2.2.2.1 (fun σ2 hf2 h8 h9 => hK σ2 ⟨n, fam, T, R, dy, P, z, B, S, I, XJ_lo X1 hf2 (by decide), MJ_q M1 hf2 (by decide) h8 h9, hs, hi⟩ ((zfr_sc hf2 (by decide)).trans (zfr_sc hf1 (by decide))))
theorem L_barred (hg : zGA g) (hJ : JJ σ) {a b c : Int32} {KX : Int32 → zI → Prop} (h : ∀ v σ1, σ1 3000 = σ 3000 → (∀ KM : Int32 → zI → Prop, (∀ σ2, JJ σ2 → σ2 3000 = σ 3000 → KM v σ2) → zCI mX8_barred 60 [.ref 57, .int a, .int b, .int c] g σ1 KM) → KX v σ1) : zCI mX7_barred 60 [.ref 0, .int a, .int b, .int c] g σ KX := by
  obtain ⟨n, fam, T, R, dy, P, z, B, S, I, hX, hM, hs, hi⟩ := hJ
  refine cx_barred (d := 54) (E := (R, dy, P)) hg hX.2.1 hX.1 (fun σ1 hf1 => h _ σ1 (zfr_sc hf1 (by decide)) (fun KM hK => ?_))
  have M1 := MJ_same hM (zfr_hi hf1 (by decide))
  have X1 := XJ_q hX hf1 (by decide)
  refine cm_barred (d := 53) (E := (R, dy, P)) hg M1.2.1 M1.1 M1.2.2.2.2.2.1 M1.2.2.2.2.2.2.1 (fun σ2 hf2 h8 h9 => hK σ2 ⟨n, fam, T, R, dy, P, z, B, S, I, XJ_lo X1 hf2 (by decide), MJ_q M1 hf2 (by decide) h8 h9, hs, hi⟩ ((zfr_sc hf2 (by decide)).trans (zfr_sc hf1 (by decide))))
theorem L_silent (hg : zGA g) (hJ : JJ σ) {a : Int32} {KX : Int32 → zI → Prop} (h : ∀ v σ1, σ1 3000 = σ 3000 → (∀ KM : Int32 → zI → Prop, (∀ σ2, JJ σ2 → σ2 3000 = σ 3000 → KM v σ2) → zCI mX8_silent 60 [.ref 57, .int a] g σ1 KM) → KX v σ1) : zCI mX7_silent 60 [.ref 0, .int a] g σ KX := by
  obtain ⟨n, fam, T, R, dy, P, z, B, S, I, hX, hM, hs, hi⟩ := hJ
  refine cx_silent (d := 54) (E := (R, dy, P)) hg hX.1 (fun σ1 hf1 => h _ σ1 (zfr_sc hf1 (by decide)) (fun KM hK => ?_))
  have M1 := MJ_same hM (zfr_hi hf1 (by decide))
  have X1 := XJ_q hX hf1 (by decide)
  refine cm_silent (d := 54) (E := (R, dy, P)) hg M1.2.1 M1.1 M1.2.2.2.2.2.1 M1.2.2.2.2.2.2.1 (fun σ2 hf2 h8 h9 => hK σ2 ⟨n, fam, T, R, dy, P, z, B, S, I, XJ_lo X1 hf2 (by decide), MJ_q M1 hf2 (by decide) h8 h9, hs, hi⟩ ((zfr_sc hf2 (by decide)).trans (zfr_sc hf1 (by decide))))
theorem L_middle (hg : zGA g) (hJ : JJ σ) {a b : Int32} {KX : Int32 → zI → Prop} (h : ∀ v σ1, σ1 3000 = σ 3000 → (∀ KM : Int32 → zI → Prop, (∀ σ2, JJ σ2 → σ2 3000 = σ 3000 → KM v σ2) → zCI mX8_middle 60 [.ref 57, .int a, .int b] g σ1 KM) → KX v σ1) : zCI mX7_middle 60 [.ref 0, .int a, .int b] g σ KX := by
  obtain ⟨n, fam, T, R, dy, P, z, B, S, I, hX, hM, hs, hi⟩ := hJ
  refine cx_middle (d := 53) (E := (R, dy, P)) hg hX.2.1 hX.1 (fun σ1 hf1 => h _ σ1 (zfr_sc hf1 (by decide)) (fun KM hK => ?_))
  have M1 := MJ_same hM (zfr_hi hf1 (by decide))
  have X1 := XJ_q hX hf1 (by decide)
  refine cm_middle (d := 53) (E := (R, dy, P)) hg M1.2.1 M1.1 M1.2.2.2.2.2.1 M1.2.2.2.2.2.2.1 (fun σ2 hf2 h8 h9 => hK σ2 ⟨n, fam, T, R, dy, P, z, B, S, I, XJ_lo X1 hf2 (by decide), MJ_q M1 hf2 (by decide) h8 h9, hs, hi⟩ ((zfr_sc hf2 (by decide)).trans (zfr_sc hf1 (by decide))))
theorem L_leave (hg : zGA g) (hJ : JJ σ) {a b : Int32} {KX : Int32 → zI → Prop} (h : ∀ v σ1, σ1 3000 = σ 3000 → (∀ KM : Int32 → zI → Prop, (∀ σ2, JJ σ2 → σ2 3000 = σ 3000 → KM v σ2) → zCI mX8_leave 60 [.ref 57, .int a, .int b] g σ1 KM) → KX v σ1) : zCI mX7_leave 60 [.ref 0, .int a, .int b] g σ KX := by
  obtain ⟨n, fam, T, R, dy, P, z, B, S, I, hX, hM, hs, hi⟩ := hJ
  refine cx_leave (d := 53) (E := (R, dy, P)) hg hX.2.1 hX.1 (fun σ1 hf1 => h _ σ1 (zfr_sc hf1 (by decide)) (fun KM hK => ?_))
  have M1 := MJ_same hM (zfr_hi hf1 (by decide))
  have X1 := XJ_q hX hf1 (by decide)
  refine cm_leave (d := 53) (E := (R, dy, P)) hg M1.2.1 M1.1 M1.2.2.2.2.2.1 M1.2.2.2.2.2.2.1 (fun σ2 hf2 h8 h9 => hK σ2 ⟨n, fam, T, R, dy, P, z, B, S, I, XJ_lo X1 hf2 (by decide), MJ_q M1 hf2 (by decide) h8 h9, hs, hi⟩ ((zfr_sc hf2 (by decide)).trans (zfr_sc hf1 (by decide))))
theorem L_buy (hg : zGA g) (hJ : JJ σ) {a b c : Int32} {KX : Int32 → zI → Prop} (h : ∀ v σ1, σ1 3000 = σ 3000 → (∀ KM : Int32 → zI → Prop, (∀ σ2, JJ σ2 → σ2 3000 = σ 3000 → KM v σ2) → zCI mX8_buy 60 [.ref 57, .int a, .int b, .int c] g σ1 KM) → KX v σ1) : zCI mX7_buy 60 [.ref 0, .int a, .int b, .int c] g σ KX := by
  obtain ⟨n, fam, T, R, dy, P, z, B, S, I, hX, hM, hs, hi⟩ := hJ
  refine cx_buy (d := 54) (E := (R, dy, P)) hg hX.2.1 hX.1 (fun σ1 hf1 => h _ σ1 (zfr_sc hf1 (by decide)) (fun KM hK => ?_))
  have M1 := MJ_same hM (zfr_hi hf1 (by decide))
  have X1 := XJ_q hX hf1 (by decide)
  refine cm_buy (d := 53) (E := (R, dy, P)) hg M1.2.1 M1.1 M1.2.2.2.2.2.1 M1.2.2.2.2.2.2.1 (fun σ2 hf2 h8 h9 => hK σ2 ⟨n, fam, T, R, dy, P, z, B, S, I, XJ_lo X1 hf2 (by decide), MJ_q M1 hf2 (by decide) h8 h9, hs, hi⟩ ((zfr_sc hf2 (by decide)).trans (zfr_sc hf1 (by decide))))
theorem L_pawn (hg : zGA g) (hJ : JJ σ) {a b c : Int32} {KX : Int32 → zI → Prop} (h : ∀ v σ1, σ1 3000 = σ 3000 → (∀ KM : Int32 → zI → Prop, (∀ σ2, JJ σ2 → σ2 3000 = σ 3000 → KM v σ2) → zCI mX8_pawn 60 [.ref 57, .int a, .int b, .int c] g σ1 KM) → KX v σ1) : zCI mX7_pawn 60 [.ref 0, .int a, .int b, .int c] g σ KX := by
  obtain ⟨n, fam, T, R, dy, P, z, B, S, I, hX, hM, hs, hi⟩ := hJ
  refine cx_pawn (d := 54) (E := (R, dy, P)) hg hX.1 (fun σ1 hf1 => h _ σ1 (zfr_sc hf1 (by decide)) (fun KM hK => ?_))
  have M1 := MJ_same hM (zfr_hi hf1 (by decide))
  have X1 := XJ_q hX hf1 (by decide)
  refine cm_pawn (d := 53) (E := (R, dy, P)) hg M1.2.1 M1.1 M1.2.2.2.2.2.1 M1.2.2.2.2.2.2.1 (fun σ2 hf2 h8 h9 => hK σ2 ⟨n, fam, T, R, dy, P, z, B, S, I, XJ_lo X1 hf2 (by decide), MJ_q M1 hf2 (by decide) h8 h9, hs, hi⟩ ((zfr_sc hf2 (by decide)).trans (zfr_sc hf1 (by decide))))
theorem L_rows (hg : zGA g) (hJ : JJ σ) {a b c d : Int32} {KX : Int32 → zI → Prop} (h : ∀ v σ1, σ1 3000 = σ 3000 → (∀ KM : Int32 → zI → Prop, (∀ σ2, JJ σ2 → σ2 3000 = σ 3000 → KM v σ2) → zCI mX8_rows 60 [.ref 57, .int a, .int b, .int c, .int d] g σ1 KM) → KX v σ1) : zCI mX7_rows 60 [.ref 0, .int a, .int b, .int c, .int d] g σ KX := by
  obtain ⟨n, fam, T, R, dy, P, z, B, S, I, hX, hM, hs, hi⟩ := hJ
  refine cx_rows (d := 52) (E := (R, dy, P)) hg hX.2.1 hX.1 hX.2.2.2.1 (fun σ1 hf1 => h _ σ1 (zfr_sc hf1 (by decide)) (fun KM hK => ?_))
  have M1 := MJ_same hM (zfr_hi hf1 (by decide))
  have X1 := XJ_q hX hf1 (by decide)
  refine cm_rows (d := 51) (E := (R, dy, P)) hg M1.2.1 M1.1 M1.2.2.2.1 hs M1.2.2.2.2.2.1 M1.2.2.2.2.2.2.1 (fun σ2 hf2 h8 h9 => hK σ2 ⟨n, fam, T, R, dy, P, z, B, S, I, XJ_lo X1 hf2 (by decide), MJ_q M1 hf2 (by decide) h8 h9, hs, hi⟩ ((zfr_sc hf2 (by decide)).trans (zfr_sc hf1 (by decide))))
theorem L_drawn (hg : zGA g) (hJ : JJ σ) {a : Int32} {KX : Int32 → zI → Prop} (h : ∀ v σ1, σ1 3000 = σ 3000 → (∀ KM : Int32 → zI → Prop, (∀ σ2, JJ σ2 → σ2 3000 = σ 3000 → KM v σ2) → zCI mX8_drawn 60 [.ref 57, .int a] g σ1 KM) → KX v σ1) : zCI mX7_drawn 60 [.ref 0, .int a] g σ KX := by
  obtain ⟨n, fam, T, R, dy, P, z, B, S, I, hX, hM, hs, hi⟩ := hJ
  refine cx_drawn (d := 53) (E := (R, dy, P)) hg hX.1 (fun σ1 hf1 => h _ σ1 (zfr_sc hf1 (by decide)) (fun KM hK => ?_))
  have M1 := MJ_same hM (zfr_hi hf1 (by decide))
  have X1 := XJ_q hX hf1 (by decide)
  refine cm_drawn (d := 52) (E := (R, dy, P)) hg M1.2.1 M1.1 M1.2.2.2.2.2.1 M1.2.2.2.2.2.2.1 (fun σ2 hf2 h8 h9 => hK σ2 ⟨n, fam, T, R, dy, P, z, B, S, I, XJ_lo X1 hf2 (by decide), MJ_q M1 hf2 (by decide) h8 h9, hs, hi⟩ ((zfr_sc hf2 (by decide)).trans (zfr_sc hf1 (by decide))))
theorem L_chance (hg : zGA g) (hJ : JJ σ) {a b c : Int32} {KX : Int64 → zI → Prop} (h : ∀ v σ1, σ1 3000 = σ 3000 → (∀ KM : Int64 → zI → Prop, (∀ σ2, JJ σ2 → σ2 3000 = σ 3000 → KM v σ2) → zCL mX8_chance 60 [.ref 57, .int a, .int b, .int c] g σ1 KM) → KX v σ1) : zCL mX7_chance 60 [.ref 0, .int a, .int b, .int c] g σ KX := by
  obtain ⟨n, fam, T, R, dy, P, z, B, S, I, hX, hM, hs, hi⟩ := hJ
  refine cx_chance (d := 53) (E := (R, dy, P)) hg hX.1 (fun σ1 hf1 => h _ σ1 (zfr_sc hf1 (by decide)) (fun KM hK => ?_))
  have M1 := MJ_same hM (zfr_hi hf1 (by decide))
  have X1 := XJ_q hX hf1 (by decide)
  refine cm_chance (d := 52) (E := (R, dy, P)) hg M1.2.1 M1.1 M1.2.2.2.2.2.1 M1.2.2.2.2.2.2.1 (fun σ2 hf2 h8 h9 => hK σ2 ⟨n, fam, T, R, dy, P, z, B, S, I, XJ_lo X1 hf2 (by decide), MJ_q M1 hf2 (by decide) h8 h9, hs, hi⟩ ((zfr_sc hf2 (by decide)).trans (zfr_sc hf1 (by decide))))
theorem L_told (hg : zGA g) (hJ : JJ σ) {a b : Int32} {KX : Int32 → zI → Prop} (h : ∀ v σ1, σ1 3000 = σ 3000 → (∀ KM : Int32 → zI → Prop, (∀ σ2, JJ σ2 → σ2 3000 = σ 3000 → KM v σ2) → zCI mX8_told 60 [.ref 57, .int a, .int b] g σ1 KM) → KX v σ1) : zCI mX7_told 60 [.ref 0, .int a, .int b] g σ KX := by
  obtain ⟨n, fam, T, R, dy, P, z, B, S, I, hX, hM, hs, hi⟩ := hJ
  refine cx_told (d := 56) hg hX.1 hX.2.1.2.2.2.1 (h _ σ rfl (fun KM hK => ?_))
  have M1 := hM
  have X1 := hX
  exact cm_told (d := 53) hg M1.1 M1.2.1.2.2.2.1 (hK _ ⟨n, fam, T, R, dy, P, z, B, S, I, X1, M1, hs, hi⟩ rfl)
theorem L_count (hg : zGA g) (hJ : JJ σ) {a : Int32} {KX : Int32 → zI → Prop} (h : ∀ v σ1, σ1 3000 = σ 3000 → (∀ KM : Int32 → zI → Prop, (∀ σ2, JJ σ2 → σ2 3000 = σ 3000 → KM v σ2) → zCI mX8_count 60 [.ref 57, .int a] g σ1 KM) → KX v σ1) : zCI mX7_count 60 [.ref 0, .int a] g σ KX := by
  obtain ⟨n, fam, T, R, dy, P, z, B, S, I, hX, hM, hs, hi⟩ := hJ
  refine cx_count (d := 58) hg hX.1 hX.2.1.2.2.2.2.2.1 hX.2.1.2.2.2.2.1 hX.2.2.1.2.1 (h _ σ rfl (fun KM hK => ?_))
  have M1 := hM
  have X1 := hX
  exact cm_count (d := 59) hg M1.1 M1.2.1.2.2.2.2.2.1 M1.2.1.2.2.2.2.1 M1.2.2.1.2.1 (hK _ ⟨n, fam, T, R, dy, P, z, B, S, I, X1, M1, hs, hi⟩ rfl)
theorem L_taken (hg : zGA g) (hJ : JJ σ) {a b : Int32} {KX : Int32 → zI → Prop} (h : ∀ v σ1, σ1 3000 = σ 3000 → (∀ KM : Int32 → zI → Prop, (∀ σ2, JJ σ2 → σ2 3000 = σ 3000 → KM v σ2) → zCI mX8_taken 60 [.ref 57, .int a, .int b] g σ1 KM) → KX v σ1) : zCI mX7_taken 60 [.ref 0, .int a, .int b] g σ KX := by
  obtain ⟨n, fam, T, R, dy, P, z, B, S, I, hX, hM, hs, hi⟩ := hJ
  refine cx_taken (d := 58) hg hX.1 (h _ σ rfl (fun KM hK => ?_))
  have M1 := hM
  have X1 := hX
  exact cm_taken (d := 58) hg M1.1 (hK _ ⟨n, fam, T, R, dy, P, z, B, S, I, X1, M1, hs, hi⟩ rfl)
end
