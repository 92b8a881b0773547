/-! the law from its entry: what the tables and the Statement give of the start -/
def zTm (i : Nat) : Term := Term.string (zSR.getD i ("", 0, "", 0)).1 (zSR.getD i ("", 0, "", 0)).2.1
def zρ0 (adK adV : Nat → Nat) (b t : Nat) : Nat → Nat := fun a => if a = 3000 then b else if a = 4000 then t else if a < 2000 then adK (a - 1000) else adV (a - 2000)
theorem zρ0_K {adK adV : Nat → Nat} {b t i : Nat} (h : i < zNS) : zρ0 adK adV b t (1000 + i) = adK i := by
  have h : i < 14 := h
  unfold zρ0
  rw [if_neg (by omega), if_neg (by omega), if_pos (by omega), show 1000 + i - 1000 = i by omega]
theorem zρ0_V {adK adV : Nat → Nat} {b t i : Nat} (h : i < zNS) : zρ0 adK adV b t (2000 + i) = adV i := by
  have h : i < 14 := h
  unfold zρ0
  rw [if_neg (by omega), if_neg (by omega), if_neg (by omega), show 2000 + i - 2000 = i by omega]
def zFl : List Cond := flatC (Jvm.Cond.and given_1 narrow_1)
theorem fl_ex : ∀ i : Nat, i < zNS → Cond.exactly (zTm i) "java/lang/String" ∈ zFl := by decide +kernel
theorem fl_co : ∀ i : Nat, i < zNS → Cond.eq (.field (zTm i) "java/lang/String" "coder" "B") (.int 0) ∈ zFl := by decide +kernel
theorem fl_ar : ∀ i : Nat, i < zNS → Cond.arrayOf (.field (zTm i) "java/lang/String" "value" "[B") .byte ∈ zFl := by decide +kernel
theorem fl_le : ∀ i : Nat, i < zNS → Cond.eq (.length (.field (zTm i) "java/lang/String" "value" "[B")) (.int (Int32.ofNat (zlen.getD i 0))) ∈ zFl := by decide +kernel
theorem fl_el : ∀ i : Nat, i < zNS → ∀ j : Nat, j < zlen.getD i 0 → Cond.eq (.elem (.field (zTm i) "java/lang/String" "value" "[B") (.int (Int32.ofNat j))) (.int ((zbyt.getD i []).getD j 0)) ∈ zFl := by decide +kernel
theorem fl_n0 : ∀ j : Nat, j < 14 → 0 < j → Cond.not (Cond.eq (zTm 0) (zTm j)) ∈ zFl := by decide +kernel
theorem fl_n1 : ∀ j : Nat, j < 14 → 1 < j → Cond.not (Cond.eq (zTm 1) (zTm j)) ∈ zFl := by decide +kernel
theorem fl_n2 : ∀ j : Nat, j < 14 → 2 < j → Cond.not (Cond.eq (zTm 2) (zTm j)) ∈ zFl := by decide +kernel
theorem fl_n3 : ∀ j : Nat, j < 14 → 3 < j → Cond.not (Cond.eq (zTm 3) (zTm j)) ∈ zFl := by decide +kernel
theorem fl_n4 : ∀ j : Nat, j < 14 → 4 < j → Cond.not (Cond.eq (zTm 4) (zTm j)) ∈ zFl := by decide +kernel
theorem fl_n5 : ∀ j : Nat, j < 14 → 5 < j → Cond.not (Cond.eq (zTm 5) (zTm j)) ∈ zFl := by decide +kernel
theorem fl_n6 : ∀ j : Nat, j < 14 → 6 < j → Cond.not (Cond.eq (zTm 6) (zTm j)) ∈ zFl := by decide +kernel
theorem fl_n7 : ∀ j : Nat, j < 14 → 7 < j → Cond.not (Cond.eq (zTm 7) (zTm j)) ∈ zFl := by decide +kernel
theorem fl_n8 : ∀ j : Nat, j < 14 → 8 < j → Cond.not (Cond.eq (zTm 8) (zTm j)) ∈ zFl := by decide +kernel
theorem fl_n9 : ∀ j : Nat, j < 14 → 9 < j → Cond.not (Cond.eq (zTm 9) (zTm j)) ∈ zFl := by decide +kernel
theorem fl_n10 : ∀ j : Nat, j < 14 → 10 < j → Cond.not (Cond.eq (zTm 10) (zTm j)) ∈ zFl := by decide +kernel
theorem fl_n11 : ∀ j : Nat, j < 14 → 11 < j → Cond.not (Cond.eq (zTm 11) (zTm j)) ∈ zFl := by decide +kernel
theorem fl_n12 : ∀ j : Nat, j < 14 → 12 < j → Cond.not (Cond.eq (zTm 12) (zTm j)) ∈ zFl := by decide +kernel
theorem fl_lt : ∀ i : Nat, i < 14 → ∀ j : Nat, j < 14 → i < j → Cond.not (Cond.eq (zTm i) (zTm j)) ∈ zFl
  | 0, _ => fl_n0
  | 1, _ => fl_n1
  | 2, _ => fl_n2
  | 3, _ => fl_n3
  | 4, _ => fl_n4
  | 5, _ => fl_n5
  | 6, _ => fl_n6
  | 7, _ => fl_n7
  | 8, _ => fl_n8
  | 9, _ => fl_n9
  | 10, _ => fl_n10
  | 11, _ => fl_n11
  | 12, _ => fl_n12
  | i + 13, h => fun j hj hij => absurd hij (by omega)
theorem fl_ne (i : Nat) (hi : i < zNS) (j : Nat) (hj : j < zNS) (h : i ≠ j) : Cond.not (Cond.eq (zTm i) (zTm j)) ∈ zFl ∨ Cond.not (Cond.eq (zTm j) (zTm i)) ∈ zFl := by
  rcases Nat.lt_or_gt_of_ne h with q | q
  · exact Or.inl (fl_lt i hi j hj q)
  · exact Or.inr (fl_lt j hj i hi q)
theorem fl_sh : ∀ i : Nat, i < zNS → zlen.getD i 0 < 2 ^ 31 := by decide +kernel
theorem fl_sr : ∀ x ∈ zSR, x.2.2.2 < zNS ∧ zSR.getD x.2.2.2 ("", 0, "", 0) = x ∧ Cond.stringRef x.1 x.2.1 x.2.2.1 ∈ lw_tbl := by decide +kernel
theorem fl_zN : ∀ w ∈ zN, w.onTables = true ∧ w ∈ lw_tbl := by decide +kernel
theorem fl_cs : Cond.eq (.static "java/lang/String" "COMPACT_STRINGS" "Z") (.int 1) ∈ zFl := by decide +kernel
theorem fl_si : Cond.isRef (.static zSIO "SIOOBE_FORMATTER" "Ljava/util/function/BiFunction;") ∈ zFl := by decide +kernel
theorem tb_cs : Cond.laysStatic "java/lang/String" "COMPACT_STRINGS" "Z" ∈ lw_tbl ∧ Cond.initialized "java/lang/String" ∈ lw_tbl := by decide +kernel
theorem tb_si : Cond.laysStatic zSIO "SIOOBE_FORMATTER" "Ljava/util/function/BiFunction;" ∈ lw_tbl ∧ Cond.initialized zSIO ∈ lw_tbl := by decide +kernel
theorem tb_ao : Cond.arrayOver (.object RX0) ∈ lw_tbl ∧ Cond.arrayOver (.object RX5) ∈ lw_tbl ∧ Cond.arrayOver (.array .int) ∈ lw_tbl := by decide +kernel
theorem tb_ac : Cond.arrayClass .int ∈ lw_tbl ∧ Cond.arrayClass .boolean ∈ lw_tbl := by decide +kernel
theorem vk_S_cg {N : Nat} {len : List Nat} {byt : List (List Int32)} {adK adV aK aV : Nat → Nat} {A : Nat → Prop} {U : State} {H : Heap} (h : vk_S N len byt adK adV A U H) (h1 : ∀ i, i < N → aK i = adK i) (h2 : ∀ i, i < N → aV i = adV i) : vk_S N len byt aK aV A U H :=
  ⟨fun i hi => by rw [h1 i hi, h2 i hi]; exact h.1 i hi, fun i j hi hj q => h.2 i j hi hj (by rw [← h1 i hi, ← h1 j hj]; exact q)⟩
theorem st_ty {s : State} {c : ClassId} {ty : FieldType} (h : ∃ k comp, s.vm.classes[c]? = some k ∧ k.kind = .array comp ty) : ArrOfT s c ty := by
  obtain ⟨k, comp, h2, h3⟩ := h
  exact fun n z => ⟨fun k h => (by cases h), k, h2, comp, h3⟩
/-- the five classes of arrays -/
theorem st_tys {s : State} {args : Array Value} (hts : ∀ w ∈ lw_tbl, w.before args s = true) : ∃ cy : Nat → ClassId, ∀ (k : Nat) (q : ClassId × FieldType), (zTy cy)[k]? = some q → ArrOfT s q.1 q.2 ∧ va_RA s q.1 q.2 := by
  obtain ⟨c0, k0, p0, a0, b0, d0⟩ := Cond.arrayClass_spec (hts _ tb_ac.1)
  obtain ⟨c1, k1, p1, a1, b1, d1⟩ := Cond.arrayClass_spec (hts _ tb_ac.2)
  obtain ⟨p2, c2, k2, e2, -, b2, d2, a2⟩ := Cond.arrayOver_spec (hts _ tb_ao.1)
  obtain ⟨p3, c3, k3, e3, -, b3, d3, a3⟩ := Cond.arrayOver_spec (hts _ tb_ao.2.1)
  obtain ⟨p4, c4, k4, e4, -, b4, d4, a4⟩ := arrayOverA_spec (hts _ tb_ao.2.2)
  refine ⟨fun k => if k = 0 then c0 else if k = 1 then c1 else if k = 2 then c2 else if k = 3 then c3 else c4, fun k q hq => ?_⟩
  match k, hq with
  | 0, hq => cases hq; exact ⟨st_ty ⟨k0, p0, b0, d0⟩, a0⟩
  | 1, hq => cases hq; exact ⟨st_ty ⟨k1, p1, b1, d1⟩, a1⟩
  | 2, hq => cases hq; exact ⟨st_ty ⟨k2, p2, b2, d2⟩, k2, p2, b2, d2, e2, a2⟩
  | 3, hq => cases hq; exact ⟨st_ty ⟨k3, p3, b3, d3⟩, k3, p3, b3, d3, e3, a3⟩
  | 4, hq => cases hq; exact ⟨st_ty ⟨k4, p4, b4, d4⟩, a4⟩
  | k + 5, hq => simp [zTy] at hq
theorem st_cls {s : State} {args : Array Value} (hts : ∀ w ∈ lw_tbl, w.before args s = true) : ∃ (dC : Nat → ClassId) (dI : Nat → Nat → Nat), ∀ (k : Nat) (q : vw_C), vwCl[k]? = some q → u_Kn s q.1 q.2.1 q.2.2 (dC k) (dI k) := by
  have h : ∀ k : Nat, ∃ z : ClassId × (Nat → Nat), ∀ q : vw_C, vwCl[k]? = some q → u_Kn s q.1 q.2.1 q.2.2 z.1 z.2 := fun k => by
    cases hq : vwCl[k]? with
    | none => exact ⟨(0, fun _ => 0), fun q h => by cases h⟩
    | some q =>
      obtain ⟨C, T, N⟩ := q
      have hcl := zcls k C T N hq
      have hzt : ∀ w ∈ zT, w.before args s = true := fun w hw => hts w (List.mem_filter.mp hw).1
      obtain ⟨cC, iS, hK⟩ := u_known hzt hcl.1 (hzt _ hcl.2.2.2.2.1)
      exact ⟨(cC, iS), fun q h => by cases h; exact hK⟩
  obtain ⟨f, hf⟩ := Classical.axiomOfChoice h
  exact ⟨fun k => (f k).1, fun k => (f k).2, hf⟩
def zGst (L : Nat) : zG := (0, fun a => if a = 3000 then (9, 0, L) else (0, 0, 0), fun _ _ => none)
def zSst (xs : Nat → Int32) : zI := fun a => if a = 3000 then xs else fun _ => 0
set_option maxHeartbeats 4000000 in
/-- from the entry, for every script of at most 3072 ints, the law comes to its end with true -/
theorem whole_start {p : Program} {e : Env} {s : State} {m : MethodId} {below : List Frame} {meth : Method} {c : Code} (l : Launch) (hflags : l.flags = flags0) {b L : Nat} {xs : Nat → Int32} (hL : L ≤ 3072) (C0 : lw_At p s m meth c b L xs) : W p l e room_1 s m #[Value.ref b] below meth c s.heap [] 0 0 (lw_Z below #[Value.ref b] s) (entryFrame m ([Value.ref b] : List Value).toArray 4) := by
  obtain ⟨hx, hb, hr, hml, hown, hts, hX, hbl, hlocks, hgv⟩ := id C0
  have hA : ∀ a : Nat, a < s.heap.size → ¬ (fun q : Nat => s.heap.size ≤ q) a := fun a h q => Nat.not_le.mpr h q
  have hfl : ∀ w ∈ zFl, w.before #[Value.ref b] s = true := flat_of_before _ hgv
  obtain ⟨adK, adV, hS, hSt⟩ := vk_Sof (args := #[Value.ref b]) (N := zNS) (tm := zTm) (len := zlen) (byt := zbyt) (A := fun q : Nat => s.heap.size ≤ q) fl_sh (fun i hi => hfl _ (fl_ex i hi)) (fun i hi => hfl _ (fl_co i hi)) (fun i hi => hfl _ (fl_ar i hi)) (fun i hi => hfl _ (fl_le i hi)) (fun i hi j hj => hfl _ (fl_el i hi j hj)) (fun i j hi hj hij => (fl_ne i hi j hj hij).imp (hfl _) (hfl _)) hA
  have hSI : ∃ t : Nat, va_Z zSIO "SIOOBE_FORMATTER" "Ljava/util/function/BiFunction;" .null (fun q : Nat => s.heap.size ≤ q) s s.heap ∨ va_Z zSIO "SIOOBE_FORMATTER" "Ljava/util/function/BiFunction;" (.ref t) (fun q : Nat => s.heap.size ≤ q) s s.heap := by
    rcases va_Zqof (hts _ tb_si.1) (hts _ tb_si.2) (hfl _ fl_si) hA with h | ⟨t, h⟩
    · exact ⟨0, Or.inl h⟩
    · exact ⟨t, Or.inr h⟩
  obtain ⟨t, hSI⟩ := hSI
  obtain ⟨cy, hcy⟩ := st_tys hts
  obtain ⟨dC, dI, hcl⟩ := st_cls hts
  have hK : va_K (dC, dI) vwCl (zTy cy) s := ⟨hcl, hcy⟩
  have hRO : zRO (zρ0 adK adV b t) (zGst L) (zSst xs) (fun q : Nat => s.heap.size ≤ q) s s.heap := by
    refine ⟨fun w hw => va_Nw.of (fl_zN w hw).1 (hts w (fl_zN w hw).2), vk_S_cg hS (fun i hi => zρ0_K hi) (fun i hi => zρ0_V hi), fun x hx => ?_, va_Zof (hts _ tb_cs.1) (hts _ tb_cs.2) (va_eqt (hfl _ fl_cs)) hA, hSI, va_AO.of (hts _ tb_ao.1), va_AO.of (hts _ tb_ao.2.1), va_AOA.of (hts _ tb_ao.2.2), fun n hn => ?_⟩
    · obtain ⟨h1, h2, h3⟩ := fl_sr x hx
      rw [zρ0_K h1]
      refine vk_R.of (hts _ h3) ?_
      have h4 := hSt _ h1
      unfold zTm at h4
      rw [h2] at h4
      exact h4
    · have hn : ((9, 0, L) : Nat × Nat × Nat) = (9, 0, n) := hn
      cases hn
      exact ⟨hX, hbl, Nat.not_le.mpr hbl⟩
  have hzt : ∀ w ∈ zT, w.before #[Value.ref b] s = true := fun w hw => hts w (List.mem_filter.mp hw).1
  have hl := lv_entry ([.ref b]) (n := 4) (Nat.le_of_ble_eq_true rfl)
  rw [lg_entry_eq]
  generalize (lg_sl ([.ref b]) ++ List.replicate (4 - (lg_sl ([.ref b])).length) Slot.unset).toArray = ls at hl ⊢
  have hzl : zL ls 4 ([.ref b]) := zL_of (by intro v hv; simp at hv; subst hv; rfl) hl
  have h := lw_entry_ (nm := meth.name) (n0 := L) (by omega) (zGst L) (zSst xs) ⟨rfl, rfl, fun i hi => absurd hi (Nat.not_lt_zero i)⟩ ⟨fun i hi => absurd hi (Nat.not_lt_zero i), fun i _ => rfl⟩
  refine h p l e room_1 s m #[Value.ref b] below meth c s.heap [] 0 0 _ dC dI cy (zρ0 adK adV b t) (fun q : Nat => s.heap.size ≤ q) ls ⟨hx, hb, hml, hr, hlocks, hzt, hown, rfl, by decide, by decide⟩ hRO hK (fun q h => h) (by decide) (by decide) ⟨fun i k x hi => absurd hi (Nat.not_lt_zero i), fun i k x hi => absurd hi (Nat.not_lt_zero i), Nat.zero_le _⟩ hzl (fun k q h => by simp [zW, zGst] at h) ⟨fun i j p q h => by simp [zW, zGst] at h, fun k q h => by simp [zW, zGst] at h⟩ va_S.rf ?_
  intro r g' σ' ρ' H' locs' cells' slots' pc' ls' hq h1 h2 h3 h4 h5 h6 h7 h8
  subst hq
  have hd : decode code pc' = .ok (.ireturn, 1) := by
    rcases h8 with ⟨h, -⟩ | ⟨v, ty, -, -, -, hd⟩ | ⟨v, h, -⟩ | ⟨v, rt, h, hv, -⟩
    · cases h
    · exact hd
    · cases h
    · cases h
      rcases hv with hv | ⟨a, hv⟩ <;> cases hv
  refine va_forget (fun q hq => h7.2.2 q hq) ?_
  refine W.widen (k := 600000) (n := 7302250) h1 h2 ?_
  exact lw_ret hx hb hr hlocks hd
