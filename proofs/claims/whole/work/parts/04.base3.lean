
/-- behind a call, whatever its end says -/
theorem z_call {p : Program} {l : Launch} {e : Env} {R : Room} {s : State} {m : MethodId} {args : Array Value} {below : List Frame} {meth : Method} {c : Code} {H : Heap} {locs : List Loc} {cells slots : Nat} {Q : State → Prop} {pc : Nat} {ls : Array Slot} {rest st0 : List Value} {A0 A1 : Nat → Prop} {H0 : Heap} {mc ms : Nat} {free : Addr → Prop} {Qa : State → Outcome → State → Prop} {B : Option Value → State → Prop}
    (hr : va_Run p l e R s m args below meth c H locs cells slots mc ms (F0 m pc ls st0) rest Qa free) (hQ : ∀ st v t, Qa st (.returned v) t → B v t ∧ va_F A1 st t) (hS : va_S A0 H0 H locs) (hA : ∀ q, q < H.size → A1 q → A0 q) (hf : ∀ q, free q → A0 q)
    (kk : ∀ (v : Option Value) (t : State) (H1 : Heap) (locs1 : List Loc), t.heap = H1 → s.vm.Alike t.vm → B v t → va_S A0 H0 H1 locs1 → W p l e R s m args below meth c H1 locs1 (cells + mc) (slots + ms) Q (F0 m (pc + 3) ls (v.toList ++ rest))) : W p l e R s m args below meth c H locs cells slots Q (F0 m pc ls st0) := by
  intro T hT X
  obtain ⟨v, st₀, t, T', L, h0, X', hL, e1, e2, hqa, st⟩ := hr T hT X
  obtain ⟨hb, hz, hk⟩ := hQ _ _ _ hqa
  rw [h0] at hz hk
  obtain ⟨t2, a1, b1⟩ := kk v t T'.heap (locs ++ L) e1.symm (by rw [← e2]; exact X'.warmed.alike) hb
    ⟨Nat.le_trans hS.1 (by rw [e1]; exact hz), fun q h1 h2 => by rw [e1, hk q (Nat.lt_of_lt_of_le h1 hS.1) (fun z => h2 (hA q (Nat.lt_of_lt_of_le h1 hS.1) z))]; exact hS.2.1 q h1 h2, fun q hq => by
      rcases List.mem_append.mp hq with h | h
      · exact hS.2.2 q h
      · exact hf _ (hL q h)⟩ T' rfl X'
  exact ⟨t2, st t2 a1, b1⟩
theorem zT_good {w : Cond} (h : w ∈ zT) : (w.onTables && w.keeps) = true ∨ ∃ ty, w = .arrayClass ty := good_of_word (List.mem_filter.mp h).2
theorem zT_in (i : Nat) {w : Cond} (h : lw_tbl[i]? = some w) (g : goodWord w = true) : w ∈ zT := List.mem_filter.mpr ⟨List.mem_of_getElem? h, g⟩
def zCode (Y : zM) : Cond := .code Y.1 Y.2.1 Y.2.2.1 Y.2.2.2.1
theorem zws_good {Y : zM} (h : zCode Y ∈ zT) : GoodIn zT (zws Y) := fun w hw => by
  rcases List.mem_cons.mp hw with rfl | hw
  · exact ⟨h, zT_good h⟩
  · exact ⟨hw, zT_good hw⟩
/-- what the tables say of a method: its code, its class, how many parameters -/
def zMo (Y : zM) (n : Nat) : Prop := zCode Y ∈ zT ∧ Cond.initialized Y.1.cls ∈ zT ∧ (Y.1.cls ≠ "java/lang/invoke/MethodHandle" ∧ Y.1.cls ≠ "java/lang/invoke/VarHandle" ∧ (parseMethodDescriptor Y.1.desc).map (fun d => d.parameters.length) = some n) ∧ Y.2.2.1 ≤ 21
def zLk (own : String) (idx : Nat) (y : MethodName) : Prop := Cond.methodLink own idx y ∈ zT ∨ ∃ host, Cond.methodLinkNest own idx y host ∈ zN
def zMv (Y : zM) : Prop := Cond.instanceMethod Y.1 ∈ zT ∧ Cond.selects Y.1.cls Y.1 Y.1 ∈ zT
def zRc (g : zG) (id : Nat) (C : String) : Prop := (∃ (ci : Nat) (q : vw_C), vwCl[ci]? = some q ∧ q.1 = C ∧ zOb g id ci) ∨ (C = "java/lang/String" ∧ ∃ i, i < zNS ∧ id = 1000 + i)
def zokv (n : Nat) : Value → Bool
  | .ref a => decide (a < n ∨ 1000 ≤ a)
  | _ => true
theorem zv_ext {ρ ρ' : Nat → Nat} {n : Nat} (hr : ∀ i, (i < n ∨ 1000 ≤ i) → ρ' i = ρ i) {l : List Value} (h : l.all (zokv n) = true) : l.map (zv ρ') = l.map (zv ρ) := by
  refine List.map_congr_left fun v hv => ?_
  have h1 := List.all_eq_true.mp h v hv
  cases v with
  | ref a => exact congrArg Value.ref (hr a (by simpa [zokv] using h1))
  | _ => rfl
theorem zCx_pre {dC : Nat → ClassId} {dI : Nat → Nat → Nat} {cy : Nat → ClassId} {ρ : Nat → Nat} {g : zG} {σ : zI} {A : Nat → Prop} {H : Heap} {s : State} {locs : List Loc} (hRO : zRO ρ g σ A s s.heap) (hK : va_K (dC, dI) vwCl (zTy cy) s) (hA : ∀ q, s.heap.size ≤ q → A q) (hw : zWf g σ)
    (hP : va_P (dC, dI) vwCl (zW ρ cy g σ) H) (hD : va_D A (zW ρ cy g σ)) (hS : va_S A s.heap H locs) (as : List Value) : FrameBlind (va_Pc as (zPr dC dI cy ρ g σ H.size)) ∧ ∀ U : State, U.heap = H → s.WarmedH U.vm → va_Pc as (zPr dC dI cy ρ g σ H.size) as.toArray U := by
  refine ⟨fun a U g1 mk q => ?_, fun U hU hW => ?_⟩
  · obtain ⟨q0, q1, q2, q3, q4, q5, q6⟩ := q
    exact ⟨q0, q1, q2, q3, va_K.moved (u := U) (U := U.calling g1 mk a) (Vm.Alike.refl U.vm) q4, q5, zRO_same (u := U) (U := U.calling g1 mk a) rfl q6⟩
  · subst hU
    exact ⟨rfl, rfl, hw, hP, va_K.moved hW.alike hK, hD.weaken (fun _ _ _ _ => trivial), zRO_call hW hS (fun q h => by
      rcases h with ⟨k, e, h⟩ | h
      · exact hD.2 k _ h
      · exact hA q (Nat.le_trans hS.1 h)) hRO⟩
theorem zQc_end {dC : Nat → ClassId} {dI : Nat → Nat → Nat} {cy : Nat → ClassId} {ρ : Nat → Nat} {kc : Nat} {g : zG} {σ : zI} {A1 : Nat → Prop} {Q : Option Value → zG → zI → Prop} {a : Array Value} (st : State) (v : Option Value) (t : State) (h : zQc dC dI cy ρ kc g σ A1 Q a st (.returned v) t) :
    (∃ (r : Option Value) (g' : zG) (σ' : zI) (ρ' : Nat → Nat), v = r.map (zv ρ') ∧ Q r g' σ' ∧ zWf g' σ' ∧ zExt kc g σ g' σ' ρ ρ' ∧ va_P (dC, dI) vwCl (zW ρ' cy g' σ') t.heap ∧ va_D A1 (zW ρ' cy g' σ')) ∧ va_F A1 st t := by
  obtain ⟨⟨r, g', σ', ρ', h1, h2⟩, h3⟩ := h
  cases h1
  exact ⟨⟨r, g', σ', ρ', rfl, h2⟩, h3⟩

theorem x_callV {Y : zM} {d kc ks pc : Nat} {L S : List Value} {g : zG} {σ : zI} {Q : Option Value → zG → zI → Prop} {Y2 : zM} {idx n kc2 ks2 : Nat} {as S0 : List Value} {Q1 : Option Value → zG → zI → Prop} {id : Nat} (hmv : zMv Y2) (hrc : zRc g id Y2.1.cls) (hd : decode Y.2.1 pc = .ok (.invokevirtual idx, 3)) (hlk2 : zLk Y.1.cls idx Y2.1) (hmo : zMo Y2 n) (hS0 : S0 = as.reverse ++ .ref id :: S) (hn : as.length = n) (hcat : (S.map fun v => v.category).sum ≤ 8) (hok : Y2.2.2.2.2.1 = 0 ∨ (L ++ S).all (zokv g.1) = true) (hkc : Y2.2.2.2.2.1 + kc2 = kc) (hks : Y2.2.2.2.2.2 + ks2 = ks) (hcx : zCx Y2 d (.ref id :: as) g σ Q1) (kk : ∀ (r : Option Value) (g1 : zG) (σ1 : zI), Q1 r g1 σ1 → zX Y (d + 1) kc2 ks2 (pc + 3) L (r.toList ++ S) g1 σ1 Q) : zX Y (d + 1) kc ks (pc) L (S0) g σ Q := by
  intro p l e R s m args below meth c H locs cells slots Q2 dC dI cy ρ A ls hC hRO hK hA hc hs hw hl hP hD hS ret
  obtain ⟨d', hd', hMM⟩ := hcx
  have hM := hMM l dC dI cy ρ H.size
  obtain ⟨mo1, mo2, mo3, mo4⟩ := hmo
  obtain ⟨hx, hb, hml, hrt, hlk, hts, hown, hmn, hdR, hlR⟩ := hC
  have hdR2 : d + 1 ≤ R.frames := hdR
  have hlR2 : 40 * (d + 1) ≤ R.locals := hlR
  have hpre := zCx_pre hRO hK hA hw hP hD hS ((.ref id :: as).map (zv ρ))
  have hfree : ∀ q, va_A (zW ρ cy g σ) H.size q → A q := fun q h => by
    rcases h with ⟨k, e, h⟩ | h
    · exact hD.2 k _ h
    · exact hA q (Nat.le_trans hS.1 h)
  have hroom : (zroom d' Y2).frames + 1 ≤ R.frames ∧ 8 + (Y2.2.2.1 + 11) + (zroom d' Y2).locals ≤ R.locals := by
    refine ⟨?_, ?_⟩
    · show d' + 1 ≤ _
      omega
    · show 8 + (Y2.2.2.1 + 11) + 40 * d' ≤ _
      omega
  have hcat2 : (((S.map (zv ρ)).map fun v => v.category)).sum ≤ 8 := by
    rw [List.map_map, show ((fun v : Value => v.category) ∘ zv ρ) = fun v => v.category from funext fun v => zv_cat ρ v]
    exact hcat
  have hstk : S0.map (zv ρ) = (as.map (zv ρ)).reverse ++ .ref (ρ id) :: S.map (zv ρ) := by
    subst hS0
    simp [zv]
  have hrun : va_Run p l e R s m args below meth c H locs cells slots Y2.2.2.2.2.1 Y2.2.2.2.2.2 (F0 m pc ls (S0.map (zv ρ))) (S.map (zv ρ)) (zQc dC dI cy ρ Y2.2.2.2.2.1 g σ (va_A (zW ρ cy g σ) H.size) Q1 (((.ref id :: as).map (zv ρ)).toArray)) (va_A (zW ρ cy g σ) H.size) := (by
      rcases hlk2 with hlk2 | ⟨host, hlk2⟩
      · exact va_runV (g := F0 m pc ls (S0.map (zv ρ))) (rest := S.map (zv ρ)) (As := as.map (zv ρ)) ⟨hx, hb, hml, hown, hts⟩ hM (cwV n hts (fun w h => by rcases List.mem_append.mp h with h | h; (simp only [List.mem_cons, List.not_mem_nil, or_false] at h; rcases h with rfl | rfl | rfl | rfl <;> refine ⟨?_, zT_good ?_⟩ <;> first | exact hlk2 | exact hmv.1 | exact hmv.2 | exact mo2); exact zws_good mo1 w h) rfl rfl rfl ⟨rfl, mo3⟩ hroom) ⟨hpre.1, (by
        rcases hrc with ⟨ci, q, hq1, hq2, ho⟩ | ⟨hC2, i, hi, rfl⟩
        · obtain ⟨cell, z1, z2, z3⟩ := va_recv hK hP hq1 (zW_ob ho)
          exact ⟨cell, z1, z2, by rw [← hq2]; exact z3⟩
        · rw [hC2]
          exact vk_recv (adK := fun k => ρ (1000 + k)) (i := i) hRO.2.1 hi hS), hpre.2⟩ rfl (by rw [List.length_map]; exact hn) hl.1 hstk (lv_room hcat2) hd ⟨by omega, by omega⟩
      · exact va_runVN (g := F0 m pc ls (S0.map (zv ρ))) (rest := S.map (zv ρ)) (As := as.map (zv ρ)) ⟨hx, hb, hml, hown, hts⟩ hM ⟨va_cnB n hts (zws_good mo1) rfl rfl rfl (hRO.1 _ hlk2) (hts _ mo2) mo3 hroom, hts _ hmv.1, hts _ hmv.2⟩ ⟨hpre.1, (by
        rcases hrc with ⟨ci, q, hq1, hq2, ho⟩ | ⟨hC2, i, hi, rfl⟩
        · obtain ⟨cell, z1, z2, z3⟩ := va_recv hK hP hq1 (zW_ob ho)
          exact ⟨cell, z1, z2, by rw [← hq2]; exact z3⟩
        · rw [hC2]
          exact vk_recv (adK := fun k => ρ (1000 + k)) (i := i) hRO.2.1 hi hS), hpre.2⟩ rfl (by rw [List.length_map]; exact hn) hl.1 hstk (lv_room hcat2) hd ⟨by omega, by omega⟩)
  refine z_call (A1 := va_A (zW ρ cy g σ) H.size) (H0 := s.heap) (A0 := A) hrun (fun st v t h => zQc_end st v t h) hS (fun q _ h => hfree q h) hfree (fun v t H1 locs1 ht hal hB hS1 => ?_)
  obtain ⟨r, g1, σ1, ρ1, rfl, hq, hw1, hext, hP1, hD1⟩ := hB
  rw [ht] at hP1
  have hst : (r.map (zv ρ1)).toList ++ S.map (zv ρ) = (r.toList ++ S).map (zv ρ1) ∧ L.map (zv ρ) = L.map (zv ρ1) := by
    rcases hok with h0 | h0
    · have e := hext.1 h0
      subst e
      exact ⟨by cases r <;> simp, rfl⟩
    · have h2 := List.all_append.symm.trans h0
      rw [List.all_append, Bool.and_eq_true] at h0
      exact ⟨by rw [List.map_append, zv_ext hext.2.2.1 h0.2]; cases r <;> simp, (zv_ext hext.2.2.1 h0.1).symm⟩
  rw [hst.1]
  have hro1 : zRO ρ1 g1 σ1 A s s.heap := zRO_set hRO (fun i hi => hext.2.2.1 i (Or.inr hi)) hext.2.2.2.1 hext.2.2.2.2
  exact kk r g1 σ1 hq p l e R s m args below meth c H1 locs1 (cells + Y2.2.2.2.2.1) (slots + Y2.2.2.2.2.2) Q2 dC dI cy ρ1 A ls ⟨hx, hb, hml, hrt, hlk, hts, hown, hmn, hdR, hlR⟩ hro1 hK hA (by omega) (by omega) hw1 (by rw [← hst.2]; exact hl) hP1 (hD1.weaken (fun _ _ _ h => hfree _ h)) hS1 (zRT_st ret ⟨fun q => hext.1 (by omega), hext.2⟩ (by omega))
theorem x_callS {Y : zM} {d kc ks pc : Nat} {L S : List Value} {g : zG} {σ : zI} {Q : Option Value → zG → zI → Prop} {Y2 : zM} {idx n kc2 ks2 : Nat} {as S0 : List Value} {Q1 : Option Value → zG → zI → Prop} (hst2 : Cond.static Y2.1 ∈ zT) (hd : decode Y.2.1 pc = .ok (.invokestatic idx, 3)) (hlk2 : zLk Y.1.cls idx Y2.1) (hmo : zMo Y2 n) (hS0 : S0 = as.reverse ++ S) (hn : as.length = n) (hcat : (S.map fun v => v.category).sum ≤ 8) (hok : Y2.2.2.2.2.1 = 0 ∨ (L ++ S).all (zokv g.1) = true) (hkc : Y2.2.2.2.2.1 + kc2 = kc) (hks : Y2.2.2.2.2.2 + ks2 = ks) (hcx : zCx Y2 d (as) g σ Q1) (kk : ∀ (r : Option Value) (g1 : zG) (σ1 : zI), Q1 r g1 σ1 → zX Y (d + 1) kc2 ks2 (pc + 3) L (r.toList ++ S) g1 σ1 Q) : zX Y (d + 1) kc ks (pc) L (S0) g σ Q := by
  intro p l e R s m args below meth c H locs cells slots Q2 dC dI cy ρ A ls hC hRO hK hA hc hs hw hl hP hD hS ret
  obtain ⟨d', hd', hMM⟩ := hcx
  have hM := hMM l dC dI cy ρ H.size
  obtain ⟨mo1, mo2, mo3, mo4⟩ := hmo
  obtain ⟨hx, hb, hml, hrt, hlk, hts, hown, hmn, hdR, hlR⟩ := hC
  have hdR2 : d + 1 ≤ R.frames := hdR
  have hlR2 : 40 * (d + 1) ≤ R.locals := hlR
  have hpre := zCx_pre hRO hK hA hw hP hD hS ((as).map (zv ρ))
  have hfree : ∀ q, va_A (zW ρ cy g σ) H.size q → A q := fun q h => by
    rcases h with ⟨k, e, h⟩ | h
    · exact hD.2 k _ h
    · exact hA q (Nat.le_trans hS.1 h)
  have hroom : (zroom d' Y2).frames + 1 ≤ R.frames ∧ 8 + (Y2.2.2.1 + 11) + (zroom d' Y2).locals ≤ R.locals := by
    refine ⟨?_, ?_⟩
    · show d' + 1 ≤ _
      omega
    · show 8 + (Y2.2.2.1 + 11) + 40 * d' ≤ _
      omega
  have hcat2 : (((S.map (zv ρ)).map fun v => v.category)).sum ≤ 8 := by
    rw [List.map_map, show ((fun v : Value => v.category) ∘ zv ρ) = fun v => v.category from funext fun v => zv_cat ρ v]
    exact hcat
  have hstk : S0.map (zv ρ) = (as.map (zv ρ)).reverse ++ S.map (zv ρ) := by
    subst hS0
    simp [zv]
  have hrun : va_Run p l e R s m args below meth c H locs cells slots Y2.2.2.2.2.1 Y2.2.2.2.2.2 (F0 m pc ls (S0.map (zv ρ))) (S.map (zv ρ)) (zQc dC dI cy ρ Y2.2.2.2.2.1 g σ (va_A (zW ρ cy g σ) H.size) Q1 (((as).map (zv ρ)).toArray)) (va_A (zW ρ cy g σ) H.size) := (by
      rcases hlk2 with hlk2 | ⟨host, hlk2⟩
      · exact va_runS (g := F0 m pc ls (S0.map (zv ρ))) (rest := S.map (zv ρ)) (As := as.map (zv ρ)) ⟨hx, hb, hml, hown, hts⟩ hM (va_cwS n hts (fun w h => by rcases List.mem_append.mp h with h | h; (simp only [List.mem_cons, List.not_mem_nil, or_false] at h; rcases h with rfl | rfl | rfl <;> refine ⟨?_, zT_good ?_⟩ <;> first | exact hlk2 | exact hst2 | exact mo2); exact zws_good mo1 w h) rfl rfl rfl mo3 hroom) ⟨hpre.1, hpre.2⟩ rfl (by rw [List.length_map]; exact hn) hl.1 hstk (lv_room hcat2) hd ⟨by omega, by omega⟩
      · exact va_runSN (g := F0 m pc ls (S0.map (zv ρ))) (rest := S.map (zv ρ)) (As := as.map (zv ρ)) ⟨hx, hb, hml, hown, hts⟩ hM ⟨va_cnB n hts (zws_good mo1) rfl rfl rfl (hRO.1 _ hlk2) (hts _ mo2) mo3 hroom, hts _ hst2, trivial⟩ ⟨hpre.1, hpre.2⟩ rfl (by rw [List.length_map]; exact hn) hl.1 hstk (lv_room hcat2) hd ⟨by omega, by omega⟩)
  refine z_call (A1 := va_A (zW ρ cy g σ) H.size) (H0 := s.heap) (A0 := A) hrun (fun st v t h => zQc_end st v t h) hS (fun q _ h => hfree q h) hfree (fun v t H1 locs1 ht hal hB hS1 => ?_)
  obtain ⟨r, g1, σ1, ρ1, rfl, hq, hw1, hext, hP1, hD1⟩ := hB
  rw [ht] at hP1
  have hst : (r.map (zv ρ1)).toList ++ S.map (zv ρ) = (r.toList ++ S).map (zv ρ1) ∧ L.map (zv ρ) = L.map (zv ρ1) := by
    rcases hok with h0 | h0
    · have e := hext.1 h0
      subst e
      exact ⟨by cases r <;> simp, rfl⟩
    · have h2 := List.all_append.symm.trans h0
      rw [List.all_append, Bool.and_eq_true] at h0
      exact ⟨by rw [List.map_append, zv_ext hext.2.2.1 h0.2]; cases r <;> simp, (zv_ext hext.2.2.1 h0.1).symm⟩
  rw [hst.1]
  have hro1 : zRO ρ1 g1 σ1 A s s.heap := zRO_set hRO (fun i hi => hext.2.2.1 i (Or.inr hi)) hext.2.2.2.1 hext.2.2.2.2
  exact kk r g1 σ1 hq p l e R s m args below meth c H1 locs1 (cells + Y2.2.2.2.2.1) (slots + Y2.2.2.2.2.2) Q2 dC dI cy ρ1 A ls ⟨hx, hb, hml, hrt, hlk, hts, hown, hmn, hdR, hlR⟩ hro1 hK hA (by omega) (by omega) hw1 (by rw [← hst.2]; exact hl) hP1 (hD1.weaken (fun _ _ _ h => hfree _ h)) hS1 (zRT_st ret ⟨fun q => hext.1 (by omega), hext.2⟩ (by omega))
theorem x_callI {Y : zM} {d kc ks pc : Nat} {L S : List Value} {g : zG} {σ : zI} {Q : Option Value → zG → zI → Prop} {Y2 : zM} {idx n kc2 ks2 : Nat} {as S0 : List Value} {Q1 : Option Value → zG → zI → Prop} {id : Nat} (hin2 : Cond.instanceMethod Y2.1 ∈ zT ∧ Y2.1.name = "<init>" ∧ Y2.2.2.2.1 = none) (hd : decode Y.2.1 pc = .ok (.invokespecial idx, 3)) (hlk2 : zLk Y.1.cls idx Y2.1) (hmo : zMo Y2 n) (hS0 : S0 = as.reverse ++ .ref id :: S) (hn : as.length = n) (hcat : (S.map fun v => v.category).sum ≤ 8) (hok : Y2.2.2.2.2.1 = 0 ∨ (L ++ S).all (zokv g.1) = true) (hkc : Y2.2.2.2.2.1 + kc2 = kc) (hks : Y2.2.2.2.2.2 + ks2 = ks) (hcx : zCx Y2 d (.ref id :: as) g σ Q1) (kk : ∀ (r : Option Value) (g1 : zG) (σ1 : zI), Q1 r g1 σ1 → zX Y (d + 1) kc2 ks2 (pc + 3) L (r.toList ++ S) g1 σ1 Q) : zX Y (d + 1) kc ks (pc) L (S0) g σ Q := by
  intro p l e R s m args below meth c H locs cells slots Q2 dC dI cy ρ A ls hC hRO hK hA hc hs hw hl hP hD hS ret
  obtain ⟨d', hd', hMM⟩ := hcx
  have hM := hMM l dC dI cy ρ H.size
  obtain ⟨mo1, mo2, mo3, mo4⟩ := hmo
  obtain ⟨hx, hb, hml, hrt, hlk, hts, hown, hmn, hdR, hlR⟩ := hC
  have hdR2 : d + 1 ≤ R.frames := hdR
  have hlR2 : 40 * (d + 1) ≤ R.locals := hlR
  have hpre := zCx_pre hRO hK hA hw hP hD hS ((.ref id :: as).map (zv ρ))
  have hfree : ∀ q, va_A (zW ρ cy g σ) H.size q → A q := fun q h => by
    rcases h with ⟨k, e, h⟩ | h
    · exact hD.2 k _ h
    · exact hA q (Nat.le_trans hS.1 h)
  have hroom : (zroom d' Y2).frames + 1 ≤ R.frames ∧ 8 + (Y2.2.2.1 + 11) + (zroom d' Y2).locals ≤ R.locals := by
    refine ⟨?_, ?_⟩
    · show d' + 1 ≤ _
      omega
    · show 8 + (Y2.2.2.1 + 11) + 40 * d' ≤ _
      omega
  have hcat2 : (((S.map (zv ρ)).map fun v => v.category)).sum ≤ 8 := by
    rw [List.map_map, show ((fun v : Value => v.category) ∘ zv ρ) = fun v => v.category from funext fun v => zv_cat ρ v]
    exact hcat
  have hstk : S0.map (zv ρ) = (as.map (zv ρ)).reverse ++ .ref (ρ id) :: S.map (zv ρ) := by
    subst hS0
    simp [zv]
  have hrun : va_Run p l e R s m args below meth c H locs cells slots Y2.2.2.2.2.1 Y2.2.2.2.2.2 (F0 m pc ls (S0.map (zv ρ))) (S.map (zv ρ)) (zQc dC dI cy ρ Y2.2.2.2.2.1 g σ (va_A (zW ρ cy g σ) H.size) Q1 (((.ref id :: as).map (zv ρ)).toArray)) (va_A (zW ρ cy g σ) H.size) := (by
      rcases hlk2 with hlk2 | ⟨host, hlk2⟩
      · exact va_runI (g := F0 m pc ls (S0.map (zv ρ))) (rest := S.map (zv ρ)) (As := as.map (zv ρ)) ⟨hx, hb, hml, hown, hts⟩ hM (cwI n hts (zws_good mo1) (by show zCode Y2 :: zT = _; unfold zCode; rw [hin2.2.2]) rfl rfl (hts _ mo2) (hts _ hlk2) (hts _ hin2.1) hin2.2.1 mo3 hroom) ⟨hpre.1, hpre.2⟩ rfl (by rw [List.length_map]; exact hn) hl.1 hstk (lv_room hcat2) hd ⟨by omega, by omega⟩
      · exact va_runIN (g := F0 m pc ls (S0.map (zv ρ))) (rest := S.map (zv ρ)) (As := as.map (zv ρ)) ⟨hx, hb, hml, hown, hts⟩ hM ⟨va_cnB n hts (zws_good mo1) (by show zCode Y2 :: zT = _; unfold zCode; rw [hin2.2.2]) rfl rfl (hRO.1 _ hlk2) (hts _ mo2) mo3 hroom, hin2.2.1, hts _ hin2.1⟩ ⟨hpre.1, hpre.2⟩ rfl (by rw [List.length_map]; exact hn) hl.1 hstk (lv_room hcat2) hd ⟨by omega, by omega⟩)
  refine z_call (A1 := va_A (zW ρ cy g σ) H.size) (H0 := s.heap) (A0 := A) hrun (fun st v t h => zQc_end st v t h) hS (fun q _ h => hfree q h) hfree (fun v t H1 locs1 ht hal hB hS1 => ?_)
  obtain ⟨r, g1, σ1, ρ1, rfl, hq, hw1, hext, hP1, hD1⟩ := hB
  rw [ht] at hP1
  have hst : (r.map (zv ρ1)).toList ++ S.map (zv ρ) = (r.toList ++ S).map (zv ρ1) ∧ L.map (zv ρ) = L.map (zv ρ1) := by
    rcases hok with h0 | h0
    · have e := hext.1 h0
      subst e
      exact ⟨by cases r <;> simp, rfl⟩
    · have h2 := List.all_append.symm.trans h0
      rw [List.all_append, Bool.and_eq_true] at h0
      exact ⟨by rw [List.map_append, zv_ext hext.2.2.1 h0.2]; cases r <;> simp, (zv_ext hext.2.2.1 h0.1).symm⟩
  rw [hst.1]
  have hro1 : zRO ρ1 g1 σ1 A s s.heap := zRO_set hRO (fun i hi => hext.2.2.1 i (Or.inr hi)) hext.2.2.2.1 hext.2.2.2.2
  exact kk r g1 σ1 hq p l e R s m args below meth c H1 locs1 (cells + Y2.2.2.2.2.1) (slots + Y2.2.2.2.2.2) Q2 dC dI cy ρ1 A ls ⟨hx, hb, hml, hrt, hlk, hts, hown, hmn, hdR, hlR⟩ hro1 hK hA (by omega) (by omega) hw1 (by rw [← hst.2]; exact hl) hP1 (hD1.weaken (fun _ _ _ h => hfree _ h)) hS1 (zRT_st ret ⟨fun q => hext.1 (by omega), hext.2⟩ (by omega))
theorem x_obj {Y : zM} {d kc ks pc : Nat} {L S : List Value} {g : zG} {σ : zI} {Q : Option Value → zG → zI → Prop} {idx id : Nat} (hd : decode Y.2.1 pc = .ok (.invokespecial idx, 3)) (h1 : Cond.methodLink Y.1.cls idx Lib.objectInit ∈ zT) (h2 : Cond.instanceMethod Lib.objectInit ∈ zT) (h3 : Cond.code Lib.objectInit ⟨#[0xb1]⟩ 1 none ∈ zT) (hcat : (S.map fun v => v.category).sum ≤ 8) (k : zX Y (d + 1) kc ks (pc + 3) L (S) g σ Q) : zX Y (d + 1) kc ks (pc) L (.ref id :: S) g σ Q := by
  intro p l e R s m args below meth c H locs cells slots Q2 dC dI cy ρ A ls hC hRO hK hA hc hs hw hl hP hD hS ret
  have hC9 := hC
  obtain ⟨hx, hb, hml, hrt, hlk, hts, hown, hmn, hdR, hlR⟩ := hC9
  have hdR2 : d + 1 ≤ R.frames := hdR
  have hlR2 : 40 * (d + 1) ≤ R.locals := hlR
  have hcat2 : (((S.map (zv ρ)).map fun v => v.category)).sum ≤ 8 := by
    rw [List.map_map, show ((fun v : Value => v.category) ∘ zv ρ) = fun v => v.category from funext fun v => zv_cat ρ v]
    exact hcat
  exact W.objInit hx hb hown (hts _ h1) (hts _ h2) (hts _ h3) (g := F0 m pc ls ((.ref id :: S).map (zv ρ))) rfl (hl.1.trans hml.symm) rfl hd (by omega) (by show 2 * 0 + _ + 12 ≤ _; omega) (k p l e R s m args below meth c H locs cells slots Q2 dC dI cy ρ A ls hC hRO hK hA hc hs hw hl hP hD hS ret)
theorem x_mmax {Y : zM} {d kc ks pc : Nat} {L S : List Value} {g : zG} {σ : zI} {Q : Option Value → zG → zI → Prop} {idx : Nat} {a b : Int32} (hd : decode Y.2.1 pc = .ok (.invokestatic idx, 3)) (h1 : Cond.methodLink Y.1.cls idx Lib.Math.max.name ∈ zT) (h2 : Cond.static Lib.Math.max.name ∈ zT) (h3 : Cond.initialized "java/lang/Math" ∈ zT) (h4 : Cond.code Lib.Math.max.name Lib.Math.max.code 2 (some .int) ∈ zT) (hcat : (S.map fun v => v.category).sum ≤ 8) (k : zX Y (d + 1) kc ks (pc + 3) L (.int (if a < b then b else a) :: S) g σ Q) : zX Y (d + 1) kc ks (pc) L (.int b :: .int a :: S) g σ Q := by
  intro p l e R s m args below meth c H locs cells slots Q2 dC dI cy ρ A ls hC hRO hK hA hc hs hw hl hP hD hS ret
  have hC9 := hC
  obtain ⟨hx, hb, hml, hrt, hlk, hts, hown, hmn, hdR, hlR⟩ := hC9
  have hdR2 : d + 1 ≤ R.frames := hdR
  have hlR2 : 40 * (d + 1) ≤ R.locals := hlR
  have hcat2 : (((S.map (zv ρ)).map fun v => v.category)).sum ≤ 8 := by
    rw [List.map_map, show ((fun v : Value => v.category) ∘ zv ρ) = fun v => v.category from funext fun v => zv_cat ρ v]
    exact hcat
  exact va_mmax hx hb (hml.trans hl.1.symm) hown (hts _ h1) (hts _ h2) (hts _ h3) (hts _ h4) (by omega) (by omega) (by omega) (by omega) hd (k p l e R s m args below meth c H locs cells slots Q2 dC dI cy ρ A ls hC hRO hK hA hc hs hw hl hP hD hS ret)
theorem x_mmin {Y : zM} {d kc ks pc : Nat} {L S : List Value} {g : zG} {σ : zI} {Q : Option Value → zG → zI → Prop} {idx : Nat} {a b : Int32} (hd : decode Y.2.1 pc = .ok (.invokestatic idx, 3)) (h1 : Cond.methodLink Y.1.cls idx Lib.Math.min.name ∈ zT) (h2 : Cond.static Lib.Math.min.name ∈ zT) (h3 : Cond.initialized "java/lang/Math" ∈ zT) (h4 : Cond.code Lib.Math.min.name Lib.Math.min.code 2 (some .int) ∈ zT) (hcat : (S.map fun v => v.category).sum ≤ 8) (k : zX Y (d + 1) kc ks (pc + 3) L (.int (if b < a then b else a) :: S) g σ Q) : zX Y (d + 1) kc ks (pc) L (.int b :: .int a :: S) g σ Q := by
  intro p l e R s m args below meth c H locs cells slots Q2 dC dI cy ρ A ls hC hRO hK hA hc hs hw hl hP hD hS ret
  have hC9 := hC
  obtain ⟨hx, hb, hml, hrt, hlk, hts, hown, hmn, hdR, hlR⟩ := hC9
  have hdR2 : d + 1 ≤ R.frames := hdR
  have hlR2 : 40 * (d + 1) ≤ R.locals := hlR
  have hcat2 : (((S.map (zv ρ)).map fun v => v.category)).sum ≤ 8 := by
    rw [List.map_map, show ((fun v : Value => v.category) ∘ zv ρ) = fun v => v.category from funext fun v => zv_cat ρ v]
    exact hcat
  exact va_mmin hx hb (hml.trans hl.1.symm) hown (hts _ h1) (hts _ h2) (hts _ h3) (hts _ h4) (by omega) (by omega) (by omega) (by omega) hd (k p l e R s m args below meth c H locs cells slots Q2 dC dI cy ρ A ls hC hRO hK hA hc hs hw hl hP hD hS ret)
