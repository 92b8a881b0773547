
theorem lg_sl_len : ∀ (vs : List Value), (∀ v ∈ vs, v.category = 1) → (lg_sl vs).length = vs.length
  | [], _ => rfl
  | v :: vs, h => by
    have h1 : v.category = 1 := h v List.mem_cons_self
    have ih := lg_sl_len vs (fun w hw => h w (List.mem_cons_of_mem _ hw))
    unfold lg_sl at ih ⊢
    rw [List.flatMap_cons, List.length_append, ih, if_neg (by omega), List.length_cons]
    simp; omega
theorem lv_args_mem : ∀ (vs : List Value) (k i : Nat) (v : Value), (∀ v ∈ vs, v.category = 1) → vs[i]? = some v → (k + i, v) ∈ lv_args k vs
  | [], _, _, _, _, h => by simp at h
  | a :: vs, k, 0, v, _, h => by cases h; exact List.mem_cons_self
  | a :: vs, k, i + 1, v, hc, h => by
    have h1 : a.category = 1 := hc a List.mem_cons_self
    have h2 := lv_args_mem vs (k + 1) i v (fun w hw => hc w (List.mem_cons_of_mem _ hw)) h
    unfold lv_args
    rw [if_neg (by omega), show k + (i + 1) = k + 1 + i by omega]
    exact List.mem_cons_of_mem _ h2
theorem zL_of {ls : Array Slot} {n : Nat} {vs : List Value} (hc : ∀ v ∈ vs, v.category = 1) (h : lv_has ls n (lv_args 0 vs)) : zL ls n vs :=
  ⟨h.1, h.2.1, fun i v hv _ => by
    have h1 := h.2.2 (0 + i, v) (lv_args_mem vs 0 i v hc hv)
    rw [Nat.zero_add] at h1
    exact h1⟩
set_option maxHeartbeats 4000000 in
/-- a method's contract, out of its body's walk -/
theorem c_of_x {Y : zM} {d : Nat} {as : List Value} {g : zG} {σ : zI} {Q : Option Value → zG → zI → Prop} (hpl : plainName Y.1.cls = true) (hcat : (as.all fun v => v.category == 1) = true) (hlen : as.length ≤ Y.2.2.1) (h : zX Y d Y.2.2.2.2.1 Y.2.2.2.2.2 0 as [] g σ Q) : zCx Y d as g σ Q := by
  refine ⟨d, Nat.le_refl d, fun l dC dI cy ρ sz => ?_⟩
  refine Met.ofW (cc := Y.2.1) (maxL := Y.2.2.1) (ret := Y.2.2.2.1) hpl rfl ?_
  intro p e s m args below meth c s₁ B hml hv
  obtain ⟨rfl, hsz, hw, hP, hK, hD0, hRO⟩ := hv
  subst hsz
  have hts : ∀ w ∈ zT, w.before (as.map (zv ρ)).toArray s = true := fun w hw => atoms_spec (ws := zws Y) B.pre w (List.mem_cons_of_mem _ hw)
  have hown : s.vm.findClass Y.1.cls = some m.cls := findClass_of_methodNamed B.named
  have hname : meth.name = Y.1.name := (name_of_methodNamed B.named B.method).1
  have hc1 : ∀ v ∈ as.map (zv ρ), v.category = 1 := fun v hv => by
    obtain ⟨w, hw1, rfl⟩ := List.mem_map.mp hv
    rw [zv_cat]
    exact eq_of_beq (List.all_eq_true.mp hcat w hw1)
  have hl := lv_entry (as.map (zv ρ)) (n := Y.2.2.1) (by rw [lg_sl_len _ hc1, List.length_map]; exact hlen)
  rw [lg_entry_eq]
  generalize (lg_sl (as.map (zv ρ)) ++ List.replicate (Y.2.2.1 - (lg_sl (as.map (zv ρ))).length) Slot.unset).toArray = ls at hl ⊢
  refine h p l e _ s m _ below meth c s.heap [] 0 0 _ dC dI cy ρ (va_A (zW ρ cy g σ) s.heap.size) ls ⟨B.exec, B.bytes, hml, B.returns, B.notSynchronized, hts, hown, hname, Nat.le_refl _, Nat.le_refl _⟩ hRO hK (fun q hq => Or.inr hq) (Nat.le_of_eq (Nat.zero_add _)) (Nat.le_of_eq (Nat.zero_add _)) hw (zL_of hc1 hl) hP hD0.self va_S.rf ?_
  intro r g' σ' ρ' H' locs' cells' slots' pc' ls' hq h1 h2 h3 h4 h5 h6 h7 h8
  refine W.widen (k := Y.2.2.2.2.1) (n := Y.2.2.2.2.2) h1 h2 ?_
  rcases h8 with ⟨rfl, ht, hd⟩ | ⟨v, ty, rfl, ht, hn, hd⟩ | ⟨v, rfl, ht, hd⟩ | ⟨v, rt, rfl, hv, ht, hrt, hd⟩
  · exact W.vret B.exec B.bytes (B.returns.trans ht) (fun t ht hW => ⟨⟨none, g', σ', ρ', rfl, hq, h3, h4, by rw [ht]; exact h5, h6⟩, h7.F ht⟩) h7.2.2 hd
  · exact W.zret B.exec B.bytes (B.returns.trans ht) hn (fun t ht hW => ⟨⟨some (.int v), g', σ', ρ', rfl, hq, h3, h4, by rw [ht]; exact h5, h6⟩, h7.F ht⟩) h7.2.2 hd
  · exact W.lret B.exec B.bytes (B.returns.trans ht) (fun t ht hW => ⟨⟨some (.long v), g', σ', ρ', rfl, hq, h3, h4, by rw [ht]; exact h5, h6⟩, h7.F ht⟩) h7.2.2 hd
  · exact W.aret B.exec B.bytes (B.returns.trans ht) hrt (by rcases hv with rfl | ⟨a, rfl⟩; exact Or.inl rfl; exact Or.inr ⟨_, rfl⟩) (fun t ht hW => ⟨⟨some v, g', σ', ρ', rfl, hq, h3, h4, by rw [ht]; exact h5, h6⟩, h7.F ht⟩) h7.2.2 hd

theorem x_acmp_eq {Y : zM} {d kc ks pc : Nat} {L S : List Value} {g : zG} {σ : zI} {Q : Option Value → zG → zI → Prop} {x y : Nat} {off : Int} {tgt : Nat} (hd : decode Y.2.1 pc = .ok (.if_acmp .eq off, 3)) (hx : x < g.1) (hy : y < g.1) (ht : (pc : Int) + off = (tgt : Int)) (k1 : x = y → zX Y d kc ks (tgt) L (S) g σ Q) (k2 : ¬ x = y → zX Y d kc ks (pc + 3) L (S) g σ Q) : zX Y d kc ks (pc) L (.ref y :: .ref x :: S) g σ Q := by
  intro p l e R s m args below meth c H locs cells slots Q2 dC dI cy ρ A ls hC hRO hK hA hc hs hw hl hP hD hS ret
  have hinj : some (ρ x) = some (ρ y) → x = y := fun q => hD.1 x y _ _ (zW_get hx) (zW_get hy) (Option.some.inj q)
  have hcon : x = y → some (ρ x) = some (ρ y) := fun q => by rw [q]
  exact lv_acmp_eq (rx := some (ρ x)) (ry := some (ρ y)) hC.1 hC.2.1 hd ht (fun q => (k1 (hinj q) p l e R s m args below meth c H locs cells slots Q2 dC dI cy ρ A ls hC hRO hK hA hc hs hw hl hP hD hS ret)) (fun q => (k2 (fun z => q (hcon z)) p l e R s m args below meth c H locs cells slots Q2 dC dI cy ρ A ls hC hRO hK hA hc hs hw hl hP hD hS ret))
theorem x_acmp_ne {Y : zM} {d kc ks pc : Nat} {L S : List Value} {g : zG} {σ : zI} {Q : Option Value → zG → zI → Prop} {x y : Nat} {off : Int} {tgt : Nat} (hd : decode Y.2.1 pc = .ok (.if_acmp .ne off, 3)) (hx : x < g.1) (hy : y < g.1) (ht : (pc : Int) + off = (tgt : Int)) (k1 : ¬ x = y → zX Y d kc ks (tgt) L (S) g σ Q) (k2 : x = y → zX Y d kc ks (pc + 3) L (S) g σ Q) : zX Y d kc ks (pc) L (.ref y :: .ref x :: S) g σ Q := by
  intro p l e R s m args below meth c H locs cells slots Q2 dC dI cy ρ A ls hC hRO hK hA hc hs hw hl hP hD hS ret
  have hinj : some (ρ x) = some (ρ y) → x = y := fun q => hD.1 x y _ _ (zW_get hx) (zW_get hy) (Option.some.inj q)
  have hcon : x = y → some (ρ x) = some (ρ y) := fun q => by rw [q]
  exact lv_acmp_ne (rx := some (ρ x)) (ry := some (ρ y)) hC.1 hC.2.1 hd ht (fun q => (k1 (fun z => q (hcon z)) p l e R s m args below meth c H locs cells slots Q2 dC dI cy ρ A ls hC hRO hK hA hc hs hw hl hP hD hS ret)) (fun q => (k2 (hinj q) p l e R s m args below meth c H locs cells slots Q2 dC dI cy ρ A ls hC hRO hK hA hc hs hw hl hP hD hS ret))
theorem x_strV {Y : zM} {d kc ks pc : Nat} {L S : List Value} {g : zG} {σ : zI} {Q : Option Value → zG → zI → Prop} {idx i : Nat} (hd : decode Y.2.1 pc = .ok (.getfield idx, 3)) (hi : i < zNS) (h1 : Cond.fieldLink Y.1.cls idx "java/lang/String" "value" "[B" ∈ zT) (k : zX Y d kc ks (pc + 3) L (.ref (2000 + i) :: S) g σ Q) : zX Y d kc ks (pc) L (.ref (1000 + i) :: S) g σ Q := by
  intro p l e R s m args below meth c H locs cells slots Q2 dC dI cy ρ A ls hC hRO hK hA hc hs hw hl hP hD hS ret
  exact vk_getf hC.1 hC.2.1 (hRO.2.1.1 i hi).2.2.1 hS hC.2.2.2.2.2.2.1 (hC.2.2.2.2.2.1 _ h1) (fun _ h => h) hd (k p l e R s m args below meth c H locs cells slots Q2 dC dI cy ρ A ls hC hRO hK hA hc hs hw hl hP hD hS ret)
theorem x_strC {Y : zM} {d kc ks pc : Nat} {L S : List Value} {g : zG} {σ : zI} {Q : Option Value → zG → zI → Prop} {idx i : Nat} (hd : decode Y.2.1 pc = .ok (.getfield idx, 3)) (hi : i < zNS) (h1 : Cond.fieldLink Y.1.cls idx "java/lang/String" "coder" "B" ∈ zT) (k : zX Y d kc ks (pc + 3) L (.int 0 :: S) g σ Q) : zX Y d kc ks (pc) L (.ref (1000 + i) :: S) g σ Q := by
  intro p l e R s m args below meth c H locs cells slots Q2 dC dI cy ρ A ls hC hRO hK hA hc hs hw hl hP hD hS ret
  exact vk_getf hC.1 hC.2.1 (hRO.2.1.1 i hi).2.1 hS hC.2.2.2.2.2.2.1 (hC.2.2.2.2.2.1 _ h1) (fun _ h => h) hd (k p l e R s m args below meth c H locs cells slots Q2 dC dI cy ρ A ls hC hRO hK hA hc hs hw hl hP hD hS ret)
theorem x_strA {Y : zM} {d kc ks pc : Nat} {L S : List Value} {g : zG} {σ : zI} {Q : Option Value → zG → zI → Prop} {i : Nat} {j : Int32} (hd : decode Y.2.1 pc = .ok (.baload, 1)) (hi : i < zNS) (hj : vp_in j (zlen.getD i 0)) (k : zX Y d kc ks (pc + 1) L (.int ((zbyt.getD i []).getD j.toNatClampNeg 0) :: S) g σ Q) : zX Y d kc ks (pc) L (.int j :: .ref (2000 + i) :: S) g σ Q := by
  intro p l e R s m args below meth c H locs cells slots Q2 dC dI cy ρ A ls hC hRO hK hA hc hs hw hl hP hD hS ret
  exact va_tb hC.1 hC.2.1 (hRO.2.1.1 i hi).2.2.2 hS hj rfl hd (k p l e R s m args below meth c H locs cells slots Q2 dC dI cy ρ A ls hC hRO hK hA hc hs hw hl hP hD hS ret)
theorem x_strL {Y : zM} {d kc ks pc : Nat} {L S : List Value} {g : zG} {σ : zI} {Q : Option Value → zG → zI → Prop} {i : Nat} (hd : decode Y.2.1 pc = .ok (.arraylength, 1)) (hi : i < zNS) (k : zX Y d kc ks (pc + 1) L (.int (nI (zlen.getD i 0)) :: S) g σ Q) : zX Y d kc ks (pc) L (.ref (2000 + i) :: S) g σ Q := by
  intro p l e R s m args below meth c H locs cells slots Q2 dC dI cy ρ A ls hC hRO hK hA hc hs hw hl hP hD hS ret
  exact va_tlen hC.1 hC.2.1 (hRO.2.1.1 i hi).2.2.2 hS rfl hd (k p l e R s m args below meth c H locs cells slots Q2 dC dI cy ρ A ls hC hRO hK hA hc hs hw hl hP hD hS ret)
theorem x_gets {Y : zM} {d kc ks pc : Nat} {L S : List Value} {g : zG} {σ : zI} {Q : Option Value → zG → zI → Prop} {idx : Nat} (hd : decode Y.2.1 pc = .ok (.getstatic idx, 3)) (h1 : Cond.fieldLink Y.1.cls idx "java/lang/String" "COMPACT_STRINGS" "Z" ∈ zT) (k : zX Y d kc ks (pc + 3) L (.int 1 :: S) g σ Q) : zX Y d kc ks (pc) L (S) g σ Q := by
  intro p l e R s m args below meth c H locs cells slots Q2 dC dI cy ρ A ls hC hRO hK hA hc hs hw hl hP hD hS ret
  exact va_gets hC.1 hC.2.1 hRO.2.2.2.1 hS hC.2.2.2.2.2.2.1 (hC.2.2.2.2.2.1 _ h1) (fun _ h => h) hd (k p l e R s m args below meth c H locs cells slots Q2 dC dI cy ρ A ls hC hRO hK hA hc hs hw hl hP hD hS ret)
theorem x_getsQ {Y : zM} {d kc ks pc : Nat} {L S : List Value} {g : zG} {σ : zI} {Q : Option Value → zG → zI → Prop} {idx : Nat} (hd : decode Y.2.1 pc = .ok (.getstatic idx, 3)) (h1 : Cond.fieldLink Y.1.cls idx zSIO "SIOOBE_FORMATTER" "Ljava/util/function/BiFunction;" ∈ zT) (k : ∀ v : Value, v.category = 1 → zX Y d kc ks (pc + 3) L (v :: S) g σ Q) : zX Y d kc ks (pc) L (S) g σ Q := by
  intro p l e R s m args below meth c H locs cells slots Q2 dC dI cy ρ A ls hC hRO hK hA hc hs hw hl hP hD hS ret
  rcases hRO.2.2.2.2.1 with hZ | hZ
  · exact va_gets hC.1 hC.2.1 hZ hS hC.2.2.2.2.2.2.1 (hC.2.2.2.2.2.1 _ h1) (fun _ h => h) hd (k .null rfl p l e R s m args below meth c H locs cells slots Q2 dC dI cy ρ A ls hC hRO hK hA hc hs hw hl hP hD hS ret)
  · exact va_gets hC.1 hC.2.1 hZ hS hC.2.2.2.2.2.2.1 (hC.2.2.2.2.2.1 _ h1) (fun _ h => h) hd (k (.ref 4000) rfl p l e R s m args below meth c H locs cells slots Q2 dC dI cy ρ A ls hC hRO hK hA hc hs hw hl hP hD hS ret)
theorem x_xld {Y : zM} {d kc ks pc : Nat} {L S : List Value} {g : zG} {σ : zI} {Q : Option Value → zG → zI → Prop} {n : Nat} {j : Int32} (hd : decode Y.2.1 pc = .ok (.iaload, 1)) (hg : g.2.1 3000 = (9, 0, n)) (hj : vp_in j n) (k : zX Y d kc ks (pc + 1) L (.int (σ 3000 j.toNatClampNeg) :: S) g σ Q) : zX Y d kc ks (pc) L (.int j :: .ref 3000 :: S) g σ Q := by
  intro p l e R s m args below meth c H locs cells slots Q2 dC dI cy ρ A ls hC hRO hK hA hc hs hw hl hP hD hS ret
  obtain ⟨q1, q2, q3⟩ := hRO.2.2.2.2.2.2.2.2 n hg
  exact va_sld hC.1 hC.2.1 q1 q2 q3 hS hj hd (k p l e R s m args below meth c H locs cells slots Q2 dC dI cy ρ A ls hC hRO hK hA hc hs hw hl hP hD hS ret)
theorem x_xlen {Y : zM} {d kc ks pc : Nat} {L S : List Value} {g : zG} {σ : zI} {Q : Option Value → zG → zI → Prop} {n : Nat} (hd : decode Y.2.1 pc = .ok (.arraylength, 1)) (hg : g.2.1 3000 = (9, 0, n)) (k : zX Y d kc ks (pc + 1) L (.int (nI n) :: S) g σ Q) : zX Y d kc ks (pc) L (.ref 3000 :: S) g σ Q := by
  intro p l e R s m args below meth c H locs cells slots Q2 dC dI cy ρ A ls hC hRO hK hA hc hs hw hl hP hD hS ret
  obtain ⟨q1, q2, q3⟩ := hRO.2.2.2.2.2.2.2.2 n hg
  exact va_slen hC.1 hC.2.1 q1 q2 q3 hS hd (k p l e R s m args below meth c H locs cells slots Q2 dC dI cy ρ A ls hC hRO hK hA hc hs hw hl hP hD hS ret)
theorem x_aloadV {Y : zM} {d kc ks pc : Nat} {L S : List Value} {g : zG} {σ : zI} {Q : Option Value → zG → zI → Prop} {i : Nat} {v : Value} (hd : decode Y.2.1 pc = .ok (.aload i, 2)) (hr : v = .null ∨ ∃ a, v = .ref a) (hv : L[i]? = some v) (k : zX Y d kc ks (pc + 2) L (v :: S) g σ Q) : zX Y d kc ks (pc) L (S) g σ Q := by
  intro p l e R s m args below meth c H locs cells slots Q2 dC dI cy ρ A ls hC hRO hK hA hc hs hw hl hP hD hS ret
  rcases hr with rfl | ⟨a, rfl⟩
  · exact lv_aloadN hC.1 hC.2.1 hd (zL_at hl hv (by simp [zv])) (k p l e R s m args below meth c H locs cells slots Q2 dC dI cy ρ A ls hC hRO hK hA hc hs hw hl hP hD hS ret)
  · exact lv_aload hC.1 hC.2.1 hd (zL_at hl hv (by simp [zv])) (k p l e R s m args below meth c H locs cells slots Q2 dC dI cy ρ A ls hC hRO hK hA hc hs hw hl hP hD hS ret)

theorem zfv_def_all : ∀ c, c < 9 → ∀ k, k < zNF c → defaultValue (zft c k) = zfv (fun x => x) (zfk c k) none 0 := by decide +kernel
theorem zfv_none (ρ ρ' : Nat → Nat) (k : Nat) : zfv ρ k none 0 = zfv ρ' k none 0 := by
  unfold zfv
  split <;> rfl
def zρ (ρ : Nat → Nat) (n q : Nat) : Nat → Nat := fun j => if j = n then q else ρ j
theorem zρ_lt {ρ : Nat → Nat} {n q i : Nat} (h : i ≠ n) : zρ ρ n q i = ρ i := if_neg h
theorem zρ_eq {ρ : Nat → Nat} {n q : Nat} : zρ ρ n q n = q := if_pos rfl
theorem zWf_N {g : zG} {σ : zI} {sh : Nat × Nat × Nat} (h : zWf g σ) (hn : g.1 < 1000) : zWf (zsN g sh (fun _ => none)) (zs0 σ g.1) := by
  refine ⟨fun i k x hi hx => ?_, fun i k x hi h0 h2 hx => ?_, hn⟩
  · have hx : (if i = g.1 then (fun _ => none) else g.2.2 i) k = some x := hx
    by_cases e : i = g.1
    · rw [if_pos e] at hx
      cases hx
    · rw [if_neg e] at hx
      have hi : i < g.1 + 1 := hi
      have := h.1 i k x (by omega) hx
      exact Nat.lt_succ_of_lt this
  · have hx : zdr ((if i = g.1 then (fun _ => 0) else σ i) k) = some x := hx
    by_cases e : i = g.1
    · rw [if_pos e] at hx
      cases hx
    · rw [if_neg e] at hx
      have hi : i < g.1 + 1 := hi
      have e2 : (zsN g sh (fun _ => none)).2.1 i = g.2.1 i := if_neg e
      rw [e2] at h0 h2
      have := h.2.1 i k x (by omega) h0 h2 hx
      exact Nat.lt_succ_of_lt this
theorem zExt_N {kc : Nat} {g : zG} {σ : zI} {ρ : Nat → Nat} {sh : Nat × Nat × Nat} {r : Nat → Option Nat} {q : Nat} (hk : ¬ kc = 0) (hn : g.1 < 1000) : zExt kc g σ (zsN g sh r) (zs0 σ g.1) ρ (zρ ρ g.1 q) :=
  ⟨fun z => absurd z hk, Nat.le_succ _, fun i hi => zρ_lt (by omega), if_neg (by omega), if_neg (by omega)⟩
theorem zRO_N {ρ : Nat → Nat} {g : zG} {σ : zI} {A : Nat → Prop} {U : State} {H : Heap} {sh : Nat × Nat × Nat} {r : Nat → Option Nat} {q : Nat} (hn : g.1 < 1000) (h : zRO ρ g σ A U H) : zRO (zρ ρ g.1 q) (zsN g sh r) (zs0 σ g.1) A U H :=
  zRO_set h (fun i hi => zρ_lt (by omega)) (if_neg (by omega)) (if_neg (by omega))
theorem zW_N {ρ : Nat → Nat} {cy : Nat → ClassId} {g : zG} {σ : zI} {sh : Nat × Nat × Nat} {q : Nat} {e : va_E} (hw : zWf g σ) (he : e = zC (zρ ρ g.1 q) cy sh (fun _ => none) (fun _ => 0)) : zW ρ cy g σ ++ [(q, e)] = zW (zρ ρ g.1 q) cy (zsN g sh (fun _ => none)) (zs0 σ g.1) := by
  refine zW_push rfl zρ_eq ?_ (fun j hj => ⟨zρ_lt (by omega), ?_⟩)
  · simpa [zsN, zs0] using he
  · have e1 : (zsN g sh (fun _ => none)).2.1 j = g.2.1 j := if_neg (by omega)
    have e2 : (zsN g sh (fun _ => none)).2.2 j = g.2.2 j := if_neg (by omega)
    have e3 : zs0 σ g.1 j = σ j := if_neg (by omega)
    rw [e1, e2, e3]
    exact zC_ρ hw (fun i hi => zρ_lt (by omega)) hj

theorem x_new {Y : zM} {d kc ks pc : Nat} {L S : List Value} {g : zG} {σ : zI} {Q : Option Value → zG → zI → Prop} {idx ci N : Nat} {C : String} {T : u_T} (hd : decode Y.2.1 pc = .ok (.new idx, 3)) (hq : vwCl[ci]? = some (C, T, N)) (h1 : Cond.classLink Y.1.cls idx C ∈ zT) (hn : g.1 < 1000) (hLs : L.all (zokv g.1) = true) (hSs : S.all (zokv g.1) = true) {kc2 ks2 : Nat} (hkc : kc2 + 1 = kc) (hks : ks2 + N = ks) (kk : zX Y d kc2 ks2 (pc + 3) L (.ref g.1 :: S) (zsN g (0, ci, 0) (fun _ => none)) (zs0 σ g.1) Q) : zX Y d kc ks (pc) L (S) g σ Q := by
  intro p l e R s m args below meth c H locs cells slots Q2 dC dI cy ρ A ls hC hRO hK hA hc hs hw hl hP hD hS ret
  have hcl := zcls ci C T N hq
  have hci : ci < 9 := (List.getElem?_eq_some_iff.mp hq).1
  refine va_new hC.1 hC.2.1 hC.2.2.2.2.2.1 hcl.1 (zft ci) hcl.2.1 hC.2.2.2.2.2.2.1 (hC.2.2.2.2.2.1 _ h1) (hC.2.2.2.2.2.1 _ hcl.2.2.2.2.1) (hC.2.2.2.2.2.1 _ hcl.2.2.2.2.2.1) hK hP hD hS hA hq (fs := zF ρ ci (fun _ => none) (fun _ => 0)) (fun j hj => ?_) (by omega) (by omega) hd (fun q H1 hP1 hD1 hS1 => ?_)
  · show _ = (zF ρ ci (fun _ => none) (fun _ => 0)).getD j .null
    rw [List.getD_eq_getElem?_getD, zF_get (by rw [hcl.2.2.2.1]; exact hj), zfv_def_all ci hci j (by rw [hcl.2.2.2.1]; exact hj)]
    exact zfv_none _ _ _
  · rw [zW_N (sh := (0, ci, 0)) (e := .inr (ci, zF ρ ci (fun _ => none) (fun _ => 0))) hw (by
        show _ = Sum.inr (ci, zF _ ci _ _)
        refine congrArg (fun l => Sum.inr (ci, l)) ?_
        unfold zF
        exact List.map_congr_left (fun k _ => zfv_none _ _ _))] at hP1 hD1
    have hz1 := zv_ext (ρ := ρ) (ρ' := zρ ρ g.1 q) (n := g.1) (fun i hi => zρ_lt (by omega)) hLs
    have hz2 := zv_ext (ρ := ρ) (ρ' := zρ ρ g.1 q) (n := g.1) (fun i hi => zρ_lt (by omega)) hSs
    have hst : Value.ref q :: S.map (zv ρ) = (.ref g.1 :: S).map (zv (zρ ρ g.1 q)) := by
      show _ = Value.ref (zρ ρ g.1 q g.1) :: S.map (zv (zρ ρ g.1 q))
      rw [zρ_eq, hz2]
    rw [hst]
    exact (kk p l e R s m args below meth c H1 locs (cells + 1) (slots + N) Q2 dC dI cy (zρ ρ g.1 q) A ls hC (zRO_N hn hRO) hK hA (by omega) (by omega) (zWf_N hw hn) (by rw [hz1]; exact hl) hP1 hD1 hS1 (zRT_st ret (zExt_N (by omega) hn) (by omega)))
theorem x_newi {Y : zM} {d kc ks pc : Nat} {L S : List Value} {g : zG} {σ : zI} {Q : Option Value → zG → zI → Prop} {n : Int32} {N : Nat} (hd : decode Y.2.1 pc = .ok (.newarray .int, 2)) (h1 : Cond.arrayClass .int ∈ zT) (hn0 : ¬ n < 0) (hN : n.toNatClampNeg = N) (hN2 : N ≤ 1000000) (hn : g.1 < 1000) (hLs : L.all (zokv g.1) = true) (hSs : S.all (zokv g.1) = true) {kc2 ks2 : Nat} (hkc : kc2 + 1 = kc) (hks : ks2 + N = ks) (kk : zX Y d kc2 ks2 (pc + 2) L (.ref g.1 :: S) (zsN g (1, 0, N) (fun _ => none)) (zs0 σ g.1) Q) : zX Y d kc ks (pc) L (.int n :: S) g σ Q := by
  intro p l e R s m args below meth c H locs cells slots Q2 dC dI cy ρ A ls hC hRO hK hA hc hs hw hl hP hD hS ret
  refine va_newa (atype := .int) (ty := .int) (a0 := (N, .inl (fun _ => 0))) hC.1 hC.2.1 (hC.2.2.2.2.2.1 _ h1) rfl hK hP hD hS hA (fun cA => rfl) hn0 hN (by show N * 4 ≤ _; omega) (by omega) (by omega) hd (fun q cA H1 hK1 hP1 hD1 hS1 => ?_)
  have ecA : cA = cy 0 := by
    have z1 := (hK1.2 5 _ rfl).2
    have z2 := (hK.2 0 _ rfl).2
    exact Option.some.inj (z1.symm.trans z2)
  subst ecA
  rw [zW_N (sh := (1, 0, N)) (e := .inl (cy 0, N, .inl (fun _ => 0))) hw rfl] at hP1 hD1
  have hz1 := zv_ext (ρ := ρ) (ρ' := zρ ρ g.1 q) (n := g.1) (fun i hi => zρ_lt (by omega)) hLs
  have hz2 := zv_ext (ρ := ρ) (ρ' := zρ ρ g.1 q) (n := g.1) (fun i hi => zρ_lt (by omega)) hSs
  have hst : Value.ref q :: S.map (zv ρ) = (.ref g.1 :: S).map (zv (zρ ρ g.1 q)) := by
    show _ = Value.ref (zρ ρ g.1 q g.1) :: S.map (zv (zρ ρ g.1 q))
    rw [zρ_eq, hz2]
  rw [hst]
  exact (kk p l e R s m args below meth c H1 locs (cells + 1) (slots + N) Q2 dC dI cy (zρ ρ g.1 q) A ls hC (zRO_N hn hRO) hK hA (by omega) (by omega) (zWf_N hw hn) (by rw [hz1]; exact hl) hP1 hD1 hS1 (zRT_st ret (zExt_N (by omega) hn) (by omega)))
theorem x_newz {Y : zM} {d kc ks pc : Nat} {L S : List Value} {g : zG} {σ : zI} {Q : Option Value → zG → zI → Prop} {n : Int32} {N : Nat} (hd : decode Y.2.1 pc = .ok (.newarray .boolean, 2)) (h1 : Cond.arrayClass .boolean ∈ zT) (hn0 : ¬ n < 0) (hN : n.toNatClampNeg = N) (hN2 : N ≤ 1000000) (hn : g.1 < 1000) (hLs : L.all (zokv g.1) = true) (hSs : S.all (zokv g.1) = true) {kc2 ks2 : Nat} (hkc : kc2 + 1 = kc) (hks : ks2 + N = ks) (kk : zX Y d kc2 ks2 (pc + 2) L (.ref g.1 :: S) (zsN g (2, 0, N) (fun _ => none)) (zs0 σ g.1) Q) : zX Y d kc ks (pc) L (.int n :: S) g σ Q := by
  intro p l e R s m args below meth c H locs cells slots Q2 dC dI cy ρ A ls hC hRO hK hA hc hs hw hl hP hD hS ret
  refine va_newa (atype := .boolean) (ty := .boolean) (a0 := (N, .inl (fun _ => 0))) hC.1 hC.2.1 (hC.2.2.2.2.2.1 _ h1) rfl hK hP hD hS hA (fun cA => rfl) hn0 hN (by show N * 1 ≤ _; omega) (by omega) (by omega) hd (fun q cA H1 hK1 hP1 hD1 hS1 => ?_)
  have ecA : cA = cy 1 := by
    have z1 := (hK1.2 5 _ rfl).2
    have z2 := (hK.2 1 _ rfl).2
    exact Option.some.inj (z1.symm.trans z2)
  subst ecA
  rw [zW_N (sh := (2, 0, N)) (e := .inl (cy 1, N, .inl (fun _ => 0))) hw rfl] at hP1 hD1
  have hz1 := zv_ext (ρ := ρ) (ρ' := zρ ρ g.1 q) (n := g.1) (fun i hi => zρ_lt (by omega)) hLs
  have hz2 := zv_ext (ρ := ρ) (ρ' := zρ ρ g.1 q) (n := g.1) (fun i hi => zρ_lt (by omega)) hSs
  have hst : Value.ref q :: S.map (zv ρ) = (.ref g.1 :: S).map (zv (zρ ρ g.1 q)) := by
    show _ = Value.ref (zρ ρ g.1 q g.1) :: S.map (zv (zρ ρ g.1 q))
    rw [zρ_eq, hz2]
  rw [hst]
  exact (kk p l e R s m args below meth c H1 locs (cells + 1) (slots + N) Q2 dC dI cy (zρ ρ g.1 q) A ls hC (zRO_N hn hRO) hK hA (by omega) (by omega) (zWf_N hw hn) (by rw [hz1]; exact hl) hP1 hD1 hS1 (zRT_st ret (zExt_N (by omega) hn) (by omega)))
theorem x_anew3 {Y : zM} {d kc ks pc : Nat} {L S : List Value} {g : zG} {σ : zI} {Q : Option Value → zG → zI → Prop} {idx : Nat} {n : Int32} {N : Nat} (hd : decode Y.2.1 pc = .ok (.anewarray idx, 3)) (h1 : Cond.classLink Y.1.cls idx RX0 ∈ zT) (hn0 : ¬ n < 0) (hN : n.toNatClampNeg = N) (hN2 : N ≤ 1000000) (hn : g.1 < 1000) (hLs : L.all (zokv g.1) = true) (hSs : S.all (zokv g.1) = true) {kc2 ks2 : Nat} (hkc : kc2 + 1 = kc) (hks : ks2 + N = ks) (kk : zX Y d kc2 ks2 (pc + 3) L (.ref g.1 :: S) (zsN g (3, 0, N) (fun _ => none)) (zs0 σ g.1) Q) : zX Y d kc ks (pc) L (.int n :: S) g σ Q := by
  intro p l e R s m args below meth c H locs cells slots Q2 dC dI cy ρ A ls hC hRO hK hA hc hs hw hl hP hD hS ret
  refine va_newq (C := RX0) hC.1 hC.2.1 hC.2.2.2.2.2.2.1 (hC.2.2.2.2.2.1 _ h1) hRO.2.2.2.2.2.1 hK hP hD hS hA hn0 hN (by omega) (by omega) (by omega) hd (fun q cA H1 hK1 hP1 hD1 hS1 => ?_)
  have ecA : cA = cy 2 := by
    obtain ⟨k1, p1, -, -, -, z1⟩ := (hK1.2 5 _ rfl).2
    obtain ⟨k2, p2, -, -, -, z2⟩ := (hK.2 2 _ rfl).2
    exact Option.some.inj (z1.symm.trans z2)
  subst ecA
  rw [zW_N (sh := (3, 0, N)) (e := .inl (cy 2, N, .inr (.inr (.inr (.inr (fun _ => none)))))) hw rfl] at hP1 hD1
  have hz1 := zv_ext (ρ := ρ) (ρ' := zρ ρ g.1 q) (n := g.1) (fun i hi => zρ_lt (by omega)) hLs
  have hz2 := zv_ext (ρ := ρ) (ρ' := zρ ρ g.1 q) (n := g.1) (fun i hi => zρ_lt (by omega)) hSs
  have hst : Value.ref q :: S.map (zv ρ) = (.ref g.1 :: S).map (zv (zρ ρ g.1 q)) := by
    show _ = Value.ref (zρ ρ g.1 q g.1) :: S.map (zv (zρ ρ g.1 q))
    rw [zρ_eq, hz2]
  rw [hst]
  exact (kk p l e R s m args below meth c H1 locs (cells + 1) (slots + N) Q2 dC dI cy (zρ ρ g.1 q) A ls hC (zRO_N hn hRO) hK hA (by omega) (by omega) (zWf_N hw hn) (by rw [hz1]; exact hl) hP1 hD1 hS1 (zRT_st ret (zExt_N (by omega) hn) (by omega)))
theorem x_anew4 {Y : zM} {d kc ks pc : Nat} {L S : List Value} {g : zG} {σ : zI} {Q : Option Value → zG → zI → Prop} {idx : Nat} {n : Int32} {N : Nat} (hd : decode Y.2.1 pc = .ok (.anewarray idx, 3)) (h1 : Cond.classLink Y.1.cls idx RX5 ∈ zT) (hn0 : ¬ n < 0) (hN : n.toNatClampNeg = N) (hN2 : N ≤ 1000000) (hn : g.1 < 1000) (hLs : L.all (zokv g.1) = true) (hSs : S.all (zokv g.1) = true) {kc2 ks2 : Nat} (hkc : kc2 + 1 = kc) (hks : ks2 + N = ks) (kk : zX Y d kc2 ks2 (pc + 3) L (.ref g.1 :: S) (zsN g (4, 0, N) (fun _ => none)) (zs0 σ g.1) Q) : zX Y d kc ks (pc) L (.int n :: S) g σ Q := by
  intro p l e R s m args below meth c H locs cells slots Q2 dC dI cy ρ A ls hC hRO hK hA hc hs hw hl hP hD hS ret
  refine va_newq (C := RX5) hC.1 hC.2.1 hC.2.2.2.2.2.2.1 (hC.2.2.2.2.2.1 _ h1) hRO.2.2.2.2.2.2.1 hK hP hD hS hA hn0 hN (by omega) (by omega) (by omega) hd (fun q cA H1 hK1 hP1 hD1 hS1 => ?_)
  have ecA : cA = cy 3 := by
    obtain ⟨k1, p1, -, -, -, z1⟩ := (hK1.2 5 _ rfl).2
    obtain ⟨k2, p2, -, -, -, z2⟩ := (hK.2 3 _ rfl).2
    exact Option.some.inj (z1.symm.trans z2)
  subst ecA
  rw [zW_N (sh := (4, 0, N)) (e := .inl (cy 3, N, .inr (.inr (.inr (.inr (fun _ => none)))))) hw rfl] at hP1 hD1
  have hz1 := zv_ext (ρ := ρ) (ρ' := zρ ρ g.1 q) (n := g.1) (fun i hi => zρ_lt (by omega)) hLs
  have hz2 := zv_ext (ρ := ρ) (ρ' := zρ ρ g.1 q) (n := g.1) (fun i hi => zρ_lt (by omega)) hSs
  have hst : Value.ref q :: S.map (zv ρ) = (.ref g.1 :: S).map (zv (zρ ρ g.1 q)) := by
    show _ = Value.ref (zρ ρ g.1 q g.1) :: S.map (zv (zρ ρ g.1 q))
    rw [zρ_eq, hz2]
  rw [hst]
  exact (kk p l e R s m args below meth c H1 locs (cells + 1) (slots + N) Q2 dC dI cy (zρ ρ g.1 q) A ls hC (zRO_N hn hRO) hK hA (by omega) (by omega) (zWf_N hw hn) (by rw [hz1]; exact hl) hP1 hD1 hS1 (zRT_st ret (zExt_N (by omega) hn) (by omega)))

theorem zW_setR {ρ : Nat → Nat} {cy : Nat → ClassId} {g : zG} {σ : zI} {i t n k : Nat} {x : Option Nat} (ha : zAr g i (t + 3) n) : (zW ρ cy g σ).set i (ρ i, .inl (cy (t + 2), n, .inr (.inr (.inr (.inr (va_up (fun j => (g.2.2 i j).map ρ) k (x.map ρ))))))) = zW ρ cy (zsR g i k x) σ := by
  refine zW_set ha.1 rfl ?_ (fun j hj => ?_)
  · show _ = zC ρ cy (g.2.1 i) ((zsR g i k x).2.2 i) (σ i)
    rw [ha.2]
    have e : va_up (fun j => (g.2.2 i j).map ρ) k (x.map ρ) = fun j => ((zsR g i k x).2.2 i j).map ρ := by
      funext j
      by_cases e : j = k <;> simp [va_up, zsR, e]
    rw [e]
    rfl
  · show zC ρ cy (g.2.1 j) ((zsR g i k x).2.2 j) (σ j) = _
    have e : (zsR g i k x).2.2 j = g.2.2 j := by funext a; simp [zsR, hj]
    rw [e]

theorem x_aast3 {Y : zM} {d kc ks pc : Nat} {L S : List Value} {g : zG} {σ : zI} {Q : Option Value → zG → zI → Prop} {id n r : Nat} {i : Int32} (hd : decode Y.2.1 pc = .ok (.aastore, 1)) (ha : zAr g id 3 n) (hi : vp_in i n) (ho : zOb g r 0) (kk : zX Y d kc ks (pc + 1) L (S) (zsR g id i.toNatClampNeg (some r)) σ Q) : zX Y d kc ks (pc) L (.ref r :: .int i :: .ref id :: S) g σ Q := by
  intro p l e R s m args below meth c H locs cells slots Q2 dC dI cy ρ A ls hC hRO hK hA hc hs hw hl hP hD hS ret
  refine va_astq (r := (RX0, TX0, 4)) hC.1 hC.2.1 hK hP hD hS id 2 r 0 (zW_arq (t := 0) ha) rfl (zW_ob ho) rfl hi hd (fun H1 locs1 hP1 hD1 hS1 => ?_)
  have hEQ := zW_setR (ρ := ρ) (cy := cy) (σ := σ) (t := 0) (k := i.toNatClampNeg) (x := some r) ha
  have hP1 : va_P (dC, dI) vwCl (zW ρ cy (zsR g id i.toNatClampNeg (some r)) σ) H1 := by rw [← hEQ]; exact hP1
  have hD1 : va_D A (zW ρ cy (zsR g id i.toNatClampNeg (some r)) σ) := by rw [← hEQ]; exact hD1
  exact (kk p l e R s m args below meth c H1 locs1 cells slots Q2 dC dI cy ρ A ls hC (zRO_R hRO) hK hA hc hs (zWf_R hw (fun y hy => by cases hy; exact ho.1)) hl hP1 hD1 hS1 (zRT_st ret zExt_R (fun q => q)))
theorem x_aast4 {Y : zM} {d kc ks pc : Nat} {L S : List Value} {g : zG} {σ : zI} {Q : Option Value → zG → zI → Prop} {id n r : Nat} {i : Int32} (hd : decode Y.2.1 pc = .ok (.aastore, 1)) (ha : zAr g id 4 n) (hi : vp_in i n) (ho : zOb g r 5) (kk : zX Y d kc ks (pc + 1) L (S) (zsR g id i.toNatClampNeg (some r)) σ Q) : zX Y d kc ks (pc) L (.ref r :: .int i :: .ref id :: S) g σ Q := by
  intro p l e R s m args below meth c H locs cells slots Q2 dC dI cy ρ A ls hC hRO hK hA hc hs hw hl hP hD hS ret
  refine va_astq (r := (RX5, TX5, 3)) hC.1 hC.2.1 hK hP hD hS id 3 r 5 (zW_arq (t := 1) ha) rfl (zW_ob ho) rfl hi hd (fun H1 locs1 hP1 hD1 hS1 => ?_)
  have hEQ := zW_setR (ρ := ρ) (cy := cy) (σ := σ) (t := 1) (k := i.toNatClampNeg) (x := some r) ha
  have hP1 : va_P (dC, dI) vwCl (zW ρ cy (zsR g id i.toNatClampNeg (some r)) σ) H1 := by rw [← hEQ]; exact hP1
  have hD1 : va_D A (zW ρ cy (zsR g id i.toNatClampNeg (some r)) σ) := by rw [← hEQ]; exact hD1
  exact (kk p l e R s m args below meth c H1 locs1 cells slots Q2 dC dI cy ρ A ls hC (zRO_R hRO) hK hA hc hs (zWf_R hw (fun y hy => by cases hy; exact ho.1)) hl hP1 hD1 hS1 (zRT_st ret zExt_R (fun q => q)))

def zsC (σ : zI) (i j : Nat) (sp dp n : Nat) : zI := fun a => if a = j then va_cpy (σ i) (σ j) sp dp n else σ a

theorem x_copy {Y : zM} {d kc ks pc : Nat} {L S : List Value} {g : zG} {σ : zI} {Q : Option Value → zG → zI → Prop} {idx id jd n1 n2 : Nat} {sp dp n : Int32} (hd : decode Y.2.1 pc = .ok (.invokestatic idx, 3)) (h1 : Cond.methodLink Y.1.cls idx arraycopyName ∈ zT) (h2 : Cond.native arraycopyName ∈ zT) (h3 : Cond.static arraycopyName ∈ zT) (h4 : Cond.initialized "java/lang/System" ∈ zT) (ha : zAr g id 1 n1) (hb1 : zAr g jd 1 n2) (s1 : ¬ sp < 0) (s2 : ¬ dp < 0) (s3 : ¬ n < 0) (s4 : sp.toNatClampNeg + n.toNatClampNeg ≤ n1) (s5 : dp.toNatClampNeg + n.toNatClampNeg ≤ n2) (hcat : (S.map fun v => v.category).sum ≤ 8) (kk : zX Y (d + 1) kc ks (pc + 3) L (S) g (zsC σ id jd sp.toNatClampNeg dp.toNatClampNeg n.toNatClampNeg) Q) : zX Y (d + 1) kc ks (pc) L (.int n :: .int dp :: .ref jd :: .int sp :: .ref id :: S) g σ Q := by
  intro p l e R s m args below meth c H locs cells slots Q2 dC dI cy ρ A ls hC hRO hK hA hc hs hw hl hP hD hS ret
  have hdR2 : d + 1 ≤ R.frames := hC.2.2.2.2.2.2.2.2.1
  have hlR2 : 40 * (d + 1) ≤ R.locals := hC.2.2.2.2.2.2.2.2.2
  have hcat2 : (((S.map (zv ρ)).map fun v => v.category)).sum ≤ 8 := by
    rw [List.map_map, show ((fun v : Value => v.category) ∘ zv ρ) = fun v => v.category from funext fun v => zv_cat ρ v]
    exact hcat
  have hw1 : zWf g (zsC σ id jd sp.toNatClampNeg dp.toNatClampNeg n.toNatClampNeg) := by
    refine ⟨hw.1, fun a j y z1 z2 z3 z4 => ?_, hw.2.2⟩
    have e : a ≠ jd := fun e => by rw [e, hb1.2] at z2; cases z2
    have e3 : zsC σ id jd sp.toNatClampNeg dp.toNatClampNeg n.toNatClampNeg a = σ a := if_neg e
    rw [e3] at z4
    exact hw.2.1 a j y z1 z2 z3 z4
  have hlt := hb1.1
  have h1000 := hw.2.2
  have eN : nativeFrameWords "java/lang/System" "arraycopy" 5 + 11 ≤ 32 := by decide +kernel
  refine va_copyi hC.1 hC.2.1 (hC.2.2.1.trans hl.1.symm) hC.2.2.2.2.2.2.1 (hC.2.2.2.2.2.1 _ h1) (hC.2.2.2.2.2.1 _ h2) (hC.2.2.2.2.2.1 _ h3) (hC.2.2.2.2.2.1 _ h4) hK hP hD hS id jd 0 0 (zW_ar1 ha) (zW_ar1 hb1) rfl rfl rfl s1 s2 s3 s4 s5 (fun _ _ => rfl) (by omega) (by show (((S.map (zv ρ)).map fun v => v.category)).sum + _ ≤ _; omega) hd (fun H1 locs1 hP1 hD1 hS1 => ?_)
  have hEQ := zW_set (ρ := ρ) (cy := cy) (g := g) (σ := σ) (g' := g) (σ' := zsC σ id jd sp.toNatClampNeg dp.toNatClampNeg n.toNatClampNeg) (i := jd) (e := .inl (cy 0, n2, .inl (va_cpy (σ id) (σ jd) sp.toNatClampNeg dp.toNatClampNeg n.toNatClampNeg))) hb1.1 rfl (by rw [hb1.2]; show _ = Sum.inl (cy 0, n2, Sum.inl (zsC σ id jd _ _ _ jd)); rw [show zsC σ id jd sp.toNatClampNeg dp.toNatClampNeg n.toNatClampNeg jd = va_cpy (σ id) (σ jd) sp.toNatClampNeg dp.toNatClampNeg n.toNatClampNeg from if_pos rfl]) (fun j hj => by rw [show zsC σ id jd sp.toNatClampNeg dp.toNatClampNeg n.toNatClampNeg j = σ j from if_neg hj])
  rw [hEQ] at hP1 hD1
  exact (kk p l e R s m args below meth c H1 locs1 cells slots Q2 dC dI cy ρ A ls hC (zRO_set hRO (fun _ _ => rfl) rfl (if_neg (by omega))) hK hA hc hs hw1 hl hP1 hD1 hS1 (zRT_st ret ⟨fun _ => rfl, Nat.le_refl _, fun _ _ => rfl, rfl, if_neg (by omega)⟩ (fun q => q)))
