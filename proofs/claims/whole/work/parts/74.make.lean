/-! making: new T[n][m], and what is known of the world while the constructors run -/
def zsM (g : zG) (N K : Nat) : zG := (g.1 + 1 + N, (fun a => if a = g.1 then (5, 0, N) else if g.1 < a ∧ a < g.1 + 1 + N then (1, 0, K) else g.2.1 a), fun a => if a = g.1 then (fun j => if j < N then some (g.1 + 1 + j) else none) else if g.1 < a ∧ a < g.1 + 1 + N then (fun _ => none) else g.2.2 a)
def zs0M (σ : zI) (i N : Nat) : zI := fun a => if i ≤ a ∧ a < i + 1 + N then (fun _ => 0) else σ a
def zρM (ρ : Nat → Nat) (n q N : Nat) (r : Nat → Nat) : Nat → Nat := fun j => if j = n then q else if n < j ∧ j < n + 1 + N then r (j - n - 1) else ρ j
theorem zρM_lt {ρ : Nat → Nat} {n q N : Nat} {r : Nat → Nat} {i : Nat} (h : i < n ∨ n + 1 + N ≤ i) : zρM ρ n q N r i = ρ i := by
  unfold zρM
  rw [if_neg (by omega), if_neg (by omega)]
theorem zρM_row {ρ : Nat → Nat} {n q N : Nat} {r : Nat → Nat} {i : Nat} (h : i < N) : zρM ρ n q N r (n + 1 + i) = r i := by
  unfold zρM
  rw [if_neg (by omega), if_pos (by omega), show n + 1 + i - n - 1 = i by omega]
theorem zsM_lo {g : zG} {N K a : Nat} (h : a < g.1 ∨ g.1 + 1 + N ≤ a) : (zsM g N K).2.1 a = g.2.1 a ∧ (zsM g N K).2.2 a = g.2.2 a := by
  unfold zsM
  refine ⟨?_, ?_⟩
  · show (if a = g.1 then _ else if g.1 < a ∧ a < g.1 + 1 + N then _ else _) = _
    rw [if_neg (by omega), if_neg (by omega)]
  · show (if a = g.1 then _ else if g.1 < a ∧ a < g.1 + 1 + N then _ else _) = _
    rw [if_neg (by omega), if_neg (by omega)]
theorem zsM_at {g : zG} {N K : Nat} : (zsM g N K).2.1 g.1 = (5, 0, N) ∧ (zsM g N K).2.2 g.1 = fun j => if j < N then some (g.1 + 1 + j) else none := ⟨if_pos rfl, if_pos rfl⟩
theorem zsM_row {g : zG} {N K j : Nat} (h : j < N) : (zsM g N K).2.1 (g.1 + 1 + j) = (1, 0, K) ∧ (zsM g N K).2.2 (g.1 + 1 + j) = fun _ => none := by
  unfold zsM
  refine ⟨?_, ?_⟩
  · show (if g.1 + 1 + j = g.1 then _ else if g.1 < g.1 + 1 + j ∧ g.1 + 1 + j < g.1 + 1 + N then _ else _) = _
    rw [if_neg (by omega), if_pos (by omega)]
  · show (if g.1 + 1 + j = g.1 then _ else if g.1 < g.1 + 1 + j ∧ g.1 + 1 + j < g.1 + 1 + N then _ else _) = _
    rw [if_neg (by omega), if_pos (by omega)]
theorem zs0M_lo {σ : zI} {n N a : Nat} (h : a < n ∨ n + 1 + N ≤ a) : zs0M σ n N a = σ a := if_neg (by omega)
theorem zs0M_in {σ : zI} {n N a : Nat} (h : n ≤ a) (h2 : a < n + 1 + N) : zs0M σ n N a = fun _ => 0 := if_pos ⟨h, h2⟩
theorem zWf_M {g : zG} {σ : zI} {N K : Nat} (h : zWf g σ) (hn : g.1 + 1 + N ≤ 1000) : zWf (zsM g N K) (zs0M σ g.1 N) := by
  refine ⟨fun i k x hi hx => ?_, fun i k x hi h0 h2 hx => ?_, hn⟩
  · have hi : i < g.1 + 1 + N := hi
    show x < g.1 + 1 + N
    by_cases e : i = g.1
    · subst e
      rw [zsM_at.2] at hx
      replace hx : (if k < N then some (g.1 + 1 + k) else none) = some x := hx
      by_cases c : k < N
      · rw [if_pos c] at hx
        cases hx
        omega
      · rw [if_neg c] at hx
        cases hx
    · by_cases c : i < g.1
      · rw [(zsM_lo (Or.inl c)).2] at hx
        have := h.1 i k x c hx
        omega
      · obtain ⟨j, rfl⟩ : ∃ j, i = g.1 + 1 + j := ⟨i - g.1 - 1, by omega⟩
        rw [(zsM_row (by omega)).2] at hx
        cases hx
  · have hi : i < g.1 + 1 + N := hi
    show x < g.1 + 1 + N
    by_cases c : i < g.1
    · rw [(zsM_lo (Or.inl c)).1] at h0 h2
      rw [zs0M_lo (Or.inl c)] at hx
      have := h.2.1 i k x c h0 h2 hx
      omega
    · rw [zs0M_in (by omega) hi] at hx
      cases hx
theorem zW_M {ρ : Nat → Nat} {cy : Nat → ClassId} {g : zG} {σ : zI} {N K q : Nat} {r : Nat → Nat} (hw : zWf g σ) : (zW ρ cy g σ ++ [(q, .inl (cy 4, N, .inr (.inr (.inr (.inr (fun i => if i < N then some (r i) else none))))))]) ++ (List.range N).map (fun i => (r i, (.inl (cy 0, K, .inl (fun _ => 0)) : va_E))) = zW (zρM ρ g.1 q N r) cy (zsM g N K) (zs0M σ g.1 N) := by
  apply List.ext_getElem?
  intro j
  by_cases hj : j < g.1
  · rw [List.getElem?_append_left (by rw [List.length_append, zW_len]; omega), List.getElem?_append_left (by rw [zW_len]; exact hj), zW_get hj, zW_get (show j < g.1 + 1 + N by omega), zρM_lt (Or.inl hj), (zsM_lo (Or.inl hj)).1, (zsM_lo (Or.inl hj)).2, zs0M_lo (Or.inl hj)]
    exact congrArg (fun z => some (ρ j, z)) (zC_ρ hw (fun i hi => zρM_lt (Or.inl hi)) hj).symm
  · by_cases e : j = g.1
    · subst e
      rw [List.getElem?_append_left (by rw [List.length_append, zW_len]; simp), List.getElem?_append_right (by rw [zW_len]; omega), zW_len, Nat.sub_self, zW_get (show g.1 < g.1 + 1 + N by omega), zsM_at.1, zsM_at.2, show zρM ρ g.1 q N r g.1 = q from if_pos rfl]
      show some (q, _) = some (q, Sum.inl (cy 4, N, _))
      have e2 : (fun i => if i < N then some (r i) else none) = fun j => Option.map (zρM ρ g.1 q N r) (if j < N then some (g.1 + 1 + j) else none) := by
        funext j
        by_cases c : j < N
        · rw [if_pos c, if_pos c]
          exact congrArg some (zρM_row c).symm
        · rw [if_neg c, if_neg c]
          rfl
      rw [e2]
    · by_cases hjn : j < g.1 + 1 + N
      · obtain ⟨i, rfl⟩ : ∃ i, j = g.1 + 1 + i := ⟨j - g.1 - 1, by omega⟩
        rw [List.getElem?_append_right (by rw [List.length_append, zW_len]; simp), zW_get hjn, (zsM_row (by omega)).1, (zsM_row (by omega)).2, zs0M_in (by omega) hjn, zρM_row (by omega), List.length_append, zW_len, List.getElem?_map, List.getElem?_range (by simp; omega)]
        simp only [List.length_cons, List.length_nil, Nat.zero_add, Nat.add_sub_cancel_left, Option.map_some]
        rfl
      · rw [zW_non (show ¬ j < g.1 + 1 + N from hjn), List.getElem?_eq_none (by simp [zW_len]; omega)]
theorem x_mnew {Y : zM} {d kc ks pc : Nat} {L S : List Value} {g : zG} {σ : zI} {Q : Option Value → zG → zI → Prop} {idx : Nat} {n k : Int32} {N K : Nat} (hd : decode Y.2.1 pc = .ok (.multianewarray idx 2, 4)) (h1 : Cond.classLink Y.1.cls idx ("[" ++ (FieldType.array .int).toString) ∈ zT) (h2 : Cond.arrayClass .int ∈ zT) (hn0 : ¬ n < 0) (hk0 : ¬ k < 0) (hN : n.toNatClampNeg = N) (hM : k.toNatClampNeg = K) (hN2 : N ≤ 1000) (hK2 : K ≤ 100000) (hn : g.1 + 1 + N ≤ 1000) (hLs : L.all (zokv g.1) = true) (hSs : S.all (zokv g.1) = true) {kc2 ks2 : Nat} (hkc : kc2 + (1 + N) = kc) (hks : ks2 + (N + N * K) = ks) (kk : zX Y d kc2 ks2 (pc + 4) L (.ref g.1 :: S) (zsM g N K) (zs0M σ g.1 N) Q) : zX Y d kc ks (pc) L (.int k :: .int n :: S) g σ Q := by
  intro p l e R s m args below meth c H locs cells slots Q2 dC dI cy ρ A ls hC hRO hK hA hc hs hw hl hP hD hS ret
  have z0 := (hK.2 0 _ rfl).2
  refine va_mna (X := zW ρ cy g σ) (L := []) (f := fun _ => .inl (cy 0, 0, .inl (fun _ => 0))) (z := (K, .inl (fun _ => 0))) (cy := cy 0) hC.1 hC.2.1 hC.2.2.2.2.2.2.1 (hC.2.2.2.2.2.1 _ h1) hRO.2.2.2.2.2.2.2.1 (hC.2.2.2.2.2.1 _ h2) z0 hK (by simpa [va_pl] using hP) (by simpa [va_pl] using hD) hS hA hn0 hk0 hN hM (by omega) (by show K * 4 ≤ _; omega) (by omega) rfl rfl (by omega) (by omega) (fun c => arrV_new c K (.int 0)) hd (fun q r cA H1 hinj hnl hK1 hP1 hD1 hS1 => ?_)
  have ecA : cA = cy 4 := by
    have z1 := (hK1.2 5 _ rfl).2
    have z2 := (hK.2 4 _ rfl).2
    exact Option.some.inj (z1.symm.trans z2)
  subst ecA
  have er : va_pl ([] ++ (List.range N).map r) (vr_up (fun _ => .inl (cy 0, 0, .inl (fun _ => 0))) ((List.range N).map r) (.inl (cy 0, (K, .inl (fun _ => 0))))) = (List.range N).map (fun i => (r i, (.inl (cy 0, K, .inl (fun _ => 0)) : va_E))) := by
    unfold va_pl
    rw [List.nil_append, List.map_map]
    refine List.map_congr_left fun i hi => ?_
    show (r i, vr_up _ _ _ (r i)) = _
    rw [vr_up_in (List.mem_map.mpr ⟨i, hi, rfl⟩)]
  rw [er, zW_M hw] at hP1 hD1
  have hz1 := zv_ext (ρ := ρ) (ρ' := zρM ρ g.1 q N r) (n := g.1) (fun i hi => zρM_lt (by omega)) hLs
  have hz2 := zv_ext (ρ := ρ) (ρ' := zρM ρ g.1 q N r) (n := g.1) (fun i hi => zρM_lt (by omega)) hSs
  have hst : Value.ref q :: S.map (zv ρ) = (.ref g.1 :: S).map (zv (zρM ρ g.1 q N r)) := by
    show _ = Value.ref (zρM ρ g.1 q N r g.1) :: S.map (zv (zρM ρ g.1 q N r))
    rw [show zρM ρ g.1 q N r g.1 = q from if_pos rfl, hz2]
  rw [hst]
  exact (kk p l e R s m args below meth c H1 locs (cells + 1 + N) (slots + N + N * K) Q2 dC dI cy (zρM ρ g.1 q N r) A ls hC (zRO_set hRO (fun i hi => zρM_lt (by omega)) (zsM_lo (by omega)).1 (zs0M_lo (by omega))) hK hA (by omega) (by omega) (zWf_M hw hn) (by rw [hz1]; exact hl) hP1 hD1 hS1 (zRT_st ret ⟨fun z => absurd z (by omega), (by show g.1 ≤ g.1 + 1 + N; omega), fun i hi => zρM_lt (by omega), (zsM_lo (by omega)).1, zs0M_lo (by omega)⟩ (by omega)))
theorem zX_mono {Y : zM} {d kc ks pc : Nat} {L S : List Value} {g : zG} {σ : zI} {Q Q' : Option Value → zG → zI → Prop} (h : zX Y d kc ks pc L S g σ Q) (hq : ∀ r g' σ', Q r g' σ' → Q' r g' σ') : zX Y d kc ks pc L S g σ Q' := by
  intro p l e R s m args below meth c H locs cells slots Q2 dC dI cy ρ A ls hC hRO hK hA hc hs hw hl hP hD hS ret
  exact h p l e R s m args below meth c H locs cells slots Q2 dC dI cy ρ A ls hC hRO hK hA hc hs hw hl hP hD hS (fun r g' σ' ρ' H' locs' cells' slots' pc' ls' h0 => ret r g' σ' ρ' H' locs' cells' slots' pc' ls' (hq _ _ _ h0))
theorem zN_nf {own : String} {idx : Nat} {a b c host : String} (h : Cond.fieldLinkNest own idx a b c host ∈ zN) : (own, idx) ∈ zNF2.map (fun q => (q.1, q.2.1)) := by
  rcases List.mem_append.mp h with h | h
  · obtain ⟨q, -, e⟩ := List.mem_map.mp h
    cases e
  · obtain ⟨q, hq, e⟩ := List.mem_map.mp h
    injection e with e1 e2
    exact List.mem_map.mpr ⟨q, hq, by rw [e1, e2]⟩
/-! the first n objects are there, with all their references but those of P -/
def zGp (n0 n : Nat) (P : List (Nat × Nat)) (g : zG) : Prop := g.1 = n ∧ g.2.1 3000 = (9, 0, n0) ∧ ∀ i, i < n → g.2.1 i = zSH i ∧ ∀ k, k < 200 → g.2.2 i k = if (i, k) ∈ P then none else zRF i k
def zZp (n : Nat) (F σ : zI) : Prop := (∀ i, i < n → σ i = F i) ∧ ∀ i, n ≤ i → F i = fun _ => 0
def pnd (n : Nat) : List (Nat × Nat) := ((List.range 200).filter (fun k => (zRF n k).isSome)).map (fun k => (n, k))
theorem pnd_mem {n k a : Nat} : (a, k) ∈ pnd n ↔ a = n ∧ k < 200 ∧ (zRF n k).isSome = true := by
  unfold pnd
  simp only [List.mem_map, List.mem_filter, List.mem_range, Prod.mk.injEq]
  constructor
  · rintro ⟨x, ⟨h1, h2⟩, rfl, rfl⟩
    exact ⟨rfl, h1, h2⟩
  · rintro ⟨rfl, h1, h2⟩
    exact ⟨k, ⟨h1, h2⟩, rfl, rfl⟩
section
variable {n0 n : Nat} {P P2 : List (Nat × Nat)} {g : zG} {F σ : zI}
theorem zGp_new (h : zGp n0 n P g) (hn : n < 1000) {sh : Nat × Nat × Nat} (hs : zSH n = sh) (hP : pnd n ++ P = P2) : zGp n0 (n + 1) P2 (zsN g sh (fun _ => none)) := by
  obtain ⟨rfl, h3, h⟩ := h
  subst hP
  refine ⟨rfl, ?_, fun i hi => ?_⟩
  · show (if 3000 = g.1 then _ else _) = _
    rw [if_neg (by omega)]
    exact h3
  · by_cases e : i = g.1
    · subst e
      refine ⟨(if_pos rfl).trans hs.symm, fun k hk => ?_⟩
      show (if g.1 = g.1 then (fun _ => none) else g.2.2 g.1) k = _
      rw [if_pos rfl]
      by_cases hm : (g.1, k) ∈ pnd g.1 ++ P
      · rw [if_pos hm]
      · rw [if_neg hm]
        cases hz : zRF g.1 k with
        | none => rfl
        | some x => exact absurd (List.mem_append_left _ (pnd_mem.mpr ⟨rfl, hk, by rw [hz]; rfl⟩)) hm
    · have hi : i < g.1 := by omega
      refine ⟨(if_neg e).trans (h i hi).1, fun k hk => ?_⟩
      show (if i = g.1 then (fun _ => none) else g.2.2 i) k = _
      rw [if_neg e, (h i hi).2 k hk]
      have : (i, k) ∈ pnd g.1 ++ P ↔ (i, k) ∈ P := by
        rw [List.mem_append, pnd_mem]
        exact ⟨fun q => q.elim (fun z => absurd z.1 e) id, Or.inr⟩
      simp only [this]
theorem zGp_set (h : zGp n0 n P g) {i k r : Nat} (hr : zRF i k = some r) (hP : P.filter (fun q => !(q == (i, k))) = P2) : zGp n0 n P2 (zsR g i k (some r)) := by
  subst hP
  refine ⟨h.1, h.2.1, fun a ha => ⟨(h.2.2 a ha).1, fun j hj => ?_⟩⟩
  have hm : (a, j) ∈ P.filter (fun q => !(q == (i, k))) ↔ (a, j) ∈ P ∧ ¬ (a = i ∧ j = k) := by
    rw [List.mem_filter]
    simp [Prod.ext_iff]
  show (if a = i then (if j = k then some r else g.2.2 a j) else g.2.2 a j) = _
  by_cases e : a = i ∧ j = k
  · obtain ⟨rfl, rfl⟩ := e
    rw [if_pos rfl, if_pos rfl, if_neg (fun q => (hm.mp q).2 ⟨rfl, rfl⟩), hr]
  · have e2 : (if a = i then (if j = k then some r else g.2.2 a j) else g.2.2 a j) = g.2.2 a j := by
      by_cases e1 : a = i
      · rw [if_pos e1, if_neg (fun q => e ⟨e1, q⟩)]
      · rw [if_neg e1]
    rw [e2, (h.2.2 a ha).2 j hj]
    have : (a, j) ∈ P.filter (fun q => !(q == (i, k))) ↔ (a, j) ∈ P := hm.trans ⟨fun q => q.1, fun q => ⟨q, e⟩⟩
    simp only [this]
theorem zGp_M {N K : Nat} (h : zGp n0 n P g) (hn : n + 1 + N ≤ 1000) (hs0 : zSH n = (5, 0, N)) (hs : ∀ j, j < N → zSH (n + 1 + j) = (1, 0, K)) (hr : ∀ k, k < 200 → zRF n k = if k < N then some (n + 1 + k) else none) (hr1 : ∀ j, j < N → ∀ k, k < 200 → zRF (n + 1 + j) k = none) (hP : ∀ q, q ∈ P → q.1 < n) : zGp n0 (n + 1 + N) P (zsM g N K) := by
  obtain ⟨rfl, h3, h⟩ := h
  refine ⟨rfl, (zsM_lo (by omega)).1.trans h3, fun i hi => ?_⟩
  by_cases c : i < g.1
  · rw [(zsM_lo (Or.inl c)).1, (zsM_lo (Or.inl c)).2]
    exact h i c
  · have hni : ∀ k, (i, k) ∉ P := fun k q => c (hP _ q)
    by_cases e : i = g.1
    · subst e
      rw [zsM_at.1, zsM_at.2]
      exact ⟨hs0.symm, fun k hk => by rw [if_neg (hni k), hr k hk]⟩
    · obtain ⟨j, rfl⟩ : ∃ j, i = g.1 + 1 + j := ⟨i - g.1 - 1, by omega⟩
      have hj : j < N := by omega
      rw [(zsM_row hj).1, (zsM_row hj).2]
      exact ⟨(hs j hj).symm, fun k hk => by rw [if_neg (hni k), hr1 j hj k hk]⟩
theorem zZp_new (h : zZp n F σ) : zZp (n + 1) F (zs0 σ n) := by
  refine ⟨fun i hi => ?_, fun i hi => h.2 i (by omega)⟩
  by_cases e : i = n
  · subst e
    exact (if_pos rfl).trans (h.2 _ (Nat.le_refl _)).symm
  · exact (if_neg e).trans (h.1 i (by omega))
theorem zZp_M {N : Nat} (h : zZp n F σ) : zZp (n + 1 + N) F (zs0M σ n N) := by
  refine ⟨fun i hi => ?_, fun i hi => h.2 i (by omega)⟩
  by_cases e : i < n
  · rw [zs0M_lo (Or.inl e), h.1 i e]
  · rw [zs0M_in (by omega) hi, h.2 i (by omega)]
theorem zZp_I {i k : Nat} {x : Int32} (h : zZp n F σ) (hi : i < n) : zZp n (zsI F i k x) (zsI σ i k x) := by
  refine ⟨fun a ha => ?_, fun a ha => ?_⟩
  · funext j
    unfold zsI
    by_cases e : a = i
    · rw [if_pos e, if_pos e, h.1 a ha]
    · rw [if_neg e, if_neg e, h.1 a ha]
  · rw [zsI_ne (by omega)]
    exact h.2 a ha
theorem zGp.ob (h : zGp n0 n P g) {i c : Nat} (hi : i < n) (hs : zSH i = (0, c, 0)) : zOb g i c := ⟨by rw [h.1]; exact hi, (h.2.2 i hi).1.trans hs⟩
theorem zGp.ar (h : zGp n0 n P g) {i t m : Nat} (hi : i < n) (hs : zSH i = (t, 0, m)) : zAr g i t m := ⟨by rw [h.1]; exact hi, (h.2.2 i hi).1.trans hs⟩
theorem zGp.rf (h : zGp n0 n P g) {i k r : Nat} (hi : i < n) (hk : k < 200) (hP : (i, k) ∉ P) (hr : zRF i k = some r) : g.2.2 i k = some r := by rw [(h.2.2 i hi).2 k hk, if_neg hP, hr]
theorem zGp.ge (h : zGp n0 n P g) {lo hi : Nat} (hi2 : hi ≤ n) (hP : ∀ q, q ∈ P → q.1 < lo ∨ hi ≤ q.1) : zGe lo hi g := ⟨by rw [h.1]; exact hi2, fun i h1 h2 => ⟨(h.2.2 i (by omega)).1, fun k hk => by rw [(h.2.2 i (by omega)).2 k hk, if_neg (fun q => by have := hP _ q; dsimp only at this; omega)]⟩⟩
end
def zY (n0 : Nat) (Y : zM) (d kc ks pc : Nat) (L S : List Value) (n : Nat) (P : List (Nat × Nat)) (F : zI) (Q : Option Value → zG → zI → Prop) : Prop := ∀ g σ, zGp n0 n P g → zZp n F σ → zX Y d kc ks pc L S g σ Q
def qP (n0 n : Nat) (P : List (Nat × Nat)) (FP : zI → Prop) : Option Value → zG → zI → Prop := fun r g σ => r = none ∧ zGp n0 n P g ∧ ∃ F, FP F ∧ zZp n F σ
section
variable {n0 : Nat} {Y : zM} {d kc ks pc : Nat} {L S : List Value} {n : Nat} {P : List (Nat × Nat)} {F : zI} {Q : Option Value → zG → zI → Prop}
theorem y_of {pc2 : Nat} {L2 S2 : List Value} (f : ∀ g σ, zX Y d kc ks pc2 L2 S2 g σ Q → zX Y d kc ks pc L S g σ Q) (k : zY n0 Y d kc ks pc2 L2 S2 n P F Q) : zY n0 Y d kc ks pc L S n P F Q := fun g σ hg hz => f g σ (k g σ hg hz)
theorem y_new {idx ci N : Nat} {C : String} {T : u_T} {kc2 ks2 n2 : Nat} {P2 : List (Nat × Nat)} (hd : decode Y.2.1 pc = .ok (.new idx, 3)) (hq : vwCl[ci]? = some (C, T, N)) (h1 : Cond.classLink Y.1.cls idx C ∈ zT) (hn : n < 1000) (hn2 : n + 1 = n2) (hLs : L.all (zokv n) = true) (hSs : S.all (zokv n) = true) (hkc : kc2 + 1 = kc) (hks : ks2 + N = ks) (hs : zSH n = (0, ci, 0)) (hP : pnd n ++ P = P2) (kk : zY n0 Y d kc2 ks2 (pc + 3) L (.ref n :: S) n2 P2 F Q) : zY n0 Y d kc ks pc L S n P F Q := by
  intro g σ hg hz
  subst hn2
  have e := hg.1
  subst e
  exact x_new hd hq h1 hn hLs hSs hkc hks (kk _ _ (zGp_new hg hn hs hP) (zZp_new hz))
theorem y_newi {x : Int32} {N kc2 ks2 n2 : Nat} {P2 : List (Nat × Nat)} (hd : decode Y.2.1 pc = .ok (.newarray .int, 2)) (hn0 : ¬ x < 0) (hN : x.toNatClampNeg = N) (hN2 : N ≤ 1000000) (hn : n < 1000) (hn2 : n + 1 = n2) (hLs : L.all (zokv n) = true) (hSs : S.all (zokv n) = true) (hkc : kc2 + 1 = kc) (hks : ks2 + N = ks) (hs : zSH n = (1, 0, N)) (hP : pnd n ++ P = P2) (kk : zY n0 Y d kc2 ks2 (pc + 2) L (.ref n :: S) n2 P2 F Q) : zY n0 Y d kc ks pc L (.int x :: S) n P F Q := by
  intro g σ hg hz
  subst hn2
  have e := hg.1
  subst e
  exact x_newi hd tw_arr_int hn0 hN hN2 hn hLs hSs hkc hks (kk _ _ (zGp_new hg hn hs hP) (zZp_new hz))
theorem y_newz {x : Int32} {N kc2 ks2 n2 : Nat} {P2 : List (Nat × Nat)} (hd : decode Y.2.1 pc = .ok (.newarray .boolean, 2)) (hn0 : ¬ x < 0) (hN : x.toNatClampNeg = N) (hN2 : N ≤ 1000000) (hn : n < 1000) (hn2 : n + 1 = n2) (hLs : L.all (zokv n) = true) (hSs : S.all (zokv n) = true) (hkc : kc2 + 1 = kc) (hks : ks2 + N = ks) (hs : zSH n = (2, 0, N)) (hP : pnd n ++ P = P2) (kk : zY n0 Y d kc2 ks2 (pc + 2) L (.ref n :: S) n2 P2 F Q) : zY n0 Y d kc ks pc L (.int x :: S) n P F Q := by
  intro g σ hg hz
  subst hn2
  have e := hg.1
  subst e
  exact x_newz hd tw_arr_boolean hn0 hN hN2 hn hLs hSs hkc hks (kk _ _ (zGp_new hg hn hs hP) (zZp_new hz))
theorem y_anew3 {idx : Nat} {x : Int32} {N kc2 ks2 n2 : Nat} {P2 : List (Nat × Nat)} (hd : decode Y.2.1 pc = .ok (.anewarray idx, 3)) (h1 : Cond.classLink Y.1.cls idx RX0 ∈ zT) (hn0 : ¬ x < 0) (hN : x.toNatClampNeg = N) (hN2 : N ≤ 1000000) (hn : n < 1000) (hn2 : n + 1 = n2) (hLs : L.all (zokv n) = true) (hSs : S.all (zokv n) = true) (hkc : kc2 + 1 = kc) (hks : ks2 + N = ks) (hs : zSH n = (3, 0, N)) (hP : pnd n ++ P = P2) (kk : zY n0 Y d kc2 ks2 (pc + 3) L (.ref n :: S) n2 P2 F Q) : zY n0 Y d kc ks pc L (.int x :: S) n P F Q := by
  intro g σ hg hz
  subst hn2
  have e := hg.1
  subst e
  exact x_anew3 hd h1 hn0 hN hN2 hn hLs hSs hkc hks (kk _ _ (zGp_new hg hn hs hP) (zZp_new hz))
theorem y_anew4 {idx : Nat} {x : Int32} {N kc2 ks2 n2 : Nat} {P2 : List (Nat × Nat)} (hd : decode Y.2.1 pc = .ok (.anewarray idx, 3)) (h1 : Cond.classLink Y.1.cls idx RX5 ∈ zT) (hn0 : ¬ x < 0) (hN : x.toNatClampNeg = N) (hN2 : N ≤ 1000000) (hn : n < 1000) (hn2 : n + 1 = n2) (hLs : L.all (zokv n) = true) (hSs : S.all (zokv n) = true) (hkc : kc2 + 1 = kc) (hks : ks2 + N = ks) (hs : zSH n = (4, 0, N)) (hP : pnd n ++ P = P2) (kk : zY n0 Y d kc2 ks2 (pc + 3) L (.ref n :: S) n2 P2 F Q) : zY n0 Y d kc ks pc L (.int x :: S) n P F Q := by
  intro g σ hg hz
  subst hn2
  have e := hg.1
  subst e
  exact x_anew4 hd h1 hn0 hN hN2 hn hLs hSs hkc hks (kk _ _ (zGp_new hg hn hs hP) (zZp_new hz))
theorem y_mnew {idx : Nat} {x y : Int32} {N K kc2 ks2 n2 : Nat} (hd : decode Y.2.1 pc = .ok (.multianewarray idx 2, 4)) (h1 : Cond.classLink Y.1.cls idx "[[I" ∈ zT) (hn0 : ¬ x < 0) (hk0 : ¬ y < 0) (hN : x.toNatClampNeg = N) (hK : y.toNatClampNeg = K) (hN2 : N ≤ 1000) (hK2 : K ≤ 100000) (hn : n + 1 + N ≤ 1000) (hn2 : n + 1 + N = n2) (hLs : L.all (zokv n) = true) (hSs : S.all (zokv n) = true) (hkc : kc2 + (1 + N) = kc) (hks : ks2 + (N + N * K) = ks) (hs0 : zSH n = (5, 0, N)) (hs : ∀ j, j < N → zSH (n + 1 + j) = (1, 0, K)) (hr : ∀ k, k < 200 → zRF n k = if k < N then some (n + 1 + k) else none) (hr1 : ∀ j, j < N → ∀ k, k < 200 → zRF (n + 1 + j) k = none) (hP : ∀ q, q ∈ P → q.1 < n) (kk : zY n0 Y d kc2 ks2 (pc + 4) L (.ref n :: S) n2 P F Q) : zY n0 Y d kc ks pc L (.int y :: .int x :: S) n P F Q := by
  intro g σ hg hz
  subst hn2
  have e := hg.1
  subst e
  exact x_mnew hd h1 tw_arr_int hn0 hk0 hN hK hN2 hK2 hn hLs hSs hkc hks (kk _ _ (zGp_M hg hn hs0 hs hr hr1 hP) (zZp_M hz))
theorem y_getR {idx ci k id x : Nat} {fin : Bool} (hd : decode Y.2.1 pc = .ok (.getfield idx, 3)) (hf : zFld Y.1.cls idx ci k fin) (hi : id < n) (hs : zSH id = (0, ci, 0)) (hk : zfk ci k = 1) (hk2 : k < 200) (hP : (id, k) ∉ P) (hx : zRF id k = some x) (kk : zY n0 Y d kc ks (pc + 3) L (.ref x :: S) n P F Q) : zY n0 Y d kc ks pc L (.ref id :: S) n P F Q := fun g σ hg hz => x_getR hd hf (hg.ob hi hs) hk (hg.rf hi hk2 hP hx) (kk g σ hg hz)
theorem y_putF {idx ci k id r : Nat} {P2 : List (Nat × Nat)} (hd : decode Y.2.1 pc = .ok (.putfield idx, 3)) (hf : zFld Y.1.cls idx ci k true) (hini : Y.1.name = "<init>") (hdecl : ∀ (C : String) (T : u_T) (N : Nat), vwCl[ci]? = some (C, T, N) → (T k).1 = Y.1.cls) (hnn : (Y.1.cls, idx) ∉ zNF2.map (fun q => (q.1, q.2.1))) (hi : id < n) (hs : zSH id = (0, ci, 0)) (hk : zfk ci k = 1) (hr : r < n) (hx : zRF id k = some r) (hP : P.filter (fun q => !(q == (id, k))) = P2) (kk : zY n0 Y d kc ks (pc + 3) L S n P2 F Q) : zY n0 Y d kc ks pc L (.ref r :: .ref id :: S) n P F Q := fun g σ hg hz => x_putF hd hf hini hdecl (fun _ _ _ _ h => hnn (zN_nf h)) (hg.ob hi hs) hk (by rw [hg.1]; exact hr) (kk _ _ (zGp_set hg hx hP) hz)
theorem y_putI {idx ci k id : Nat} {x : Int32} (hd : decode Y.2.1 pc = .ok (.putfield idx, 3)) (hf : zFld Y.1.cls idx ci k false) (hi : id < n) (hs : zSH id = (0, ci, 0)) (hk : zfk ci k = 0) (hty : zft ci k = .int) (kk : zY n0 Y d kc ks (pc + 3) L S n P (zsI F id k x) Q) : zY n0 Y d kc ks pc L (.int x :: .ref id :: S) n P F Q := fun g σ hg hz => x_putI hd hf (hg.ob hi hs) hk hty (kk _ _ hg (zZp_I hz hi))
theorem y_iast {id m : Nat} {i x : Int32} (hd : decode Y.2.1 pc = .ok (.iastore, 1)) (hi : id < n) (hs : zSH id = (1, 0, m)) (hv : vp_in i m) (kk : zY n0 Y d kc ks (pc + 1) L S n P (zsI F id i.toNatClampNeg x) Q) : zY n0 Y d kc ks pc L (.int x :: .int i :: .ref id :: S) n P F Q := fun g σ hg hz => x_iast hd (hg.ar hi hs) hv (kk _ _ hg (zZp_I hz hi))
theorem y_aast3 {id m r : Nat} {i : Int32} {P2 : List (Nat × Nat)} (hd : decode Y.2.1 pc = .ok (.aastore, 1)) (hi : id < n) (hs : zSH id = (3, 0, m)) (hv : vp_in i m) (hr : r < n) (hrs : zSH r = (0, 0, 0)) (hx : zRF id i.toNatClampNeg = some r) (hP : P.filter (fun q => !(q == (id, i.toNatClampNeg))) = P2) (kk : zY n0 Y d kc ks (pc + 1) L S n P2 F Q) : zY n0 Y d kc ks pc L (.ref r :: .int i :: .ref id :: S) n P F Q := fun g σ hg hz => x_aast3 hd (hg.ar hi hs) hv (hg.ob hr hrs) (kk _ _ (zGp_set hg hx hP) hz)
theorem y_aast4 {id m r : Nat} {i : Int32} {P2 : List (Nat × Nat)} (hd : decode Y.2.1 pc = .ok (.aastore, 1)) (hi : id < n) (hs : zSH id = (4, 0, m)) (hv : vp_in i m) (hr : r < n) (hrs : zSH r = (0, 5, 0)) (hx : zRF id i.toNatClampNeg = some r) (hP : P.filter (fun q => !(q == (id, i.toNatClampNeg))) = P2) (kk : zY n0 Y d kc ks (pc + 1) L S n P2 F Q) : zY n0 Y d kc ks pc L (.ref r :: .int i :: .ref id :: S) n P F Q := fun g σ hg hz => x_aast4 hd (hg.ar hi hs) hv (hg.ob hr hrs) (kk _ _ (zGp_set hg hx hP) hz)
theorem y_callI {Y2 : zM} {idx m kc2 ks2 n2 id : Nat} {as S0 : List Value} {P2 : List (Nat × Nat)} {FP : zI → Prop} (hin2 : Cond.instanceMethod Y2.1 ∈ zT ∧ Y2.1.name = "<init>" ∧ Y2.2.2.2.1 = none) (hd : decode Y.2.1 pc = .ok (.invokespecial idx, 3)) (hlk2 : zLk Y.1.cls idx Y2.1) (hmo : zMo Y2 m) (hS0 : S0 = as.reverse ++ .ref id :: S) (hm : as.length = m) (hcat : (S.map fun v => v.category).sum ≤ 8) (hok : (L ++ S).all (zokv n) = true) (hkc : Y2.2.2.2.2.1 + kc2 = kc) (hks : Y2.2.2.2.2.2 + ks2 = ks) (hcx : ∀ g σ, zGp n0 n P g → zZp n F σ → zCx Y2 d (.ref id :: as) g σ (qP n0 n2 P2 FP)) (kk : ∀ F2, FP F2 → zY n0 Y (d + 1) kc2 ks2 (pc + 3) L S n2 P2 F2 Q) : zY n0 Y (d + 1) kc ks pc L S0 n P F Q := by
  intro g σ hg hz
  refine x_callI hin2 hd hlk2 hmo hS0 hm hcat (Or.inr (by rw [hg.1]; exact hok)) hkc hks (hcx g σ hg hz) ?_
  rintro r g1 σ1 ⟨rfl, h1, F2, h2, h3⟩
  exact kk F2 h2 g1 σ1 h1 h3
theorem y_ret {FP : zI → Prop} (hd : decode Y.2.1 pc = .ok (.return_, 1)) (ht : Y.2.2.2.1 = none) (hF : FP F) : zY n0 Y d kc ks pc L [] n P F (qP n0 n P FP) := fun _ _ hg hz => x_vret (S := []) hd ht ⟨rfl, hg, F, hF, hz⟩
end
