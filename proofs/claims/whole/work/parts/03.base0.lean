
abbrev zM : Type := MethodName × ByteArray × Nat × Option FieldType × Nat × Nat
abbrev zG : Type := Nat × (Nat → Nat × Nat × Nat) × (Nat → Nat → Option Nat)
abbrev zI : Type := Nat → Nat → Int32
def zT : List Cond := lw_tbl.filter goodWord
def zws (Y : zM) : List Cond := Cond.code Y.1 Y.2.1 Y.2.2.1 Y.2.2.2.1 :: zT
def zroom (d : Nat) (Y : zM) : Room := { frames := d, cells := Y.2.2.2.2.1, slots := Y.2.2.2.2.2, locals := 40 * d }
def zv (ρ : Nat → Nat) : Value → Value
  | .ref a => .ref (ρ a)
  | v => v
def zdr (x : Int32) : Option Nat := if x = 0 then none else some (x.toNatClampNeg - 1)
def zfkL : List (List Nat) := [[0, 0, 0, 0], [0, 0, 0, 1, 1], [1, 1, 1, 1, 1, 0, 0, 0], [1, 1, 1, 1, 1, 1], [1, 0, 0, 0, 0, 0, 2, 0], [0, 0, 1], [1, 1, 1, 1, 0], [1, 1, 1, 1, 1, 1, 1, 1, 0], [0, 0, 1, 1, 1, 0, 0, 1, 0, 1, 1, 1, 0, 0, 0, 0, 0, 0, 1, 0, 0, 0, 0, 0, 1, 1, 1, 1, 1, 1, 1, 1, 0, 0, 1, 1, 1, 1, 1]]
def zftL : List (List FieldType) := [[.int, .int, .int, .int], [.int, .int, .int, .array .int, .array .int], [.object "NumbersInherited$Reader", .array (.array .int), .array (.array .int), .array .int, .array .int, .int, .int, .int], [.object "NumbersInherited$Law", .array .int, .array .int, .array .int, .array .boolean, .array .boolean], [.array .int, .int, .int, .int, .int, .int, .array .int, .int], [.int, .int, .array .int], [.object "NumbersInherited$Paying", .array (.array .int), .array .int, .array .int, .int], [.array (.object "NumbersInherited$Heir"), .array (.object "NumbersInherited$Sheet"), .object "NumbersInherited$Law", .object "NumbersInherited$Paying", .object "NumbersInherited$Ways", .object "NumbersInherited$Image", .object "NumbersInherited$Heir", .object "NumbersInherited$Heir", .int], [.int, .int, .array .int, .array .int, .array .int, .int, .int, .array .int, .int, .array .int, .array .int, .array .int, .int, .int, .int, .int, .int, .int, .array .int, .int, .int, .boolean, .boolean, .boolean, .array .int, .array .int, .array .int, .array .int, .array .boolean, .array .int, .array .int, .array .int, .boolean, .int, .array .int, .array .int, .array .int, .array .int, .array .int]]
def zNFL : List Nat := [4, 5, 8, 6, 8, 3, 5, 9, 39]
def zfk (c k : Nat) : Nat := (zfkL.getD c []).getD k 0
def zft (c k : Nat) : FieldType := (zftL.getD c []).getD k .int
def zNF (c : Nat) : Nat := zNFL.getD c 0
def zfv (ρ : Nat → Nat) (kind : Nat) (r : Option Nat) (x : Int32) : Value := match kind with
  | 0 => .int x
  | 1 => va_rf (r.map ρ)
  | _ => va_rf ((zdr x).map ρ)
def zF (ρ : Nat → Nat) (c : Nat) (r : Nat → Option Nat) (s : Nat → Int32) : List Value := (List.range (zNF c)).map (fun k => zfv ρ (zfk c k) (r k) (s k))
def zC (ρ : Nat → Nat) (cy : Nat → ClassId) (sh : Nat × Nat × Nat) (r : Nat → Option Nat) (s : Nat → Int32) : va_E := match sh.1 with
  | 0 => .inr (sh.2.1, zF ρ sh.2.1 r s)
  | 1 => .inl (cy 0, (sh.2.2, .inl s))
  | 2 => .inl (cy 1, (sh.2.2, .inl s))
  | k + 3 => .inl (cy (k + 2), (sh.2.2, .inr (.inr (.inr (.inr (fun j => (r j).map ρ))))))
def zW (ρ : Nat → Nat) (cy : Nat → ClassId) (g : zG) (σ : zI) : va_W := (List.range g.1).map (fun i => (ρ i, zC ρ cy (g.2.1 i) (g.2.2 i) (σ i)))
def zTy (cy : Nat → ClassId) : List (ClassId × FieldType) := [(cy 0, .int), (cy 1, .boolean), (cy 2, .object RX0), (cy 3, .object RX5), (cy 4, .array .int)]
def zWf (g : zG) (σ : zI) : Prop := (∀ i k x, i < g.1 → g.2.2 i k = some x → x < g.1) ∧ (∀ i k x, i < g.1 → (g.2.1 i).1 = 0 → zfk (g.2.1 i).2.1 k = 2 → zdr (σ i k) = some x → x < g.1) ∧ g.1 ≤ 1000
def zExt (kc : Nat) (g : zG) (σ : zI) (g' : zG) (σ' : zI) (ρ ρ' : Nat → Nat) : Prop := (kc = 0 → ρ' = ρ) ∧ g.1 ≤ g'.1 ∧ (∀ i, (i < g.1 ∨ 1000 ≤ i) → ρ' i = ρ i) ∧ g'.2.1 3000 = g.2.1 3000 ∧ σ' 3000 = σ 3000
theorem zExt_rf (kc : Nat) (g : zG) (σ : zI) (ρ : Nat → Nat) : zExt kc g σ g σ ρ ρ := ⟨fun _ => rfl, Nat.le_refl _, fun _ _ => rfl, rfl, rfl⟩
theorem zExt_tr {kc k1 : Nat} {g g1 g2 : zG} {σ σ1 σ2 : zI} {ρ ρ1 ρ2 : Nat → Nat} (h : zExt kc g σ g1 σ1 ρ ρ1) (h1 : zExt k1 g1 σ1 g2 σ2 ρ1 ρ2) (hk : kc = 0 → k1 = 0) : zExt kc g σ g2 σ2 ρ ρ2 :=
  ⟨fun q => (h1.1 (hk q)).trans (h.1 q), Nat.le_trans h.2.1 h1.2.1, fun i hi => (h1.2.2.1 i (by rcases hi with q | q; exact Or.inl (Nat.lt_of_lt_of_le q h.2.1); exact Or.inr q)).trans (h.2.2.1 i hi), h1.2.2.2.1.trans h.2.2.2.1, h1.2.2.2.2.trans h.2.2.2.2⟩
def zNM : List (String × Nat × MethodName × String) := [("NumbersInherited$Law", 11, ⟨"NumbersInherited$Reader", "<init>", "()V"⟩, "NumbersInherited"), ("NumbersInherited", 48, ⟨"NumbersInherited$Image", "<init>", "()V"⟩, "NumbersInherited"), ("NumbersInherited", 53, ⟨"NumbersInherited$Heir", "<init>", "()V"⟩, "NumbersInherited"), ("NumbersInherited", 61, ⟨"NumbersInherited$Sheet", "<init>", "()V"⟩, "NumbersInherited"), ("NumbersInherited$Heir", 45, ⟨"NumbersInherited", "has", "(II)Z"⟩, "NumbersInherited"), ("NumbersInherited$Heir", 38, ⟨"NumbersInherited", "bit", "(I)I"⟩, "NumbersInherited"), ("NumbersInherited$Heir", 34, ⟨"NumbersInherited", "isNumber", "(I)Z"⟩, "NumbersInherited"), ("NumbersInherited$Law", 65, ⟨"NumbersInherited", "has", "(II)Z"⟩, "NumbersInherited"), ("NumbersInherited$Law", 69, ⟨"NumbersInherited", "truth", "(Z)I"⟩, "NumbersInherited"), ("NumbersInherited$Paying", 56, ⟨"NumbersInherited", "has", "(II)Z"⟩, "NumbersInherited"), ("NumbersInherited$Paying", 52, ⟨"NumbersInherited", "isSum", "(I)Z"⟩, "NumbersInherited"), ("NumbersInherited$Paying", 64, ⟨"NumbersInherited", "truth", "(Z)I"⟩, "NumbersInherited"), ("NumbersInherited$Sheet", 30, ⟨"NumbersInherited", "isSum", "(I)Z"⟩, "NumbersInherited")]
def zNF2 : List (String × Nat × String × String × String × String) := [("NumbersInherited", 126, "NumbersInherited$Reader", "size", "I", "NumbersInherited"), ("NumbersInherited", 117, "NumbersInherited$Law", "reader", "LNumbersInherited$Reader;", "NumbersInherited"), ("NumbersInherited", 127, "NumbersInherited$Law", "texts", "I", "NumbersInherited"), ("NumbersInherited", 133, "NumbersInherited$Law", "rule", "I", "NumbersInherited"), ("NumbersInherited", 109, "NumbersInherited$Law", "day", "I", "NumbersInherited"), ("NumbersInherited", 257, "NumbersInherited$Image", "size", "I", "NumbersInherited"), ("NumbersInherited", 255, "NumbersInherited$Image", "day", "I", "NumbersInherited"), ("NumbersInherited", 256, "NumbersInherited$Image", "rule", "I", "NumbersInherited"), ("NumbersInherited", 258, "NumbersInherited$Image", "mores", "[I", "NumbersInherited"), ("NumbersInherited", 262, "NumbersInherited$Image", "owns", "[I", "NumbersInherited"), ("NumbersInherited", 81, "NumbersInherited$Heir", "number", "I", "NumbersInherited"), ("NumbersInherited$Law", 101, "NumbersInherited$Heir", "number", "I", "NumbersInherited"), ("NumbersInherited", 84, "NumbersInherited$Heir", "kind", "I", "NumbersInherited"), ("NumbersInherited", 87, "NumbersInherited$Heir", "more", "I", "NumbersInherited"), ("NumbersInherited$Law", 93, "NumbersInherited$Heir", "more", "I", "NumbersInherited"), ("NumbersInherited$Law", 60, "NumbersInherited$Heir", "own", "I", "NumbersInherited"), ("NumbersInherited", 90, "NumbersInherited$Heir", "own", "I", "NumbersInherited"), ("NumbersInherited", 209, "NumbersInherited$Sheet", "sort", "I", "NumbersInherited"), ("NumbersInherited$Paying", 79, "NumbersInherited$Sheet", "size", "I", "NumbersInherited"), ("NumbersInherited", 277, "NumbersInherited$Sheet", "items", "[I", "NumbersInherited")]
def zN : List Cond := zNM.map (fun q => Cond.methodLinkNest q.1 q.2.1 q.2.2.1 q.2.2.2) ++ zNF2.map (fun q => Cond.fieldLinkNest q.1 q.2.1 q.2.2.1 q.2.2.2.1 q.2.2.2.2.1 q.2.2.2.2.2)
def zSR : List (String × Nat × String × Nat) := [("NumbersInherited$Law", 33, "says 1 ; meant 1 ; worth n ;", 0), ("NumbersInherited$Reader", 105, "n", 1), ("NumbersInherited$Reader", 107, "own", 2), ("NumbersInherited$Reader", 109, "more", 3), ("NumbersInherited$Reader", 111, "many", 4), ("NumbersInherited$Reader", 113, "heir", 5), ("NumbersInherited$Reader", 115, "day", 6), ("NumbersInherited$Reader", 117, "says", 7), ("NumbersInherited$Reader", 119, "meant", 8), ("NumbersInherited$Reader", 121, "worth", 9), ("NumbersInherited$Reader", 123, "or", 10), ("NumbersInherited$Reader", 125, "and", 11), ("NumbersInherited$Reader", 127, "not", 12), ("NumbersInherited$Reader", 128, "();+-*<=", 13)]
def zlen : List Nat := [28, 1, 3, 4, 4, 4, 3, 4, 5, 5, 2, 3, 3, 8]
def zbyt : List (List Int32) := [[115, 97, 121, 115, 32, 49, 32, 59, 32, 109, 101, 97, 110, 116, 32, 49, 32, 59, 32, 119, 111, 114, 116, 104, 32, 110, 32, 59], [110], [111, 119, 110], [109, 111, 114, 101], [109, 97, 110, 121], [104, 101, 105, 114], [100, 97, 121], [115, 97, 121, 115], [109, 101, 97, 110, 116], [119, 111, 114, 116, 104], [111, 114], [97, 110, 100], [110, 111, 116], [40, 41, 59, 43, 45, 42, 60, 61]]
def zNS : Nat := 14
def zSIO : String := "jdk/internal/util/Preconditions"
def zRO (ρ : Nat → Nat) (g : zG) (σ : zI) (A : Nat → Prop) (U : State) (H : Heap) : Prop :=
  (∀ w ∈ zN, va_Nw w U) ∧ vk_S zNS zlen zbyt (fun k => ρ (1000 + k)) (fun k => ρ (2000 + k)) A U H ∧ (∀ x ∈ zSR, vk_R x.1 x.2.1 x.2.2.1 (ρ (1000 + x.2.2.2)) U) ∧
  va_Z "java/lang/String" "COMPACT_STRINGS" "Z" (.int 1) A U H ∧ (va_Z zSIO "SIOOBE_FORMATTER" "Ljava/util/function/BiFunction;" .null A U H ∨ va_Z zSIO "SIOOBE_FORMATTER" "Ljava/util/function/BiFunction;" (.ref (ρ 4000)) A U H) ∧
  va_AO RX0 U ∧ va_AO RX5 U ∧ va_AOA .int U ∧ ∀ n : Nat, g.2.1 3000 = (9, 0, n) → va_X (ρ 3000) n (σ 3000) U H ∧ ρ 3000 < H.size ∧ ¬ A (ρ 3000)
theorem zRO_same {ρ : Nat → Nat} {g : zG} {σ : zI} {A : Nat → Prop} {u U : State} {H : Heap} (hv : U.vm = u.vm) (h : zRO ρ g σ A u H) : zRO ρ g σ A U H := by
  obtain ⟨h1, h2, h3, h4, h5, h6, h7, h8, h9⟩ := h
  have hal : u.vm.Alike U.vm := by rw [hv]; exact Vm.Alike.refl _
  refine ⟨fun w hw => ?_, h2.moved hal, fun x hx => vk_R.same hv (h3 x hx), h4.moved hal, ?_, h6.moved hal, h7.moved hal, h8.moved hal, fun n hn => ⟨(h9 n hn).1.moved hal, (h9 n hn).2⟩⟩
  · have h0 := h1 w hw
    rcases List.mem_append.mp hw with hw | hw
    · obtain ⟨q, -, rfl⟩ := List.mem_map.mp hw
      exact va_Nw.same rfl hv.symm h0
    · obtain ⟨q, -, rfl⟩ := List.mem_map.mp hw
      exact va_Nw.same rfl hv.symm h0
  · rcases h5 with h5 | h5
    · exact Or.inl (h5.moved hal)
    · exact Or.inr (h5.moved hal)
theorem zRO_call {ρ : Nat → Nat} {g : zG} {σ : zI} {A A1 : Nat → Prop} {s U : State} {locs : List Loc} (hW : s.WarmedH U.vm) (hS : va_S A s.heap U.heap locs) (hab : ∀ q, A1 q → A q) (h : zRO ρ g σ A s s.heap) : zRO ρ g σ A1 U U.heap := by
  obtain ⟨h1, h2, h3, h4, h5, h6, h7, h8, h9⟩ := h
  have hal : s.vm.Alike U.vm := hW.alike
  refine ⟨fun w hw => ?_, ((h2.moved hal).kept hS.2.1).narrow hab, fun x hx => vk_R.warm hW (h3 x hx), ((h4.moved hal).kept hS.2.1).narrow hab, ?_, h6.moved hal, h7.moved hal, h8.moved hal, fun n hn => ?_⟩
  · have h0 := h1 w hw
    rcases List.mem_append.mp hw with hw | hw
    · obtain ⟨q, -, rfl⟩ := List.mem_map.mp hw
      exact va_Nw.warmM hW h0
    · obtain ⟨q, -, rfl⟩ := List.mem_map.mp hw
      exact va_Nw.warmF hW h0
  · rcases h5 with h5 | h5
    · exact Or.inl (((h5.moved hal).kept hS.2.1).narrow hab)
    · exact Or.inr (((h5.moved hal).kept hS.2.1).narrow hab)
  · obtain ⟨q1, q2, q3⟩ := h9 n hn
    exact ⟨(q1.moved hal).kept (hS.2.1 _ q2 q3), Nat.lt_of_lt_of_le q2 hS.1, fun z => q3 (hab _ z)⟩
theorem zRO_set {ρ ρ' : Nat → Nat} {g g' : zG} {σ σ' : zI} {A : Nat → Prop} {U : State} {H : Heap} (h : zRO ρ g σ A U H) (hr : ∀ i, 1000 ≤ i → ρ' i = ρ i) (hg : g'.2.1 3000 = g.2.1 3000) (hs : σ' 3000 = σ 3000) : zRO ρ' g' σ' A U H := by
  obtain ⟨h1, h2, h3, h4, h5, h6, h7, h8, h9⟩ := h
  have e1 : (fun k : Nat => ρ' (1000 + k)) = fun k => ρ (1000 + k) := funext fun k => hr _ (by omega)
  have e2 : (fun k : Nat => ρ' (2000 + k)) = fun k => ρ (2000 + k) := funext fun k => hr _ (by omega)
  refine ⟨h1, by rw [e1, e2]; exact h2, fun x hx => by rw [hr _ (by omega)]; exact h3 x hx, h4, by rw [hr 4000 (by omega)]; exact h5, h6, h7, h8, fun n hn => ?_⟩
  rw [hs, hr 3000 (by omega)]
  exact h9 n (hg.symm.trans hn)
def zL (ls : Array Slot) (nL : Nat) (L : List Value) : Prop := ls.size = nL ∧ lv_wf ls ∧ ∀ (i : Nat) (v : Value), L[i]? = some v → v ≠ .retAddr 0 → ls[i]? = some (.val v)
def zCtx (Y : zM) (d : Nat) (p : Program) (R : Room) (s : State) (m : MethodId) (args : Array Value) (meth : Method) (c : Code) : Prop :=
  p.tables.exec = Jvm.exec ∧ c.code = Y.2.1 ∧ c.maxLocals = Y.2.2.1 ∧ meth.sig.returnType = Y.2.2.2.1 ∧ meth.locks = false ∧ (∀ w ∈ zT, w.before args s = true) ∧ s.vm.findClass Y.1.cls = some m.cls ∧ meth.name = Y.1.name ∧ d ≤ R.frames ∧ 40 * d ≤ R.locals
/-- what stands at the return: its instruction, and that the answer fits -/
def zRI (Y : zM) (pc : Nat) (r : Option Value) : Prop :=
  (r = none ∧ Y.2.2.2.1 = none ∧ decode Y.2.1 pc = .ok (.return_, 1)) ∨ (∃ (v : Int32) (ty : FieldType), r = some (.int v) ∧ Y.2.2.2.1 = some ty ∧ narrow ty (.int v) = .int v ∧ decode Y.2.1 pc = .ok (.ireturn, 1)) ∨
  (∃ v : Int64, r = some (.long v) ∧ Y.2.2.2.1 = some .long ∧ decode Y.2.1 pc = .ok (.lreturn, 1)) ∨ (∃ (v : Value) (rt : FieldType), r = some v ∧ (v = .null ∨ ∃ a, v = .ref a) ∧ Y.2.2.2.1 = some rt ∧ ((∃ n, rt = .object n) ∨ ∃ t, rt = .array t) ∧ decode Y.2.1 pc = .ok (.areturn, 1))
def zRT (Y : zM) (p : Program) (l : Launch) (e : Env) (R : Room) (s : State) (m : MethodId) (args : Array Value) (below : List Frame) (meth : Method) (c : Code) (Q2 : State → Prop) (dC : Nat → ClassId) (dI : Nat → Nat → Nat) (cy : Nat → ClassId) (A : Nat → Prop) (kc : Nat) (g : zG) (σ : zI) (ρ : Nat → Nat) (Q : Option Value → zG → zI → Prop) : Prop :=
  ∀ (r : Option Value) (g' : zG) (σ' : zI) (ρ' : Nat → Nat) (H' : Heap) (locs' : List Loc) (cells' slots' pc' : Nat) (ls' : Array Slot), Q r g' σ' → cells' ≤ R.cells → slots' ≤ R.slots → zWf g' σ' → zExt kc g σ g' σ' ρ ρ' →
    va_P (dC, dI) vwCl (zW ρ' cy g' σ') H' → va_D A (zW ρ' cy g' σ') → va_S A s.heap H' locs' → zRI Y pc' r → W p l e R s m args below meth c H' locs' cells' slots' Q2 (F0 m pc' ls' (r.toList.map (zv ρ')))
theorem zRT_st {Y : zM} {p : Program} {l : Launch} {e : Env} {R : Room} {s : State} {m : MethodId} {args : Array Value} {below : List Frame} {meth : Method} {c : Code} {Q2 : State → Prop} {dC : Nat → ClassId} {dI : Nat → Nat → Nat} {cy : Nat → ClassId} {A : Nat → Prop} {kc k1 : Nat} {g g1 : zG} {σ σ1 : zI} {ρ ρ1 : Nat → Nat} {Q : Option Value → zG → zI → Prop}
    (h : zRT Y p l e R s m args below meth c Q2 dC dI cy A kc g σ ρ Q) (he : zExt kc g σ g1 σ1 ρ ρ1) (hk : kc = 0 → k1 = 0) : zRT Y p l e R s m args below meth c Q2 dC dI cy A k1 g1 σ1 ρ1 Q :=
  fun r g' σ' ρ' H' locs' cells' slots' pc' ls' hq h1 h2 h3 h4 h5 h6 h7 h8 => h r g' σ' ρ' H' locs' cells' slots' pc' ls' hq h1 h2 h3 (zExt_tr he h4 hk) h5 h6 h7 h8
/-- THE JUDGEMENT: method Y at pc, with locals L, operands S, in a world of geometry g and ints σ, with room for d frames, kc cells, ks slots more, comes to a return with Q -/
def zX (Y : zM) (d kc ks pc : Nat) (L S : List Value) (g : zG) (σ : zI) (Q : Option Value → zG → zI → Prop) : Prop :=
  ∀ (p : Program) (l : Launch) (e : Env) (R : Room) (s : State) (m : MethodId) (args : Array Value) (below : List Frame) (meth : Method) (c : Code) (H : Heap) (locs : List Loc) (cells slots : Nat) (Q2 : State → Prop) (dC : Nat → ClassId) (dI : Nat → Nat → Nat) (cy : Nat → ClassId) (ρ : Nat → Nat) (A : Nat → Prop) (ls : Array Slot),
    zCtx Y d p R s m args meth c → zRO ρ g σ A s s.heap → va_K (dC, dI) vwCl (zTy cy) s → (∀ q, s.heap.size ≤ q → A q) → cells + kc ≤ R.cells → slots + ks ≤ R.slots → zWf g σ → zL ls Y.2.2.1 (L.map (zv ρ)) →
    va_P (dC, dI) vwCl (zW ρ cy g σ) H → va_D A (zW ρ cy g σ) → va_S A s.heap H locs → zRT Y p l e R s m args below meth c Q2 dC dI cy A kc g σ ρ Q →
    W p l e R s m args below meth c H locs cells slots Q2 (F0 m pc ls (S.map (zv ρ)))
/-- a call: at most d frames deep, method Y with these arguments in this world returns with Q -/
def zQc (dC : Nat → ClassId) (dI : Nat → Nat → Nat) (cy : Nat → ClassId) (ρ : Nat → Nat) (kc : Nat) (g : zG) (σ : zI) (A1 : Nat → Prop) (Q : Option Value → zG → zI → Prop) : Array Value → State → Outcome → State → Prop := fun _ st oc t =>
  (∃ (r : Option Value) (g' : zG) (σ' : zI) (ρ' : Nat → Nat), oc = .returned (r.map (zv ρ')) ∧ Q r g' σ' ∧ zWf g' σ' ∧ zExt kc g σ g' σ' ρ ρ' ∧ va_P (dC, dI) vwCl (zW ρ' cy g' σ') t.heap ∧ va_D A1 (zW ρ' cy g' σ')) ∧ va_F A1 st t
def zPr (dC : Nat → ClassId) (dI : Nat → Nat → Nat) (cy : Nat → ClassId) (ρ : Nat → Nat) (g : zG) (σ : zI) (sz : Nat) : State → Prop := fun U =>
  U.heap.size = sz ∧ zWf g σ ∧ va_P (dC, dI) vwCl (zW ρ cy g σ) U.heap ∧ va_K (dC, dI) vwCl (zTy cy) U ∧ va_D (fun _ => True) (zW ρ cy g σ) ∧ zRO ρ g σ (va_A (zW ρ cy g σ) sz) U U.heap
def zCx (Y : zM) (d : Nat) (as : List Value) (g : zG) (σ : zI) (Q : Option Value → zG → zI → Prop) : Prop := ∃ d', d' ≤ d ∧ ∀ (l : Launch) (dC : Nat → ClassId) (dI : Nat → Nat → Nat) (cy : Nat → ClassId) (ρ : Nat → Nat) (sz : Nat),
  Met l Y.1 (zws Y) (zroom d' Y) (va_Pc (as.map (zv ρ)) (zPr dC dI cy ρ g σ sz)) (zQc dC dI cy ρ Y.2.2.2.2.1 g σ (va_A (zW ρ cy g σ) sz) Q) Y.2.2.2.2.1 Y.2.2.2.2.2 (va_A (zW ρ cy g σ) sz)
theorem Met_post {l : Launch} {y : MethodName} {ws : List Cond} {rm : Room} {Pc : Array Value → State → Prop} {Qc Qd : Array Value → State → Outcome → State → Prop} {mc ms : Nat} {free : Addr → Prop} (hM : Met l y ws rm Pc Qc mc ms free) (h : ∀ a st o t, Qc a st o t → Qd a st o t) : Met l y ws rm Pc Qd mc ms free := by
  intro p e h1 h2 h3 s m args below h4 h5 h6 h7
  obtain ⟨n, o, a1, a2, a3, a4, a5⟩ := hM p e h1 h2 h3 s m args below h4 h5 h6 h7
  exact ⟨n, o, a1, a2, a3, h _ _ _ _ a4, a5⟩
theorem zCx_mono {Y : zM} {d d2 : Nat} {as : List Value} {g : zG} {σ : zI} {Q Q' : Option Value → zG → zI → Prop} (h : zCx Y d as g σ Q) (hd : d ≤ d2) (hq : ∀ r g' σ', Q r g' σ' → Q' r g' σ') : zCx Y d2 as g σ Q' := by
  obtain ⟨d', h1, h2⟩ := h
  refine ⟨d', Nat.le_trans h1 hd, fun l dC dI cy ρ sz => ?_⟩
  have hM := h2 l dC dI cy ρ sz
  refine Met_post hM ?_
  rintro a st o t ⟨⟨r, g', σ', ρ', z1, z2, z3⟩, z4⟩
  exact ⟨⟨r, g', σ', ρ', z1, hq _ _ _ z2, z3⟩, z4⟩

theorem x_iadd {Y : zM} {d kc ks pc : Nat} {L S : List Value} {g : zG} {σ : zI} {Q : Option Value → zG → zI → Prop} {a b : Int32} (hd : decode Y.2.1 pc = .ok (.iadd, 1)) (k : zX Y d kc ks (pc + 1) L (.int (a + b) :: S) g σ Q) : zX Y d kc ks (pc) L (.int b :: .int a :: S) g σ Q := by
  intro p l e R s m args below meth c H locs cells slots Q2 dC dI cy ρ A ls hC hRO hK hA hc hs hw hl hP hD hS ret
  exact lv_iadd hC.1 hC.2.1 hd (k p l e R s m args below meth c H locs cells slots Q2 dC dI cy ρ A ls hC hRO hK hA hc hs hw hl hP hD hS ret)
theorem x_isub {Y : zM} {d kc ks pc : Nat} {L S : List Value} {g : zG} {σ : zI} {Q : Option Value → zG → zI → Prop} {a b : Int32} (hd : decode Y.2.1 pc = .ok (.isub, 1)) (k : zX Y d kc ks (pc + 1) L (.int (a - b) :: S) g σ Q) : zX Y d kc ks (pc) L (.int b :: .int a :: S) g σ Q := by
  intro p l e R s m args below meth c H locs cells slots Q2 dC dI cy ρ A ls hC hRO hK hA hc hs hw hl hP hD hS ret
  exact lv_isub hC.1 hC.2.1 hd (k p l e R s m args below meth c H locs cells slots Q2 dC dI cy ρ A ls hC hRO hK hA hc hs hw hl hP hD hS ret)
theorem x_imul {Y : zM} {d kc ks pc : Nat} {L S : List Value} {g : zG} {σ : zI} {Q : Option Value → zG → zI → Prop} {a b : Int32} (hd : decode Y.2.1 pc = .ok (.imul, 1)) (k : zX Y d kc ks (pc + 1) L (.int (a * b) :: S) g σ Q) : zX Y d kc ks (pc) L (.int b :: .int a :: S) g σ Q := by
  intro p l e R s m args below meth c H locs cells slots Q2 dC dI cy ρ A ls hC hRO hK hA hc hs hw hl hP hD hS ret
  exact lv_imul hC.1 hC.2.1 hd (k p l e R s m args below meth c H locs cells slots Q2 dC dI cy ρ A ls hC hRO hK hA hc hs hw hl hP hD hS ret)
theorem x_iand {Y : zM} {d kc ks pc : Nat} {L S : List Value} {g : zG} {σ : zI} {Q : Option Value → zG → zI → Prop} {a b : Int32} (hd : decode Y.2.1 pc = .ok (.iand, 1)) (k : zX Y d kc ks (pc + 1) L (.int (a &&& b) :: S) g σ Q) : zX Y d kc ks (pc) L (.int b :: .int a :: S) g σ Q := by
  intro p l e R s m args below meth c H locs cells slots Q2 dC dI cy ρ A ls hC hRO hK hA hc hs hw hl hP hD hS ret
  exact lv_iand hC.1 hC.2.1 hd (k p l e R s m args below meth c H locs cells slots Q2 dC dI cy ρ A ls hC hRO hK hA hc hs hw hl hP hD hS ret)
theorem x_ior {Y : zM} {d kc ks pc : Nat} {L S : List Value} {g : zG} {σ : zI} {Q : Option Value → zG → zI → Prop} {a b : Int32} (hd : decode Y.2.1 pc = .ok (.ior, 1)) (k : zX Y d kc ks (pc + 1) L (.int (a ||| b) :: S) g σ Q) : zX Y d kc ks (pc) L (.int b :: .int a :: S) g σ Q := by
  intro p l e R s m args below meth c H locs cells slots Q2 dC dI cy ρ A ls hC hRO hK hA hc hs hw hl hP hD hS ret
  exact lv_ior hC.1 hC.2.1 hd (k p l e R s m args below meth c H locs cells slots Q2 dC dI cy ρ A ls hC hRO hK hA hc hs hw hl hP hD hS ret)
theorem x_ixor {Y : zM} {d kc ks pc : Nat} {L S : List Value} {g : zG} {σ : zI} {Q : Option Value → zG → zI → Prop} {a b : Int32} (hd : decode Y.2.1 pc = .ok (.ixor, 1)) (k : zX Y d kc ks (pc + 1) L (.int (a ^^^ b) :: S) g σ Q) : zX Y d kc ks (pc) L (.int b :: .int a :: S) g σ Q := by
  intro p l e R s m args below meth c H locs cells slots Q2 dC dI cy ρ A ls hC hRO hK hA hc hs hw hl hP hD hS ret
  exact lv_ixor hC.1 hC.2.1 hd (k p l e R s m args below meth c H locs cells slots Q2 dC dI cy ρ A ls hC hRO hK hA hc hs hw hl hP hD hS ret)
theorem x_ishl {Y : zM} {d kc ks pc : Nat} {L S : List Value} {g : zG} {σ : zI} {Q : Option Value → zG → zI → Prop} {a b : Int32} (hd : decode Y.2.1 pc = .ok (.ishl, 1)) (k : zX Y d kc ks (pc + 1) L (.int (a <<< (b &&& 31)) :: S) g σ Q) : zX Y d kc ks (pc) L (.int b :: .int a :: S) g σ Q := by
  intro p l e R s m args below meth c H locs cells slots Q2 dC dI cy ρ A ls hC hRO hK hA hc hs hw hl hP hD hS ret
  exact lv_ishl hC.1 hC.2.1 hd (k p l e R s m args below meth c H locs cells slots Q2 dC dI cy ρ A ls hC hRO hK hA hc hs hw hl hP hD hS ret)
theorem x_ishr {Y : zM} {d kc ks pc : Nat} {L S : List Value} {g : zG} {σ : zI} {Q : Option Value → zG → zI → Prop} {a b : Int32} (hd : decode Y.2.1 pc = .ok (.ishr, 1)) (k : zX Y d kc ks (pc + 1) L (.int (a >>> (b &&& 31)) :: S) g σ Q) : zX Y d kc ks (pc) L (.int b :: .int a :: S) g σ Q := by
  intro p l e R s m args below meth c H locs cells slots Q2 dC dI cy ρ A ls hC hRO hK hA hc hs hw hl hP hD hS ret
  exact lv_ishr hC.1 hC.2.1 hd (k p l e R s m args below meth c H locs cells slots Q2 dC dI cy ρ A ls hC hRO hK hA hc hs hw hl hP hD hS ret)
theorem x_iushr {Y : zM} {d kc ks pc : Nat} {L S : List Value} {g : zG} {σ : zI} {Q : Option Value → zG → zI → Prop} {a b : Int32} (hd : decode Y.2.1 pc = .ok (.iushr, 1)) (k : zX Y d kc ks (pc + 1) L (.int ((a.toUInt32 >>> (b.toUInt32 &&& Int32.toUInt32 31)).toInt32) :: S) g σ Q) : zX Y d kc ks (pc) L (.int b :: .int a :: S) g σ Q := by
  intro p l e R s m args below meth c H locs cells slots Q2 dC dI cy ρ A ls hC hRO hK hA hc hs hw hl hP hD hS ret
  exact lv_iushr hC.1 hC.2.1 hd rfl (k p l e R s m args below meth c H locs cells slots Q2 dC dI cy ρ A ls hC hRO hK hA hc hs hw hl hP hD hS ret)
theorem x_idiv {Y : zM} {d kc ks pc : Nat} {L S : List Value} {g : zG} {σ : zI} {Q : Option Value → zG → zI → Prop} {a b : Int32} (hd : decode Y.2.1 pc = .ok (.idiv, 1)) (hb0 : ¬ b = 0) (k : zX Y d kc ks (pc + 1) L (.int (a / b) :: S) g σ Q) : zX Y d kc ks (pc) L (.int b :: .int a :: S) g σ Q := by
  intro p l e R s m args below meth c H locs cells slots Q2 dC dI cy ρ A ls hC hRO hK hA hc hs hw hl hP hD hS ret
  exact lv_idiv hC.1 hC.2.1 hd hb0 (k p l e R s m args below meth c H locs cells slots Q2 dC dI cy ρ A ls hC hRO hK hA hc hs hw hl hP hD hS ret)
theorem x_irem {Y : zM} {d kc ks pc : Nat} {L S : List Value} {g : zG} {σ : zI} {Q : Option Value → zG → zI → Prop} {a b : Int32} (hd : decode Y.2.1 pc = .ok (.irem, 1)) (hb0 : ¬ b = 0) (k : zX Y d kc ks (pc + 1) L (.int (a - a / b * b) :: S) g σ Q) : zX Y d kc ks (pc) L (.int b :: .int a :: S) g σ Q := by
  intro p l e R s m args below meth c H locs cells slots Q2 dC dI cy ρ A ls hC hRO hK hA hc hs hw hl hP hD hS ret
  exact lv_irem hC.1 hC.2.1 hd hb0 (k p l e R s m args below meth c H locs cells slots Q2 dC dI cy ρ A ls hC hRO hK hA hc hs hw hl hP hD hS ret)
theorem x_ineg {Y : zM} {d kc ks pc : Nat} {L S : List Value} {g : zG} {σ : zI} {Q : Option Value → zG → zI → Prop} {a : Int32} (hd : decode Y.2.1 pc = .ok (.ineg, 1)) (k : zX Y d kc ks (pc + 1) L (.int (-a) :: S) g σ Q) : zX Y d kc ks (pc) L (.int a :: S) g σ Q := by
  intro p l e R s m args below meth c H locs cells slots Q2 dC dI cy ρ A ls hC hRO hK hA hc hs hw hl hP hD hS ret
  exact lv_ineg hC.1 hC.2.1 hd (k p l e R s m args below meth c H locs cells slots Q2 dC dI cy ρ A ls hC hRO hK hA hc hs hw hl hP hD hS ret)
theorem x_i2b {Y : zM} {d kc ks pc : Nat} {L S : List Value} {g : zG} {σ : zI} {Q : Option Value → zG → zI → Prop} {a : Int32} (hd : decode Y.2.1 pc = .ok (.i2b, 1)) (k : zX Y d kc ks (pc + 1) L (.int (a.toInt8.toInt32) :: S) g σ Q) : zX Y d kc ks (pc) L (.int a :: S) g σ Q := by
  intro p l e R s m args below meth c H locs cells slots Q2 dC dI cy ρ A ls hC hRO hK hA hc hs hw hl hP hD hS ret
  exact lv_i2b hC.1 hC.2.1 hd rfl (k p l e R s m args below meth c H locs cells slots Q2 dC dI cy ρ A ls hC hRO hK hA hc hs hw hl hP hD hS ret)
theorem x_i2s {Y : zM} {d kc ks pc : Nat} {L S : List Value} {g : zG} {σ : zI} {Q : Option Value → zG → zI → Prop} {a : Int32} (hd : decode Y.2.1 pc = .ok (.i2s, 1)) (k : zX Y d kc ks (pc + 1) L (.int (a.toInt16.toInt32) :: S) g σ Q) : zX Y d kc ks (pc) L (.int a :: S) g σ Q := by
  intro p l e R s m args below meth c H locs cells slots Q2 dC dI cy ρ A ls hC hRO hK hA hc hs hw hl hP hD hS ret
  exact lv_i2s hC.1 hC.2.1 hd rfl (k p l e R s m args below meth c H locs cells slots Q2 dC dI cy ρ A ls hC hRO hK hA hc hs hw hl hP hD hS ret)
theorem x_i2c {Y : zM} {d kc ks pc : Nat} {L S : List Value} {g : zG} {σ : zI} {Q : Option Value → zG → zI → Prop} {a : Int32} (hd : decode Y.2.1 pc = .ok (.i2c, 1)) (k : zX Y d kc ks (pc + 1) L (.int ((a.toUInt32 % 65536).toInt32) :: S) g σ Q) : zX Y d kc ks (pc) L (.int a :: S) g σ Q := by
  intro p l e R s m args below meth c H locs cells slots Q2 dC dI cy ρ A ls hC hRO hK hA hc hs hw hl hP hD hS ret
  exact lv_i2c hC.1 hC.2.1 hd rfl (k p l e R s m args below meth c H locs cells slots Q2 dC dI cy ρ A ls hC hRO hK hA hc hs hw hl hP hD hS ret)
theorem x_i2l {Y : zM} {d kc ks pc : Nat} {L S : List Value} {g : zG} {σ : zI} {Q : Option Value → zG → zI → Prop} {a : Int32} (hd : decode Y.2.1 pc = .ok (.i2l, 1)) (k : zX Y d kc ks (pc + 1) L (.long a.toInt64 :: S) g σ Q) : zX Y d kc ks (pc) L (.int a :: S) g σ Q := by
  intro p l e R s m args below meth c H locs cells slots Q2 dC dI cy ρ A ls hC hRO hK hA hc hs hw hl hP hD hS ret
  exact lv_i2l hC.1 hC.2.1 hd rfl (k p l e R s m args below meth c H locs cells slots Q2 dC dI cy ρ A ls hC hRO hK hA hc hs hw hl hP hD hS ret)
theorem x_l2i {Y : zM} {d kc ks pc : Nat} {L S : List Value} {g : zG} {σ : zI} {Q : Option Value → zG → zI → Prop} {a : Int64} (hd : decode Y.2.1 pc = .ok (.l2i, 1)) (k : zX Y d kc ks (pc + 1) L (.int a.toInt32 :: S) g σ Q) : zX Y d kc ks (pc) L (.long a :: S) g σ Q := by
  intro p l e R s m args below meth c H locs cells slots Q2 dC dI cy ρ A ls hC hRO hK hA hc hs hw hl hP hD hS ret
  exact lv_l2i hC.1 hC.2.1 hd rfl (k p l e R s m args below meth c H locs cells slots Q2 dC dI cy ρ A ls hC hRO hK hA hc hs hw hl hP hD hS ret)
theorem x_ladd {Y : zM} {d kc ks pc : Nat} {L S : List Value} {g : zG} {σ : zI} {Q : Option Value → zG → zI → Prop} {a b : Int64} (hd : decode Y.2.1 pc = .ok (.ladd, 1)) (k : zX Y d kc ks (pc + 1) L (.long (a + b) :: S) g σ Q) : zX Y d kc ks (pc) L (.long b :: .long a :: S) g σ Q := by
  intro p l e R s m args below meth c H locs cells slots Q2 dC dI cy ρ A ls hC hRO hK hA hc hs hw hl hP hD hS ret
  exact lv_ladd hC.1 hC.2.1 hd (k p l e R s m args below meth c H locs cells slots Q2 dC dI cy ρ A ls hC hRO hK hA hc hs hw hl hP hD hS ret)
theorem x_lmul {Y : zM} {d kc ks pc : Nat} {L S : List Value} {g : zG} {σ : zI} {Q : Option Value → zG → zI → Prop} {a b : Int64} (hd : decode Y.2.1 pc = .ok (.lmul, 1)) (k : zX Y d kc ks (pc + 1) L (.long (a * b) :: S) g σ Q) : zX Y d kc ks (pc) L (.long b :: .long a :: S) g σ Q := by
  intro p l e R s m args below meth c H locs cells slots Q2 dC dI cy ρ A ls hC hRO hK hA hc hs hw hl hP hD hS ret
  exact lv_lmul hC.1 hC.2.1 hd (k p l e R s m args below meth c H locs cells slots Q2 dC dI cy ρ A ls hC hRO hK hA hc hs hw hl hP hD hS ret)
theorem x_lcmp {Y : zM} {d kc ks pc : Nat} {L S : List Value} {g : zG} {σ : zI} {Q : Option Value → zG → zI → Prop} {a b : Int64} (hd : decode Y.2.1 pc = .ok (.lcmp, 1)) (k : zX Y d kc ks (pc + 1) L (.int (lg_cmp a b) :: S) g σ Q) : zX Y d kc ks (pc) L (.long b :: .long a :: S) g σ Q := by
  intro p l e R s m args below meth c H locs cells slots Q2 dC dI cy ρ A ls hC hRO hK hA hc hs hw hl hP hD hS ret
  exact W.lcmp hC.1 hC.2.1 hd (k p l e R s m args below meth c H locs cells slots Q2 dC dI cy ρ A ls hC hRO hK hA hc hs hw hl hP hD hS ret)
theorem x_iconst {Y : zM} {d kc ks pc : Nat} {L S : List Value} {g : zG} {σ : zI} {Q : Option Value → zG → zI → Prop} {n : Int} {v : Int32} (hd : decode Y.2.1 pc = .ok (.iconst n, 1)) (hv : Int32.ofInt n = v) (k : zX Y d kc ks (pc + 1) L (.int v :: S) g σ Q) : zX Y d kc ks (pc) L (S) g σ Q := by
  intro p l e R s m args below meth c H locs cells slots Q2 dC dI cy ρ A ls hC hRO hK hA hc hs hw hl hP hD hS ret
  exact lv_iconst hC.1 hC.2.1 hd hv (k p l e R s m args below meth c H locs cells slots Q2 dC dI cy ρ A ls hC hRO hK hA hc hs hw hl hP hD hS ret)
theorem x_bipush {Y : zM} {d kc ks pc : Nat} {L S : List Value} {g : zG} {σ : zI} {Q : Option Value → zG → zI → Prop} {n : Int} {v : Int32} (hd : decode Y.2.1 pc = .ok (.bipush n, 2)) (hv : (Int8.ofInt n).toInt32 = v) (k : zX Y d kc ks (pc + 2) L (.int v :: S) g σ Q) : zX Y d kc ks (pc) L (S) g σ Q := by
  intro p l e R s m args below meth c H locs cells slots Q2 dC dI cy ρ A ls hC hRO hK hA hc hs hw hl hP hD hS ret
  exact lv_bipush hC.1 hC.2.1 hd hv (k p l e R s m args below meth c H locs cells slots Q2 dC dI cy ρ A ls hC hRO hK hA hc hs hw hl hP hD hS ret)
theorem x_sipush {Y : zM} {d kc ks pc : Nat} {L S : List Value} {g : zG} {σ : zI} {Q : Option Value → zG → zI → Prop} {n : Int} {v : Int32} (hd : decode Y.2.1 pc = .ok (.sipush n, 3)) (hv : (Int16.ofInt n).toInt32 = v) (k : zX Y d kc ks (pc + 3) L (.int v :: S) g σ Q) : zX Y d kc ks (pc) L (S) g σ Q := by
  intro p l e R s m args below meth c H locs cells slots Q2 dC dI cy ρ A ls hC hRO hK hA hc hs hw hl hP hD hS ret
  exact lv_sipush hC.1 hC.2.1 hd hv (k p l e R s m args below meth c H locs cells slots Q2 dC dI cy ρ A ls hC hRO hK hA hc hs hw hl hP hD hS ret)
theorem x_lconst {Y : zM} {d kc ks pc : Nat} {L S : List Value} {g : zG} {σ : zI} {Q : Option Value → zG → zI → Prop} {n : Fin 2} {v : Int64} (hd : decode Y.2.1 pc = .ok (.lconst n, 1)) (hv : Int64.ofNat (n : Nat) = v) (k : zX Y d kc ks (pc + 1) L (.long v :: S) g σ Q) : zX Y d kc ks (pc) L (S) g σ Q := by
  intro p l e R s m args below meth c H locs cells slots Q2 dC dI cy ρ A ls hC hRO hK hA hc hs hw hl hP hD hS ret
  exact lv_lconst hC.1 hC.2.1 hd hv (k p l e R s m args below meth c H locs cells slots Q2 dC dI cy ρ A ls hC hRO hK hA hc hs hw hl hP hD hS ret)
theorem x_null {Y : zM} {d kc ks pc : Nat} {L S : List Value} {g : zG} {σ : zI} {Q : Option Value → zG → zI → Prop}  (hd : decode Y.2.1 pc = .ok (.aconst_null, 1)) (k : zX Y d kc ks (pc + 1) L (.null :: S) g σ Q) : zX Y d kc ks (pc) L (S) g σ Q := by
  intro p l e R s m args below meth c H locs cells slots Q2 dC dI cy ρ A ls hC hRO hK hA hc hs hw hl hP hD hS ret
  exact lv_null hC.1 hC.2.1 hd (k p l e R s m args below meth c H locs cells slots Q2 dC dI cy ρ A ls hC hRO hK hA hc hs hw hl hP hD hS ret)
theorem x_ldc {Y : zM} {d kc ks pc : Nat} {L S : List Value} {g : zG} {σ : zI} {Q : Option Value → zG → zI → Prop} {i : Nat} {v : Int32} (hd : decode Y.2.1 pc = .ok (.ldc i, 2)) (hv : Cond.constant Y.1.cls i v ∈ zT) (k : zX Y d kc ks (pc + 2) L (.int v :: S) g σ Q) : zX Y d kc ks (pc) L (S) g σ Q := by
  intro p l e R s m args below meth c H locs cells slots Q2 dC dI cy ρ A ls hC hRO hK hA hc hs hw hl hP hD hS ret
  exact lv_ldc hC.1 hC.2.1 hC.2.2.2.2.2.2.1 (hC.2.2.2.2.2.1 _ hv) hd (k p l e R s m args below meth c H locs cells slots Q2 dC dI cy ρ A ls hC hRO hK hA hc hs hw hl hP hD hS ret)
theorem x_ldcw {Y : zM} {d kc ks pc : Nat} {L S : List Value} {g : zG} {σ : zI} {Q : Option Value → zG → zI → Prop} {i : Nat} {v : Int32} (hd : decode Y.2.1 pc = .ok (.ldc_w i, 3)) (hv : Cond.constant Y.1.cls i v ∈ zT) (k : zX Y d kc ks (pc + 3) L (.int v :: S) g σ Q) : zX Y d kc ks (pc) L (S) g σ Q := by
  intro p l e R s m args below meth c H locs cells slots Q2 dC dI cy ρ A ls hC hRO hK hA hc hs hw hl hP hD hS ret
  exact lv_ldcw hC.1 hC.2.1 hC.2.2.2.2.2.2.1 (hC.2.2.2.2.2.1 _ hv) hd (k p l e R s m args below meth c H locs cells slots Q2 dC dI cy ρ A ls hC hRO hK hA hc hs hw hl hP hD hS ret)
theorem x_ldc2 {Y : zM} {d kc ks pc : Nat} {L S : List Value} {g : zG} {σ : zI} {Q : Option Value → zG → zI → Prop} {i : Nat} {v : Int64} (hd : decode Y.2.1 pc = .ok (.ldc2_w i, 3)) (hv : Cond.constantLong Y.1.cls i v ∈ zT) (k : zX Y d kc ks (pc + 3) L (.long v :: S) g σ Q) : zX Y d kc ks (pc) L (S) g σ Q := by
  intro p l e R s m args below meth c H locs cells slots Q2 dC dI cy ρ A ls hC hRO hK hA hc hs hw hl hP hD hS ret
  exact lv_ldc2 hC.1 hC.2.1 hC.2.2.2.2.2.2.1 (hC.2.2.2.2.2.1 _ hv) hd (k p l e R s m args below meth c H locs cells slots Q2 dC dI cy ρ A ls hC hRO hK hA hc hs hw hl hP hD hS ret)
theorem x_ldcs {Y : zM} {d kc ks pc : Nat} {L S : List Value} {g : zG} {σ : zI} {Q : Option Value → zG → zI → Prop} {i j : Nat} {t : String} (hd : decode Y.2.1 pc = .ok (.ldc i, 2)) (hv : (Y.1.cls, i, t, j) ∈ zSR) (k : zX Y d kc ks (pc + 2) L (.ref (1000 + j) :: S) g σ Q) : zX Y d kc ks (pc) L (S) g σ Q := by
  intro p l e R s m args below meth c H locs cells slots Q2 dC dI cy ρ A ls hC hRO hK hA hc hs hw hl hP hD hS ret
  exact va_ldcS hC.1 hC.2.1 hC.2.2.2.2.2.2.1 (hRO.2.2.1 _ hv) hd (k p l e R s m args below meth c H locs cells slots Q2 dC dI cy ρ A ls hC hRO hK hA hc hs hw hl hP hD hS ret)
theorem zv_cat (ρ : Nat → Nat) (v : Value) : (zv ρ v).category = v.category := by cases v <;> rfl
theorem zL_at {ρ : Nat → Nat} {ls : Array Slot} {nL : Nat} {L : List Value} {i : Nat} {v : Value} (h : zL ls nL (L.map (zv ρ))) (hv : L[i]? = some v) (hj : zv ρ v ≠ .retAddr 0) : ls[i]? = some (.val (zv ρ v)) := h.2.2 i _ (by rw [List.getElem?_map, hv]; rfl) hj
def zst : Nat → List Value → Value → List Value
  | 0, [], v => [v]
  | 0, _ :: r, v => v :: r
  | i + 1, [], v => .retAddr 0 :: zst i [] v
  | i + 1, a :: r, v => a :: zst i r v
def zlk : Nat → List Value → Bool
  | 0, _ => true
  | 1, a :: _ => a.category == 1
  | i + 2, _ :: r => zlk (i + 1) r
  | _ + 1, [] => true
theorem zst_map (ρ : Nat → Nat) (v : Value) : ∀ (i : Nat) (L : List Value), (zst i L v).map (zv ρ) = zst i (L.map (zv ρ)) (zv ρ v)
  | 0, [] => rfl
  | 0, _ :: _ => rfl
  | i + 1, [] => by show .retAddr 0 :: (zst i [] v).map (zv ρ) = .retAddr 0 :: zst i [] (zv ρ v); rw [zst_map ρ v i []]; rfl
  | i + 1, a :: r => by show zv ρ a :: (zst i r v).map (zv ρ) = zv ρ a :: zst i (r.map (zv ρ)) (zv ρ v); rw [zst_map ρ v i r]
theorem zlk_map (ρ : Nat → Nat) : ∀ (i : Nat) (L : List Value), zlk i (L.map (zv ρ)) = zlk i L
  | 0, [] => rfl
  | 0, _ :: _ => rfl
  | 1, [] => rfl
  | 1, a :: _ => by show ((zv ρ a).category == 1) = (a.category == 1); rw [zv_cat]
  | i + 2, [] => rfl
  | i + 2, _ :: r => zlk_map ρ (i + 1) r
theorem zst_get {v : Value} : ∀ (i : Nat) (L : List Value), zlk i L = true → ∀ (j : Nat) (w : Value), (zst i L v)[j]? = some w → w = .retAddr 0 ∨ (j = i ∧ w = v) ∨ (j ≠ i ∧ L[j]? = some w ∧ (j + 1 = i → w.category = 1))
  | 0, [], _, 0, w, h => by cases h; exact Or.inr (Or.inl ⟨rfl, rfl⟩)
  | 0, [], _, j + 1, w, h => by simp [zst] at h
  | 0, a :: r, _, 0, w, h => by cases h; exact Or.inr (Or.inl ⟨rfl, rfl⟩)
  | 0, a :: r, _, j + 1, w, h => Or.inr (Or.inr ⟨by omega, h, by omega⟩)
  | i + 1, [], _, 0, w, h => by cases h; exact Or.inl rfl
  | i + 1, [], hk, j + 1, w, h => by
    have hk' : zlk i [] = true := by cases i with
      | zero => rfl
      | succ i => cases i <;> rfl
    rcases zst_get i [] hk' j w h with q | ⟨q1, q2⟩ | ⟨q1, q2, q3⟩
    · exact Or.inl q
    · exact Or.inr (Or.inl ⟨by omega, q2⟩)
    · simp at q2
  | i + 1, a :: r, hk, 0, w, h => by
    cases h
    refine Or.inr (Or.inr ⟨by omega, rfl, fun e => ?_⟩)
    cases i with
    | zero => exact eq_of_beq hk
    | succ i => omega
  | i + 1, a :: r, hk, j + 1, w, h => by
    have hk' : zlk i r = true := by cases i with
      | zero => cases r <;> rfl
      | succ i => exact hk
    rcases zst_get i r hk' j w h with q | ⟨q1, q2⟩ | ⟨q1, q2, q3⟩
    · exact Or.inl q
    · exact Or.inr (Or.inl ⟨by omega, q2⟩)
    · exact Or.inr (Or.inr ⟨by omega, q2, fun e => q3 (by omega)⟩)
/-- the listed locals, by place -/
def zA (L : List Value) : List (Nat × Value) := (List.range L.length).filterMap (fun i => match L[i]? with | some v => if v = .retAddr 0 then none else some (i, v) | none => none)
theorem zA_in {L : List Value} {i : Nat} {v : Value} (h : L[i]? = some v) (hj : v ≠ .retAddr 0) : (i, v) ∈ zA L := by
  refine List.mem_filterMap.mpr ⟨i, List.mem_range.mpr (List.getElem?_eq_some_iff.mp h).1, ?_⟩
  rw [h]
  exact if_neg hj
theorem zA_has {ls : Array Slot} {nL : Nat} {L : List Value} (h : zL ls nL L) : lv_has ls nL (zA L) := by
  refine ⟨h.1, h.2.1, fun q hq => ?_⟩
  obtain ⟨i, -, hi⟩ := List.mem_filterMap.mp hq
  cases hL : L[i]? with
  | none => rw [hL] at hi; cases hi
  | some v =>
    rw [hL] at hi
    by_cases hv : v = .retAddr 0
    · simp [hv] at hi
    · simp [hv] at hi
      rw [← hi]
      exact h.2.2 i v hL hv
theorem zA_st1 {ls : Array Slot} {nL i : Nat} {L : List Value} {v : Value} (hlk : zlk i L = true) (h : lv_has ls nL ((i, v) :: (zA L).filter (fun q => !(q.1 == i) && !(q.1 + 1 == i && q.2.category == 2)))) : zL ls nL (zst i L v) := by
  refine ⟨h.1, h.2.1, fun j w hw hj => ?_⟩
  rcases zst_get i L hlk j w hw with q | ⟨q1, q2⟩ | ⟨q1, q2, q3⟩
  · exact absurd q hj
  · subst q1; subst q2
    exact h.2.2 (j, w) List.mem_cons_self
  · refine h.2.2 (j, w) (List.mem_cons_of_mem _ (List.mem_filter.mpr ⟨zA_in q2 hj, ?_⟩))
    by_cases e : j + 1 = i
    · simp [q1, q3 e]
    · simp [q1, e]
theorem zA_st2 {ls : Array Slot} {nL i : Nat} {L : List Value} {v : Value} (hlk : zlk i L = true) (h : lv_has ls nL ((i, v) :: (zA L).filter (fun q => !(q.1 == i) && (!(q.1 == i + 1) && !(q.1 + 1 == i && q.2.category == 2))))) : zL ls nL (zst (i + 1) (zst i L v) (.retAddr 0)) := by
  refine ⟨h.1, h.2.1, fun j w hw hj => ?_⟩
  have key : j ≠ i + 1 ∧ (zst i L v)[j]? = some w := by
    clear h hlk
    have aux : ∀ (i : Nat) (M : List Value) (j : Nat), (zst i M (.retAddr 0))[j]? = some w → j ≠ i ∧ M[j]? = some w := by
      intro i
      induction i with
      | zero =>
        intro M j hM
        cases M with
        | nil => cases j with
          | zero => cases hM; exact absurd rfl hj
          | succ j => simp [zst] at hM
        | cons a r => cases j with
          | zero => cases hM; exact absurd rfl hj
          | succ j => exact ⟨by omega, hM⟩
      | succ i ih =>
        intro M j hM
        cases M with
        | nil => cases j with
          | zero => cases hM; exact absurd rfl hj
          | succ j =>
            obtain ⟨a1, a2⟩ := ih [] j hM
            simp at a2
        | cons a r => cases j with
          | zero => cases hM; exact ⟨by omega, rfl⟩
          | succ j =>
            obtain ⟨a1, a2⟩ := ih r j hM
            exact ⟨by omega, a2⟩
    exact aux (i + 1) _ j hw
  rcases zst_get i L hlk j w key.2 with q | ⟨q1, q2⟩ | ⟨q1, q2, q3⟩
  · exact absurd q hj
  · subst q1; subst q2
    exact h.2.2 (j, w) List.mem_cons_self
  · refine h.2.2 (j, w) (List.mem_cons_of_mem _ (List.mem_filter.mpr ⟨zA_in q2 hj, ?_⟩))
    by_cases e : j + 1 = i
    · simp [q1, key.1, q3 e]
    · simp [q1, key.1, e]
theorem x_iload {Y : zM} {d kc ks pc : Nat} {L S : List Value} {g : zG} {σ : zI} {Q : Option Value → zG → zI → Prop} {i : Nat} {x : Int32} (hd : decode Y.2.1 pc = .ok (.iload i, 2)) (hv : L[i]? = some (.int x)) (k : zX Y d kc ks (pc + 2) L (.int x :: S) g σ Q) : zX Y d kc ks (pc) L (S) g σ Q := by
  intro p l e R s m args below meth c H locs cells slots Q2 dC dI cy ρ A ls hC hRO hK hA hc hs hw hl hP hD hS ret
  exact lv_iload hC.1 hC.2.1 hd (zL_at hl hv (by simp [zv])) (k p l e R s m args below meth c H locs cells slots Q2 dC dI cy ρ A ls hC hRO hK hA hc hs hw hl hP hD hS ret)
theorem x_lload {Y : zM} {d kc ks pc : Nat} {L S : List Value} {g : zG} {σ : zI} {Q : Option Value → zG → zI → Prop} {i : Nat} {x : Int64} (hd : decode Y.2.1 pc = .ok (.lload i, 2)) (hv : L[i]? = some (.long x)) (k : zX Y d kc ks (pc + 2) L (.long x :: S) g σ Q) : zX Y d kc ks (pc) L (S) g σ Q := by
  intro p l e R s m args below meth c H locs cells slots Q2 dC dI cy ρ A ls hC hRO hK hA hc hs hw hl hP hD hS ret
  exact lv_lload hC.1 hC.2.1 hd (zL_at hl hv (by simp [zv])) (k p l e R s m args below meth c H locs cells slots Q2 dC dI cy ρ A ls hC hRO hK hA hc hs hw hl hP hD hS ret)
theorem x_iload_n {Y : zM} {d kc ks pc : Nat} {L S : List Value} {g : zG} {σ : zI} {Q : Option Value → zG → zI → Prop} {i : Fin 4} {x : Int32} (hd : decode Y.2.1 pc = .ok (.iload_n i, 1)) (hv : L[(i : Nat)]? = some (.int x)) (k : zX Y d kc ks (pc + 1) L (.int x :: S) g σ Q) : zX Y d kc ks (pc) L (S) g σ Q := by
  intro p l e R s m args below meth c H locs cells slots Q2 dC dI cy ρ A ls hC hRO hK hA hc hs hw hl hP hD hS ret
  exact lv_iload_n hC.1 hC.2.1 hd rfl (zL_at hl hv (by simp [zv])) (k p l e R s m args below meth c H locs cells slots Q2 dC dI cy ρ A ls hC hRO hK hA hc hs hw hl hP hD hS ret)
theorem x_aload {Y : zM} {d kc ks pc : Nat} {L S : List Value} {g : zG} {σ : zI} {Q : Option Value → zG → zI → Prop} {i : Nat} {x : Nat} (hd : decode Y.2.1 pc = .ok (.aload i, 2)) (hv : L[i]? = some (.ref x)) (k : zX Y d kc ks (pc + 2) L (.ref x :: S) g σ Q) : zX Y d kc ks (pc) L (S) g σ Q := by
  intro p l e R s m args below meth c H locs cells slots Q2 dC dI cy ρ A ls hC hRO hK hA hc hs hw hl hP hD hS ret
  exact lv_aload hC.1 hC.2.1 hd (zL_at hl hv (by simp [zv])) (k p l e R s m args below meth c H locs cells slots Q2 dC dI cy ρ A ls hC hRO hK hA hc hs hw hl hP hD hS ret)
theorem x_aload_n {Y : zM} {d kc ks pc : Nat} {L S : List Value} {g : zG} {σ : zI} {Q : Option Value → zG → zI → Prop} {i : Fin 4} {x : Nat} (hd : decode Y.2.1 pc = .ok (.aload_n i, 1)) (hv : L[(i : Nat)]? = some (.ref x)) (k : zX Y d kc ks (pc + 1) L (.ref x :: S) g σ Q) : zX Y d kc ks (pc) L (S) g σ Q := by
  intro p l e R s m args below meth c H locs cells slots Q2 dC dI cy ρ A ls hC hRO hK hA hc hs hw hl hP hD hS ret
  exact lv_aload_n hC.1 hC.2.1 hd rfl (zL_at hl hv (by simp [zv])) (k p l e R s m args below meth c H locs cells slots Q2 dC dI cy ρ A ls hC hRO hK hA hc hs hw hl hP hD hS ret)
theorem x_aloadN {Y : zM} {d kc ks pc : Nat} {L S : List Value} {g : zG} {σ : zI} {Q : Option Value → zG → zI → Prop} {i : Nat} (hd : decode Y.2.1 pc = .ok (.aload i, 2)) (hv : L[i]? = some .null) (k : zX Y d kc ks (pc + 2) L (.null :: S) g σ Q) : zX Y d kc ks (pc) L (S) g σ Q := by
  intro p l e R s m args below meth c H locs cells slots Q2 dC dI cy ρ A ls hC hRO hK hA hc hs hw hl hP hD hS ret
  exact lv_aloadN hC.1 hC.2.1 hd (zL_at hl hv (by simp [zv])) (k p l e R s m args below meth c H locs cells slots Q2 dC dI cy ρ A ls hC hRO hK hA hc hs hw hl hP hD hS ret)
theorem x_aload_nN {Y : zM} {d kc ks pc : Nat} {L S : List Value} {g : zG} {σ : zI} {Q : Option Value → zG → zI → Prop} {i : Fin 4} (hd : decode Y.2.1 pc = .ok (.aload_n i, 1)) (hv : L[(i : Nat)]? = some .null) (k : zX Y d kc ks (pc + 1) L (.null :: S) g σ Q) : zX Y d kc ks (pc) L (S) g σ Q := by
  intro p l e R s m args below meth c H locs cells slots Q2 dC dI cy ρ A ls hC hRO hK hA hc hs hw hl hP hD hS ret
  exact lv_aload_nN hC.1 hC.2.1 hd rfl (zL_at hl hv (by simp [zv])) (k p l e R s m args below meth c H locs cells slots Q2 dC dI cy ρ A ls hC hRO hK hA hc hs hw hl hP hD hS ret)
theorem x_istore {Y : zM} {d kc ks pc : Nat} {L S : List Value} {g : zG} {σ : zI} {Q : Option Value → zG → zI → Prop} {i : Nat} {x : Int32} (hd : decode Y.2.1 pc = .ok (.istore i, 2)) (hlk : zlk i L = true) (hn : i < Y.2.2.1) {L2 : List Value} (hL2 : zst i L (.int x) = L2) (k : zX Y d kc ks (pc + 2) L2 (S) g σ Q) : zX Y d kc ks (pc) L (.int x :: S) g σ Q := by
  intro p l e R s m args below meth c H locs cells slots Q2 dC dI cy ρ A ls hC hRO hK hA hc hs hw hl hP hD hS ret
  subst hL2
  exact lv_istore hC.1 hC.2.1 hd (zA_has hl) hn rfl (fun ls1 hl1 => (k p l e R s m args below meth c H locs cells slots Q2 dC dI cy ρ A ls1 hC hRO hK hA hc hs hw (by rw [zst_map]; exact zA_st1 (by rw [zlk_map]; exact hlk) hl1) hP hD hS ret))
theorem x_istore_n {Y : zM} {d kc ks pc : Nat} {L S : List Value} {g : zG} {σ : zI} {Q : Option Value → zG → zI → Prop} {i : Fin 4} {x : Int32} (hd : decode Y.2.1 pc = .ok (.istore_n i, 1)) (hlk : zlk (i : Nat) L = true) (hn : (i : Nat) < Y.2.2.1) {L2 : List Value} (hL2 : zst (i : Nat) L (.int x) = L2) (k : zX Y d kc ks (pc + 1) L2 (S) g σ Q) : zX Y d kc ks (pc) L (.int x :: S) g σ Q := by
  intro p l e R s m args below meth c H locs cells slots Q2 dC dI cy ρ A ls hC hRO hK hA hc hs hw hl hP hD hS ret
  subst hL2
  exact lv_istore_n hC.1 hC.2.1 hd rfl (zA_has hl) hn rfl (fun ls1 hl1 => (k p l e R s m args below meth c H locs cells slots Q2 dC dI cy ρ A ls1 hC hRO hK hA hc hs hw (by rw [zst_map]; exact zA_st1 (by rw [zlk_map]; exact hlk) hl1) hP hD hS ret))
theorem x_astore {Y : zM} {d kc ks pc : Nat} {L S : List Value} {g : zG} {σ : zI} {Q : Option Value → zG → zI → Prop} {i : Nat} {x : Nat} (hd : decode Y.2.1 pc = .ok (.astore i, 2)) (hlk : zlk i L = true) (hn : i < Y.2.2.1) {L2 : List Value} (hL2 : zst i L (.ref x) = L2) (k : zX Y d kc ks (pc + 2) L2 (S) g σ Q) : zX Y d kc ks (pc) L (.ref x :: S) g σ Q := by
  intro p l e R s m args below meth c H locs cells slots Q2 dC dI cy ρ A ls hC hRO hK hA hc hs hw hl hP hD hS ret
  subst hL2
  exact lv_astore hC.1 hC.2.1 hd (zA_has hl) hn rfl (fun ls1 hl1 => (k p l e R s m args below meth c H locs cells slots Q2 dC dI cy ρ A ls1 hC hRO hK hA hc hs hw (by rw [zst_map]; exact zA_st1 (by rw [zlk_map]; exact hlk) hl1) hP hD hS ret))
theorem x_astore_n {Y : zM} {d kc ks pc : Nat} {L S : List Value} {g : zG} {σ : zI} {Q : Option Value → zG → zI → Prop} {i : Fin 4} {x : Nat} (hd : decode Y.2.1 pc = .ok (.astore_n i, 1)) (hlk : zlk (i : Nat) L = true) (hn : (i : Nat) < Y.2.2.1) {L2 : List Value} (hL2 : zst (i : Nat) L (.ref x) = L2) (k : zX Y d kc ks (pc + 1) L2 (S) g σ Q) : zX Y d kc ks (pc) L (.ref x :: S) g σ Q := by
  intro p l e R s m args below meth c H locs cells slots Q2 dC dI cy ρ A ls hC hRO hK hA hc hs hw hl hP hD hS ret
  subst hL2
  exact lv_astore_n hC.1 hC.2.1 hd rfl (zA_has hl) hn rfl (fun ls1 hl1 => (k p l e R s m args below meth c H locs cells slots Q2 dC dI cy ρ A ls1 hC hRO hK hA hc hs hw (by rw [zst_map]; exact zA_st1 (by rw [zlk_map]; exact hlk) hl1) hP hD hS ret))
theorem x_astoreN {Y : zM} {d kc ks pc : Nat} {L S : List Value} {g : zG} {σ : zI} {Q : Option Value → zG → zI → Prop} {i : Nat} (hd : decode Y.2.1 pc = .ok (.astore i, 2)) (hlk : zlk i L = true) (hn : i < Y.2.2.1) {L2 : List Value} (hL2 : zst i L (.null) = L2) (k : zX Y d kc ks (pc + 2) L2 (S) g σ Q) : zX Y d kc ks (pc) L (.null :: S) g σ Q := by
  intro p l e R s m args below meth c H locs cells slots Q2 dC dI cy ρ A ls hC hRO hK hA hc hs hw hl hP hD hS ret
  subst hL2
  exact lv_astoreN hC.1 hC.2.1 hd (zA_has hl) hn rfl (fun ls1 hl1 => (k p l e R s m args below meth c H locs cells slots Q2 dC dI cy ρ A ls1 hC hRO hK hA hc hs hw (by rw [zst_map]; exact zA_st1 (by rw [zlk_map]; exact hlk) hl1) hP hD hS ret))
theorem x_astore_nN {Y : zM} {d kc ks pc : Nat} {L S : List Value} {g : zG} {σ : zI} {Q : Option Value → zG → zI → Prop} {i : Fin 4} (hd : decode Y.2.1 pc = .ok (.astore_n i, 1)) (hlk : zlk (i : Nat) L = true) (hn : (i : Nat) < Y.2.2.1) {L2 : List Value} (hL2 : zst (i : Nat) L (.null) = L2) (k : zX Y d kc ks (pc + 1) L2 (S) g σ Q) : zX Y d kc ks (pc) L (.null :: S) g σ Q := by
  intro p l e R s m args below meth c H locs cells slots Q2 dC dI cy ρ A ls hC hRO hK hA hc hs hw hl hP hD hS ret
  subst hL2
  exact lv_astore_nN hC.1 hC.2.1 hd rfl (zA_has hl) hn rfl (fun ls1 hl1 => (k p l e R s m args below meth c H locs cells slots Q2 dC dI cy ρ A ls1 hC hRO hK hA hc hs hw (by rw [zst_map]; exact zA_st1 (by rw [zlk_map]; exact hlk) hl1) hP hD hS ret))
theorem x_lstore {Y : zM} {d kc ks pc : Nat} {L S : List Value} {g : zG} {σ : zI} {Q : Option Value → zG → zI → Prop} {i : Nat} {x : Int64} (hd : decode Y.2.1 pc = .ok (.lstore i, 2)) (hlk : zlk i L = true) (hn : i + 1 < Y.2.2.1) {L2 : List Value} (hL2 : zst (i + 1) (zst i L (.long x)) (.retAddr 0) = L2) (k : zX Y d kc ks (pc + 2) L2 (S) g σ Q) : zX Y d kc ks (pc) L (.long x :: S) g σ Q := by
  intro p l e R s m args below meth c H locs cells slots Q2 dC dI cy ρ A ls hC hRO hK hA hc hs hw hl hP hD hS ret
  subst hL2
  exact lv_lstore hC.1 hC.2.1 hd (zA_has hl) hn rfl (fun ls1 hl1 => (k p l e R s m args below meth c H locs cells slots Q2 dC dI cy ρ A ls1 hC hRO hK hA hc hs hw (by rw [zst_map, zst_map]; exact zA_st2 (by rw [zlk_map]; exact hlk) hl1) hP hD hS ret))
theorem x_iinc {Y : zM} {d kc ks pc : Nat} {L S : List Value} {g : zG} {σ : zI} {Q : Option Value → zG → zI → Prop} {i : Nat} {n : Int} {x v : Int32} (hd : decode Y.2.1 pc = .ok (.iinc i n, 3)) (hx : L[i]? = some (.int x)) (hv : x + Int32.ofInt n = v) (hlk : zlk i L = true) (hn : i < Y.2.2.1) {L2 : List Value} (hL2 : zst i L (.int v) = L2) (k : zX Y d kc ks (pc + 3) L2 (S) g σ Q) : zX Y d kc ks (pc) L (S) g σ Q := by
  intro p l e R s m args below meth c H locs cells slots Q2 dC dI cy ρ A ls hC hRO hK hA hc hs hw hl hP hD hS ret
  subst hL2
  have hm : (i, Value.int x) ∈ zA (L.map (zv ρ)) := zA_in (by rw [List.getElem?_map, hx]; rfl) (by simp [zv])
  obtain ⟨j, hj⟩ := List.getElem?_of_mem hm
  exact lv_iinc hC.1 hC.2.1 hd (zA_has hl) hj hv hn rfl (fun ls1 hl1 => (k p l e R s m args below meth c H locs cells slots Q2 dC dI cy ρ A ls1 hC hRO hK hA hc hs hw (by rw [zst_map]; exact zA_st1 (by rw [zlk_map]; exact hlk) hl1) hP hD hS ret))
theorem x_dup {Y : zM} {d kc ks pc : Nat} {L S : List Value} {g : zG} {σ : zI} {Q : Option Value → zG → zI → Prop} {v : Value} (hd : decode Y.2.1 pc = .ok (.dup, 1)) (hv : v.category = 1) (k : zX Y d kc ks (pc + 1) L (v :: v :: S) g σ Q) : zX Y d kc ks (pc) L (v :: S) g σ Q := by
  intro p l e R s m args below meth c H locs cells slots Q2 dC dI cy ρ A ls hC hRO hK hA hc hs hw hl hP hD hS ret
  exact lv_dup hC.1 hC.2.1 hd ((zv_cat ρ v).trans hv) (k p l e R s m args below meth c H locs cells slots Q2 dC dI cy ρ A ls hC hRO hK hA hc hs hw hl hP hD hS ret)
theorem x_pop {Y : zM} {d kc ks pc : Nat} {L S : List Value} {g : zG} {σ : zI} {Q : Option Value → zG → zI → Prop} {v : Value} (hd : decode Y.2.1 pc = .ok (.pop, 1)) (hv : v.category = 1) (k : zX Y d kc ks (pc + 1) L (S) g σ Q) : zX Y d kc ks (pc) L (v :: S) g σ Q := by
  intro p l e R s m args below meth c H locs cells slots Q2 dC dI cy ρ A ls hC hRO hK hA hc hs hw hl hP hD hS ret
  exact lv_pop hC.1 hC.2.1 hd ((zv_cat ρ v).trans hv) (k p l e R s m args below meth c H locs cells slots Q2 dC dI cy ρ A ls hC hRO hK hA hc hs hw hl hP hD hS ret)
theorem x_dup_x1 {Y : zM} {d kc ks pc : Nat} {L S : List Value} {g : zG} {σ : zI} {Q : Option Value → zG → zI → Prop} {v w : Value} (hd : decode Y.2.1 pc = .ok (.dup_x1, 1)) (hv : v.category = 1) (hw1 : w.category = 1) (k : zX Y d kc ks (pc + 1) L (v :: w :: v :: S) g σ Q) : zX Y d kc ks (pc) L (v :: w :: S) g σ Q := by
  intro p l e R s m args below meth c H locs cells slots Q2 dC dI cy ρ A ls hC hRO hK hA hc hs hw hl hP hD hS ret
  exact lv_dup_x1 hC.1 hC.2.1 hd ((zv_cat ρ v).trans hv) ((zv_cat ρ w).trans hw1) (k p l e R s m args below meth c H locs cells slots Q2 dC dI cy ρ A ls hC hRO hK hA hc hs hw hl hP hD hS ret)
theorem x_dup2 {Y : zM} {d kc ks pc : Nat} {L S : List Value} {g : zG} {σ : zI} {Q : Option Value → zG → zI → Prop} {v w : Value} (hd : decode Y.2.1 pc = .ok (.dup2, 1)) (hv : v.category = 1) (hw1 : w.category = 1) (k : zX Y d kc ks (pc + 1) L (v :: w :: v :: w :: S) g σ Q) : zX Y d kc ks (pc) L (v :: w :: S) g σ Q := by
  intro p l e R s m args below meth c H locs cells slots Q2 dC dI cy ρ A ls hC hRO hK hA hc hs hw hl hP hD hS ret
  exact lv_dup2_11 hC.1 hC.2.1 hd ((zv_cat ρ v).trans hv) ((zv_cat ρ w).trans hw1) (k p l e R s m args below meth c H locs cells slots Q2 dC dI cy ρ A ls hC hRO hK hA hc hs hw hl hP hD hS ret)
theorem x_if_eq {Y : zM} {d kc ks pc : Nat} {L S : List Value} {g : zG} {σ : zI} {Q : Option Value → zG → zI → Prop} {a : Int32} {off : Int} {tgt : Nat} (hd : decode Y.2.1 pc = .ok (.ifCond .eq off, 3)) (ht : (pc : Int) + off = (tgt : Int)) (k1 : a = 0 → zX Y d kc ks (tgt) L (S) g σ Q) (k2 : ¬ a = 0 → zX Y d kc ks (pc + 3) L (S) g σ Q) : zX Y d kc ks (pc) L (.int a :: S) g σ Q := by
  intro p l e R s m args below meth c H locs cells slots Q2 dC dI cy ρ A ls hC hRO hK hA hc hs hw hl hP hD hS ret
  exact lv_if_eq hC.1 hC.2.1 hd ht (fun q => (k1 q p l e R s m args below meth c H locs cells slots Q2 dC dI cy ρ A ls hC hRO hK hA hc hs hw hl hP hD hS ret)) (fun q => (k2 q p l e R s m args below meth c H locs cells slots Q2 dC dI cy ρ A ls hC hRO hK hA hc hs hw hl hP hD hS ret))
theorem x_if_ne {Y : zM} {d kc ks pc : Nat} {L S : List Value} {g : zG} {σ : zI} {Q : Option Value → zG → zI → Prop} {a : Int32} {off : Int} {tgt : Nat} (hd : decode Y.2.1 pc = .ok (.ifCond .ne off, 3)) (ht : (pc : Int) + off = (tgt : Int)) (k1 : ¬ a = 0 → zX Y d kc ks (tgt) L (S) g σ Q) (k2 : a = 0 → zX Y d kc ks (pc + 3) L (S) g σ Q) : zX Y d kc ks (pc) L (.int a :: S) g σ Q := by
  intro p l e R s m args below meth c H locs cells slots Q2 dC dI cy ρ A ls hC hRO hK hA hc hs hw hl hP hD hS ret
  exact lv_if_ne hC.1 hC.2.1 hd ht (fun q => (k1 q p l e R s m args below meth c H locs cells slots Q2 dC dI cy ρ A ls hC hRO hK hA hc hs hw hl hP hD hS ret)) (fun q => (k2 q p l e R s m args below meth c H locs cells slots Q2 dC dI cy ρ A ls hC hRO hK hA hc hs hw hl hP hD hS ret))
theorem x_if_lt {Y : zM} {d kc ks pc : Nat} {L S : List Value} {g : zG} {σ : zI} {Q : Option Value → zG → zI → Prop} {a : Int32} {off : Int} {tgt : Nat} (hd : decode Y.2.1 pc = .ok (.ifCond .lt off, 3)) (ht : (pc : Int) + off = (tgt : Int)) (k1 : a < 0 → zX Y d kc ks (tgt) L (S) g σ Q) (k2 : ¬ a < 0 → zX Y d kc ks (pc + 3) L (S) g σ Q) : zX Y d kc ks (pc) L (.int a :: S) g σ Q := by
  intro p l e R s m args below meth c H locs cells slots Q2 dC dI cy ρ A ls hC hRO hK hA hc hs hw hl hP hD hS ret
  exact lv_if_lt hC.1 hC.2.1 hd ht (fun q => (k1 q p l e R s m args below meth c H locs cells slots Q2 dC dI cy ρ A ls hC hRO hK hA hc hs hw hl hP hD hS ret)) (fun q => (k2 q p l e R s m args below meth c H locs cells slots Q2 dC dI cy ρ A ls hC hRO hK hA hc hs hw hl hP hD hS ret))
theorem x_if_ge {Y : zM} {d kc ks pc : Nat} {L S : List Value} {g : zG} {σ : zI} {Q : Option Value → zG → zI → Prop} {a : Int32} {off : Int} {tgt : Nat} (hd : decode Y.2.1 pc = .ok (.ifCond .ge off, 3)) (ht : (pc : Int) + off = (tgt : Int)) (k1 : 0 ≤ a → zX Y d kc ks (tgt) L (S) g σ Q) (k2 : ¬ 0 ≤ a → zX Y d kc ks (pc + 3) L (S) g σ Q) : zX Y d kc ks (pc) L (.int a :: S) g σ Q := by
  intro p l e R s m args below meth c H locs cells slots Q2 dC dI cy ρ A ls hC hRO hK hA hc hs hw hl hP hD hS ret
  exact lv_if_ge hC.1 hC.2.1 hd ht (fun q => (k1 q p l e R s m args below meth c H locs cells slots Q2 dC dI cy ρ A ls hC hRO hK hA hc hs hw hl hP hD hS ret)) (fun q => (k2 q p l e R s m args below meth c H locs cells slots Q2 dC dI cy ρ A ls hC hRO hK hA hc hs hw hl hP hD hS ret))
theorem x_if_gt {Y : zM} {d kc ks pc : Nat} {L S : List Value} {g : zG} {σ : zI} {Q : Option Value → zG → zI → Prop} {a : Int32} {off : Int} {tgt : Nat} (hd : decode Y.2.1 pc = .ok (.ifCond .gt off, 3)) (ht : (pc : Int) + off = (tgt : Int)) (k1 : 0 < a → zX Y d kc ks (tgt) L (S) g σ Q) (k2 : ¬ 0 < a → zX Y d kc ks (pc + 3) L (S) g σ Q) : zX Y d kc ks (pc) L (.int a :: S) g σ Q := by
  intro p l e R s m args below meth c H locs cells slots Q2 dC dI cy ρ A ls hC hRO hK hA hc hs hw hl hP hD hS ret
  exact lv_if_gt hC.1 hC.2.1 hd ht (fun q => (k1 q p l e R s m args below meth c H locs cells slots Q2 dC dI cy ρ A ls hC hRO hK hA hc hs hw hl hP hD hS ret)) (fun q => (k2 q p l e R s m args below meth c H locs cells slots Q2 dC dI cy ρ A ls hC hRO hK hA hc hs hw hl hP hD hS ret))
theorem x_if_le {Y : zM} {d kc ks pc : Nat} {L S : List Value} {g : zG} {σ : zI} {Q : Option Value → zG → zI → Prop} {a : Int32} {off : Int} {tgt : Nat} (hd : decode Y.2.1 pc = .ok (.ifCond .le off, 3)) (ht : (pc : Int) + off = (tgt : Int)) (k1 : a ≤ 0 → zX Y d kc ks (tgt) L (S) g σ Q) (k2 : ¬ a ≤ 0 → zX Y d kc ks (pc + 3) L (S) g σ Q) : zX Y d kc ks (pc) L (.int a :: S) g σ Q := by
  intro p l e R s m args below meth c H locs cells slots Q2 dC dI cy ρ A ls hC hRO hK hA hc hs hw hl hP hD hS ret
  exact lv_if_le hC.1 hC.2.1 hd ht (fun q => (k1 q p l e R s m args below meth c H locs cells slots Q2 dC dI cy ρ A ls hC hRO hK hA hc hs hw hl hP hD hS ret)) (fun q => (k2 q p l e R s m args below meth c H locs cells slots Q2 dC dI cy ρ A ls hC hRO hK hA hc hs hw hl hP hD hS ret))
theorem x_icmp_eq {Y : zM} {d kc ks pc : Nat} {L S : List Value} {g : zG} {σ : zI} {Q : Option Value → zG → zI → Prop} {a b : Int32} {off : Int} {tgt : Nat} (hd : decode Y.2.1 pc = .ok (.if_icmp .eq off, 3)) (ht : (pc : Int) + off = (tgt : Int)) (k1 : a = b → zX Y d kc ks (tgt) L (S) g σ Q) (k2 : ¬ a = b → zX Y d kc ks (pc + 3) L (S) g σ Q) : zX Y d kc ks (pc) L (.int b :: .int a :: S) g σ Q := by
  intro p l e R s m args below meth c H locs cells slots Q2 dC dI cy ρ A ls hC hRO hK hA hc hs hw hl hP hD hS ret
  exact lv_icmp_eq hC.1 hC.2.1 hd ht (fun q => (k1 q p l e R s m args below meth c H locs cells slots Q2 dC dI cy ρ A ls hC hRO hK hA hc hs hw hl hP hD hS ret)) (fun q => (k2 q p l e R s m args below meth c H locs cells slots Q2 dC dI cy ρ A ls hC hRO hK hA hc hs hw hl hP hD hS ret))
theorem x_icmp_ne {Y : zM} {d kc ks pc : Nat} {L S : List Value} {g : zG} {σ : zI} {Q : Option Value → zG → zI → Prop} {a b : Int32} {off : Int} {tgt : Nat} (hd : decode Y.2.1 pc = .ok (.if_icmp .ne off, 3)) (ht : (pc : Int) + off = (tgt : Int)) (k1 : ¬ a = b → zX Y d kc ks (tgt) L (S) g σ Q) (k2 : a = b → zX Y d kc ks (pc + 3) L (S) g σ Q) : zX Y d kc ks (pc) L (.int b :: .int a :: S) g σ Q := by
  intro p l e R s m args below meth c H locs cells slots Q2 dC dI cy ρ A ls hC hRO hK hA hc hs hw hl hP hD hS ret
  exact lv_icmp_ne hC.1 hC.2.1 hd ht (fun q => (k1 q p l e R s m args below meth c H locs cells slots Q2 dC dI cy ρ A ls hC hRO hK hA hc hs hw hl hP hD hS ret)) (fun q => (k2 q p l e R s m args below meth c H locs cells slots Q2 dC dI cy ρ A ls hC hRO hK hA hc hs hw hl hP hD hS ret))
theorem x_icmp_lt {Y : zM} {d kc ks pc : Nat} {L S : List Value} {g : zG} {σ : zI} {Q : Option Value → zG → zI → Prop} {a b : Int32} {off : Int} {tgt : Nat} (hd : decode Y.2.1 pc = .ok (.if_icmp .lt off, 3)) (ht : (pc : Int) + off = (tgt : Int)) (k1 : a < b → zX Y d kc ks (tgt) L (S) g σ Q) (k2 : ¬ a < b → zX Y d kc ks (pc + 3) L (S) g σ Q) : zX Y d kc ks (pc) L (.int b :: .int a :: S) g σ Q := by
  intro p l e R s m args below meth c H locs cells slots Q2 dC dI cy ρ A ls hC hRO hK hA hc hs hw hl hP hD hS ret
  exact lv_icmp_lt hC.1 hC.2.1 hd ht (fun q => (k1 q p l e R s m args below meth c H locs cells slots Q2 dC dI cy ρ A ls hC hRO hK hA hc hs hw hl hP hD hS ret)) (fun q => (k2 q p l e R s m args below meth c H locs cells slots Q2 dC dI cy ρ A ls hC hRO hK hA hc hs hw hl hP hD hS ret))
theorem x_icmp_ge {Y : zM} {d kc ks pc : Nat} {L S : List Value} {g : zG} {σ : zI} {Q : Option Value → zG → zI → Prop} {a b : Int32} {off : Int} {tgt : Nat} (hd : decode Y.2.1 pc = .ok (.if_icmp .ge off, 3)) (ht : (pc : Int) + off = (tgt : Int)) (k1 : b ≤ a → zX Y d kc ks (tgt) L (S) g σ Q) (k2 : ¬ b ≤ a → zX Y d kc ks (pc + 3) L (S) g σ Q) : zX Y d kc ks (pc) L (.int b :: .int a :: S) g σ Q := by
  intro p l e R s m args below meth c H locs cells slots Q2 dC dI cy ρ A ls hC hRO hK hA hc hs hw hl hP hD hS ret
  exact lv_icmp_ge hC.1 hC.2.1 hd ht (fun q => (k1 q p l e R s m args below meth c H locs cells slots Q2 dC dI cy ρ A ls hC hRO hK hA hc hs hw hl hP hD hS ret)) (fun q => (k2 q p l e R s m args below meth c H locs cells slots Q2 dC dI cy ρ A ls hC hRO hK hA hc hs hw hl hP hD hS ret))
theorem x_icmp_gt {Y : zM} {d kc ks pc : Nat} {L S : List Value} {g : zG} {σ : zI} {Q : Option Value → zG → zI → Prop} {a b : Int32} {off : Int} {tgt : Nat} (hd : decode Y.2.1 pc = .ok (.if_icmp .gt off, 3)) (ht : (pc : Int) + off = (tgt : Int)) (k1 : b < a → zX Y d kc ks (tgt) L (S) g σ Q) (k2 : ¬ b < a → zX Y d kc ks (pc + 3) L (S) g σ Q) : zX Y d kc ks (pc) L (.int b :: .int a :: S) g σ Q := by
  intro p l e R s m args below meth c H locs cells slots Q2 dC dI cy ρ A ls hC hRO hK hA hc hs hw hl hP hD hS ret
  exact lv_icmp_gt hC.1 hC.2.1 hd ht (fun q => (k1 q p l e R s m args below meth c H locs cells slots Q2 dC dI cy ρ A ls hC hRO hK hA hc hs hw hl hP hD hS ret)) (fun q => (k2 q p l e R s m args below meth c H locs cells slots Q2 dC dI cy ρ A ls hC hRO hK hA hc hs hw hl hP hD hS ret))
theorem x_icmp_le {Y : zM} {d kc ks pc : Nat} {L S : List Value} {g : zG} {σ : zI} {Q : Option Value → zG → zI → Prop} {a b : Int32} {off : Int} {tgt : Nat} (hd : decode Y.2.1 pc = .ok (.if_icmp .le off, 3)) (ht : (pc : Int) + off = (tgt : Int)) (k1 : a ≤ b → zX Y d kc ks (tgt) L (S) g σ Q) (k2 : ¬ a ≤ b → zX Y d kc ks (pc + 3) L (S) g σ Q) : zX Y d kc ks (pc) L (.int b :: .int a :: S) g σ Q := by
  intro p l e R s m args below meth c H locs cells slots Q2 dC dI cy ρ A ls hC hRO hK hA hc hs hw hl hP hD hS ret
  exact lv_icmp_le hC.1 hC.2.1 hd ht (fun q => (k1 q p l e R s m args below meth c H locs cells slots Q2 dC dI cy ρ A ls hC hRO hK hA hc hs hw hl hP hD hS ret)) (fun q => (k2 q p l e R s m args below meth c H locs cells slots Q2 dC dI cy ρ A ls hC hRO hK hA hc hs hw hl hP hD hS ret))
theorem x_goto {Y : zM} {d kc ks pc : Nat} {L S : List Value} {g : zG} {σ : zI} {Q : Option Value → zG → zI → Prop} {off : Int} {tgt : Nat} (hd : decode Y.2.1 pc = .ok (.goto off, 3)) (ht : (pc : Int) + off = (tgt : Int)) (k : zX Y d kc ks (tgt) L (S) g σ Q) : zX Y d kc ks (pc) L (S) g σ Q := by
  intro p l e R s m args below meth c H locs cells slots Q2 dC dI cy ρ A ls hC hRO hK hA hc hs hw hl hP hD hS ret
  exact lv_goto hC.1 hC.2.1 hd ht (k p l e R s m args below meth c H locs cells slots Q2 dC dI cy ρ A ls hC hRO hK hA hc hs hw hl hP hD hS ret)
theorem x_ifnull {Y : zM} {d kc ks pc : Nat} {L S : List Value} {g : zG} {σ : zI} {Q : Option Value → zG → zI → Prop} {x : Nat} {off : Int} (hd : decode Y.2.1 pc = .ok (.ifnull off, 3)) (k : zX Y d kc ks (pc + 3) L (S) g σ Q) : zX Y d kc ks (pc) L (.ref x :: S) g σ Q := by
  intro p l e R s m args below meth c H locs cells slots Q2 dC dI cy ρ A ls hC hRO hK hA hc hs hw hl hP hD hS ret
  exact lv_ifnull hC.1 hC.2.1 hd (k p l e R s m args below meth c H locs cells slots Q2 dC dI cy ρ A ls hC hRO hK hA hc hs hw hl hP hD hS ret)
theorem x_ifnullN {Y : zM} {d kc ks pc : Nat} {L S : List Value} {g : zG} {σ : zI} {Q : Option Value → zG → zI → Prop} {off : Int} {tgt : Nat} (hd : decode Y.2.1 pc = .ok (.ifnull off, 3)) (ht : (pc : Int) + off = (tgt : Int)) (k : zX Y d kc ks (tgt) L (S) g σ Q) : zX Y d kc ks (pc) L (.null :: S) g σ Q := by
  intro p l e R s m args below meth c H locs cells slots Q2 dC dI cy ρ A ls hC hRO hK hA hc hs hw hl hP hD hS ret
  exact lv_ifnullN hC.1 hC.2.1 hd ht (k p l e R s m args below meth c H locs cells slots Q2 dC dI cy ρ A ls hC hRO hK hA hc hs hw hl hP hD hS ret)
theorem x_ifnonnull {Y : zM} {d kc ks pc : Nat} {L S : List Value} {g : zG} {σ : zI} {Q : Option Value → zG → zI → Prop} {x : Nat} {off : Int} {tgt : Nat} (hd : decode Y.2.1 pc = .ok (.ifnonnull off, 3)) (ht : (pc : Int) + off = (tgt : Int)) (k : zX Y d kc ks (tgt) L (S) g σ Q) : zX Y d kc ks (pc) L (.ref x :: S) g σ Q := by
  intro p l e R s m args below meth c H locs cells slots Q2 dC dI cy ρ A ls hC hRO hK hA hc hs hw hl hP hD hS ret
  exact lv_ifnonnull hC.1 hC.2.1 hd ht (k p l e R s m args below meth c H locs cells slots Q2 dC dI cy ρ A ls hC hRO hK hA hc hs hw hl hP hD hS ret)
theorem x_ifnonnullN {Y : zM} {d kc ks pc : Nat} {L S : List Value} {g : zG} {σ : zI} {Q : Option Value → zG → zI → Prop} {off : Int} (hd : decode Y.2.1 pc = .ok (.ifnonnull off, 3)) (k : zX Y d kc ks (pc + 3) L (S) g σ Q) : zX Y d kc ks (pc) L (.null :: S) g σ Q := by
  intro p l e R s m args below meth c H locs cells slots Q2 dC dI cy ρ A ls hC hRO hK hA hc hs hw hl hP hD hS ret
  exact lv_ifnonnullN hC.1 hC.2.1 hd (k p l e R s m args below meth c H locs cells slots Q2 dC dI cy ρ A ls hC hRO hK hA hc hs hw hl hP hD hS ret)
theorem x_tsw {Y : zM} {d kc ks pc : Nat} {L S : List Value} {g : zG} {σ : zI} {Q : Option Value → zG → zI → Prop} {a : Int32} {dflt lo hi off : Int} {offs : Array Int} {len tgt : Nat} (hd : decode Y.2.1 pc = .ok (.tableswitch dflt lo hi offs, len)) (h1 : ¬ a.toInt < lo) (h2 : ¬ hi < a.toInt) (ho : offs[(a.toInt - lo).toNat]? = some off) (ht : (pc : Int) + off = (tgt : Int)) (k : zX Y d kc ks (tgt) L (S) g σ Q) : zX Y d kc ks (pc) L (.int a :: S) g σ Q := by
  intro p l e R s m args below meth c H locs cells slots Q2 dC dI cy ρ A ls hC hRO hK hA hc hs hw hl hP hD hS ret
  exact lv_tableIn hC.1 hC.2.1 hd h1 h2 ho ht (k p l e R s m args below meth c H locs cells slots Q2 dC dI cy ρ A ls hC hRO hK hA hc hs hw hl hP hD hS ret)
theorem x_tswd {Y : zM} {d kc ks pc : Nat} {L S : List Value} {g : zG} {σ : zI} {Q : Option Value → zG → zI → Prop} {a : Int32} {dflt lo hi : Int} {offs : Array Int} {len tgt : Nat} (hd : decode Y.2.1 pc = .ok (.tableswitch dflt lo hi offs, len)) (h : a.toInt < lo ∨ hi < a.toInt) (ht : (pc : Int) + dflt = (tgt : Int)) (k : zX Y d kc ks (tgt) L (S) g σ Q) : zX Y d kc ks (pc) L (.int a :: S) g σ Q := by
  intro p l e R s m args below meth c H locs cells slots Q2 dC dI cy ρ A ls hC hRO hK hA hc hs hw hl hP hD hS ret
  exact lv_tableOut hC.1 hC.2.1 hd h ht (k p l e R s m args below meth c H locs cells slots Q2 dC dI cy ρ A ls hC hRO hK hA hc hs hw hl hP hD hS ret)
theorem x_lsw {Y : zM} {d kc ks pc : Nat} {L S : List Value} {g : zG} {σ : zI} {Q : Option Value → zG → zI → Prop} {a : Int32} {dflt off : Int} {ps : Array (Int × Int)} {len tgt : Nat} (hd : decode Y.2.1 pc = .ok (.lookupswitch dflt ps, len)) (hp : (ps.toList.zip (ps.toList.drop 1)).all (fun (a, next) => a.1 < next.1) = true) (ho : Op.lookupswitch.offset ps.toList dflt a.toInt = off) (ht : (pc : Int) + off = (tgt : Int)) (k : zX Y d kc ks (tgt) L (S) g σ Q) : zX Y d kc ks (pc) L (.int a :: S) g σ Q := by
  intro p l e R s m args below meth c H locs cells slots Q2 dC dI cy ρ A ls hC hRO hK hA hc hs hw hl hP hD hS ret
  exact lv_lookup hC.1 hC.2.1 hd hp ho ht (k p l e R s m args below meth c H locs cells slots Q2 dC dI cy ρ A ls hC hRO hK hA hc hs hw hl hP hD hS ret)
