/-! the grammar of TEXTS -/
abbrev zRs := Bool × zTk × List Nat
def opT (t : Nat) : Option Nat := if t = 42 then some 8 else none
def opS (t : Nat) : Option Nat := if t = 43 then some 6 else if t = 45 then some 7 else none
def opC (t : Nat) : Option Nat := if t = 60 then some 9 else if t = 61 then some 10 else none
def opA (t : Nat) : Option Nat := if t = 1010 then some 11 else none
def opO (t : Nat) : Option Nat := if t = 1009 then some 12 else none
def bnd2 (x : zRs) (h : zTk → List Nat → zRs) : zRs := if x.1 then h x.2.1 x.2.2 else (false, x.2.1, [])
theorem bnd2_t {x : zRs} {h : zTk → List Nat → zRs} (e : x.1 = true) : bnd2 x h = h x.2.1 x.2.2 := if_pos e
theorem bnd2_f {x : zRs} {h : zTk → List Nat → zRs} (e : x.1 = false) : bnd2 x h = (false, x.2.1, []) := if_neg (by rw [e]; decide)
def chR (N : zTk → zTk) (f : zTk → zRs) (op : Nat → Option Nat) : Nat → zTk → List Nat → zRs
  | 0, k, o => (true, k, o)
  | r + 1, k, o => match op k.2.2.1 with
    | none => (true, k, o)
    | some c => bnd2 (f (N k)) (fun k' o' => chR N f op r k' (o ++ o' ++ [c]))
theorem chR_n {N : zTk → zTk} {f : zTk → zRs} {op : Nat → Option Nat} {r : Nat} {k : zTk} {o : List Nat} (h : op k.2.2.1 = none) : chR N f op r k o = (true, k, o) := by
  cases r with
  | zero => rfl
  | succ r =>
    show (match op k.2.2.1 with | none => (true, k, o) | some c => bnd2 (f (N k)) (fun k' o' => chR N f op r k' (o ++ o' ++ [c]))) = _
    rw [h]
theorem chR_y {N : zTk → zTk} {f : zTk → zRs} {op : Nat → Option Nat} {r : Nat} {k : zTk} {o : List Nat} {c : Nat} (h : op k.2.2.1 = some c) : chR N f op (r + 1) k o = bnd2 (f (N k)) (fun k' o' => chR N f op r k' (o ++ o' ++ [c])) := by
  show (match op k.2.2.1 with | none => (true, k, o) | some c => bnd2 (f (N k)) (fun k' o' => chR N f op r k' (o ++ o' ++ [c]))) = _
  rw [h]
def chn (N : zTk → zTk) (z : Nat) (f : zTk → zRs) (op : Nat → Option Nat) (k : zTk) : zRs := bnd2 (f k) (fun k' o => chR N f op z k' o)
def cmR (N : zTk → zTk) (f : zTk → zRs) (k : zTk) : zRs := bnd2 (f k) (fun k' o => match opC k'.2.2.1 with
  | none => (true, k', o)
  | some c => bnd2 (f (N k')) (fun k2 o2 => (true, k2, o ++ o2 ++ [c])))
def sgR (N : zTk → zTk) (low : Option ((zTk → zRs) × (zTk → zRs))) (k : zTk) : zRs := if k.2.2.1 = 2 then (true, N k, [15 + k.2.2.2]) else if 1000 ≤ k.2.2.1 ∧ k.2.2.1 < 1006 then (true, N k, [k.2.2.1 - 1000]) else match low with
  | none => (false, k, [])
  | some (e, s) => if k.2.2.1 = 40 then bnd2 (e (N k)) (fun k' o => if k'.2.2.1 = 41 then (true, N k', o) else (false, k', [])) else if k.2.2.1 = 45 then bnd2 (s (N k)) (fun k' o => (true, k', o ++ [14])) else (false, k, [])
def ntR (N : zTk → zTk) (cmp : zTk → zRs) (low : Option (zTk → zRs)) (k : zTk) : zRs := if k.2.2.1 = 1011 then (match low with
  | none => (false, k, [])
  | some n => bnd2 (n (N k)) (fun k' o => (true, k', o ++ [13]))) else cmp k
def trR (N : zTk → zTk) (z : Nat) (s : zTk → zRs) : zTk → zRs := chn N z s opT
def smR (N : zTk → zTk) (z : Nat) (s : zTk → zRs) : zTk → zRs := chn N z (trR N z s) opS
def cpR (N : zTk → zTk) (z : Nat) (s : zTk → zRs) : zTk → zRs := cmR N (smR N z s)
def btR (N : zTk → zTk) (z : Nat) (n : zTk → zRs) : zTk → zRs := chn N z n opA
def etR (N : zTk → zTk) (z : Nat) (n : zTk → zRs) : zTk → zRs := chn N z (btR N z n) opO
def lvR (N : zTk → zTk) (z : Nat) : Nat → (zTk → zRs) × (zTk → zRs)
  | 0 => (sgR N none, ntR N (cpR N z (sgR N none)) none)
  | r + 1 => (sgR N (some (etR N z (lvR N z r).2, (lvR N z r).1)), ntR N (cpR N z (sgR N (some (etR N z (lvR N z r).2, (lvR N z r).1)))) (some (lvR N z r).2))
/-- what comes of a piece: a later TOKEN, no more codes than TOKENS, codes that leave one value -/
def gd (z D : Nat) (f : zTk → zRs) : Prop := ∀ k, okT z k → (f k).1 = true → okT z (f k).2.1 ∧ k.2.1 ≤ (f k).2.1.1 ∧ k.1 + (f k).2.2.length ≤ (f k).2.1.1 ∧ ∀ h rest, h + D ≤ 63 → okp rest (h + 1) → okp ((f k).2.2 ++ rest) h
def gN (z : Nat) (N : zTk → zTk) : Prop := ∀ k, okT z k → okT z (N k) ∧ k.2.1 ≤ (N k).1
theorem gd_up {z D D' : Nat} {f : zTk → zRs} (h : gd z D f) (hD : D ≤ D') : gd z D' f := fun k hk ht => by
  obtain ⟨a, b, c, e⟩ := h k hk ht
  exact ⟨a, b, c, fun h rest hh hr => e h rest (by omega) hr⟩
theorem okp_op {c k : Nat} {p : List Nat} (h1 : 6 ≤ c) (h2 : c ≤ 12) (hk : 2 ≤ k) (h : okp p (k - 1)) : okp (c :: p) k := ⟨by omega, fun q => by omega, fun q => by omega, fun _ => ⟨hk, h⟩⟩
theorem okp_un {c k : Nat} {p : List Nat} (h1 : c = 13 ∨ c = 14) (hk : 1 ≤ k) (h : okp p k) : okp (c :: p) k := ⟨by omega, fun q => by omega, fun _ => ⟨hk, h⟩, fun q => by omega⟩
theorem okp_va {c k : Nat} {p : List Nat} (h1 : c ≤ 5 ∨ 15 ≤ c) (h2 : c < 20000) (hk : k < 63) (h : okp p (k + 1)) : okp (c :: p) k := ⟨h2, fun _ => ⟨hk, h⟩, fun q => by omega, fun q => by omega⟩
def gO (op : Nat → Option Nat) : Prop := ∀ t c, op t = some c → t ≠ 1 ∧ 6 ≤ c ∧ c ≤ 12
theorem gO_T : gO opT := fun t c h => by
  unfold opT at h
  split at h <;> simp at h
  omega
theorem gO_S : gO opS := fun t c h => by
  unfold opS at h
  split at h
  · simp at h; omega
  · split at h <;> simp at h
    omega
theorem gO_C : gO opC := fun t c h => by
  unfold opC at h
  split at h
  · simp at h; omega
  · split at h <;> simp at h
    omega
theorem gO_A : gO opA := fun t c h => by
  unfold opA at h
  split at h <;> simp at h
  omega
theorem gO_O : gO opO := fun t c h => by
  unfold opO at h
  split at h <;> simp at h
  omega
section
variable {z : Nat} {N : zTk → zTk}
theorem chR_gd {D : Nat} {f : zTk → zRs} {op : Nat → Option Nat} (hN : gN z N) (hf : gd z D f) (ho : gO op) : ∀ r k o, okT z k → (chR N f op r k o).1 = true →
    okT z (chR N f op r k o).2.1 ∧ k.1 ≤ (chR N f op r k o).2.1.1 ∧ ∃ t, (chR N f op r k o).2.2 = o ++ t ∧ k.1 + t.length ≤ (chR N f op r k o).2.1.1 ∧ ∀ h rest, h + 1 + D ≤ 63 → okp rest (h + 1) → okp (t ++ rest) (h + 1)
  | 0, k, o, hk, _ => ⟨hk, Nat.le_refl _, [], by show o = o ++ []; simp, by show k.1 + 0 ≤ k.1; omega, fun h rest _ hr => hr⟩
  | r + 1, k, o, hk, ht => by
    cases h : op k.2.2.1 with
    | none =>
      rw [chR_n h]
      exact ⟨hk, Nat.le_refl _, [], by show o = o ++ []; simp, by show k.1 + 0 ≤ k.1; omega, fun h rest _ hr => hr⟩
    | some c =>
      rw [chR_y h] at ht ⊢
      obtain ⟨t1, c6, c12⟩ := ho _ _ h
      cases e : (f (N k)).1 with
      | false =>
        rw [bnd2_f e] at ht
        cases ht
      | true =>
        rw [bnd2_t e] at ht ⊢
        obtain ⟨n1, n2⟩ := hN k hk
        obtain ⟨a1, a2, a3, a4⟩ := hf (N k) n1 e
        obtain ⟨b1, b2, t, b3, b4, b5⟩ := chR_gd hN hf ho r (f (N k)).2.1 (o ++ (f (N k)).2.2 ++ [c]) a1 ht
        have k1 := hk.2.2.1 t1
        refine ⟨b1, by omega, (f (N k)).2.2 ++ [c] ++ t, by rw [b3]; simp [List.append_assoc], ?_, fun h rest hh hr => ?_⟩
        · simp only [List.length_append, List.length_singleton]
          omega
        · rw [List.append_assoc, List.append_assoc]
          refine a4 (h + 1) _ hh ?_
          show okp (c :: (t ++ rest)) (h + 1 + 1)
          exact okp_op c6 c12 (by omega) (b5 h rest hh hr)
theorem chn_gd {D : Nat} {f : zTk → zRs} {op : Nat → Option Nat} (hN : gN z N) (hf : gd z D f) (ho : gO op) : gd z (D + 1) (chn N z f op) := by
  intro k hk ht
  unfold chn at ht ⊢
  cases e : (f k).1 with
  | false =>
    rw [bnd2_f e] at ht
    cases ht
  | true =>
    rw [bnd2_t e] at ht ⊢
    obtain ⟨a1, a2, a3, a4⟩ := hf k hk e
    obtain ⟨b1, b2, t, b3, b4, b5⟩ := chR_gd hN hf ho z (f k).2.1 (f k).2.2 a1 ht
    refine ⟨b1, by omega, ?_, fun h rest hh hr => ?_⟩
    · rw [b3, List.length_append]
      omega
    · rw [b3, List.append_assoc]
      exact a4 h _ (by omega) (b5 h rest (by omega) hr)
theorem cmR_gd {D : Nat} {f : zTk → zRs} (hN : gN z N) (hf : gd z D f) : gd z (D + 1) (cmR N f) := by
  intro k hk ht
  unfold cmR at ht ⊢
  cases e : (f k).1 with
  | false =>
    rw [bnd2_f e] at ht
    cases ht
  | true =>
    rw [bnd2_t e] at ht ⊢
    obtain ⟨a1, a2, a3, a4⟩ := hf k hk e
    cases h : opC (f k).2.1.2.2.1 with
    | none =>
      rw [h] at ht
      exact ⟨a1, a2, a3, fun h rest hh hr => a4 h rest (by omega) hr⟩
    | some c =>
      rw [h] at ht
      obtain ⟨t1, c6, c12⟩ := gO_C _ _ h
      obtain ⟨n1, n2⟩ := hN (f k).2.1 a1
      have k1 := a1.2.2.1 t1
      have ht : (bnd2 (f (N (f k).2.1)) (fun k2 o2 => (true, k2, (f k).2.2 ++ o2 ++ [c]))).1 = true := ht
      show okT z (bnd2 (f (N (f k).2.1)) (fun k2 o2 => (true, k2, (f k).2.2 ++ o2 ++ [c]))).2.1 ∧ k.2.1 ≤ (bnd2 (f (N (f k).2.1)) (fun k2 o2 => (true, k2, (f k).2.2 ++ o2 ++ [c]))).2.1.1 ∧ k.1 + (bnd2 (f (N (f k).2.1)) (fun k2 o2 => (true, k2, (f k).2.2 ++ o2 ++ [c]))).2.2.length ≤ (bnd2 (f (N (f k).2.1)) (fun k2 o2 => (true, k2, (f k).2.2 ++ o2 ++ [c]))).2.1.1 ∧ ∀ h rest, h + (D + 1) ≤ 63 → okp rest (h + 1) → okp ((bnd2 (f (N (f k).2.1)) (fun k2 o2 => (true, k2, (f k).2.2 ++ o2 ++ [c]))).2.2 ++ rest) h
      cases e2 : (f (N (f k).2.1)).1 with
      | false =>
        rw [bnd2_f e2] at ht
        cases ht
      | true =>
        rw [bnd2_t e2]
        obtain ⟨b1, b2, b3, b4⟩ := hf (N (f k).2.1) n1 e2
        refine ⟨b1, by show k.2.1 ≤ (f (N (f k).2.1)).2.1.1; omega, ?_, fun h rest hh hr => ?_⟩
        · show k.1 + ((f k).2.2 ++ (f (N (f k).2.1)).2.2 ++ [c]).length ≤ (f (N (f k).2.1)).2.1.1
          simp only [List.length_append, List.length_singleton]
          omega
        · show okp (((f k).2.2 ++ (f (N (f k).2.1)).2.2 ++ [c]) ++ rest) h
          rw [List.append_assoc, List.append_assoc]
          refine a4 h _ (by omega) (b4 (h + 1) _ (by omega) ?_)
          show okp (c :: rest) (h + 1 + 1)
          exact okp_op c6 c12 (by omega) hr
theorem sgR_gd {D : Nat} {low : Option ((zTk → zRs) × (zTk → zRs))} (hN : gN z N) (h1D : 1 ≤ D) (hl : ∀ e s, low = some (e, s) → gd z D e ∧ gd z D s) : gd z D (sgR N low) := by
  intro k hk ht
  obtain ⟨n1, n2⟩ := hN k hk
  unfold sgR at ht ⊢
  by_cases c1 : k.2.2.1 = 2
  · rw [if_pos c1]
    have k1 := hk.2.2.1 (by omega)
    have k9 := hk.2.2.2.1
    refine ⟨n1, n2, by show k.1 + 1 ≤ (N k).1; omega, fun h rest hh hr => ?_⟩
    show okp ((15 + k.2.2.2) :: rest) h
    exact okp_va (by omega) (by omega) (by omega) hr
  · rw [if_neg c1] at ht ⊢
    by_cases c2 : 1000 ≤ k.2.2.1 ∧ k.2.2.1 < 1006
    · rw [if_pos c2]
      have k1 := hk.2.2.1 (by omega)
      refine ⟨n1, n2, by show k.1 + 1 ≤ (N k).1; omega, fun h rest hh hr => ?_⟩
      show okp ((k.2.2.1 - 1000) :: rest) h
      exact okp_va (by omega) (by omega) (by omega) hr
    · rw [if_neg c2] at ht ⊢
      cases low with
      | none => cases ht
      | some es =>
        obtain ⟨e, s⟩ := es
        obtain ⟨he, hs⟩ := hl e s rfl
        by_cases c3 : k.2.2.1 = 40
        · have k1 := hk.2.2.1 (by omega)
          have ht : (bnd2 (e (N k)) (fun k' o => if k'.2.2.1 = 41 then (true, N k', o) else (false, k', []))).1 = true := by
            have ht : (if k.2.2.1 = 40 then bnd2 (e (N k)) (fun k' o => if k'.2.2.1 = 41 then (true, N k', o) else (false, k', [])) else if k.2.2.1 = 45 then bnd2 (s (N k)) (fun k' o => (true, k', o ++ [14])) else (false, k, [])).1 = true := ht
            rw [if_pos c3] at ht; exact ht
          have eq : (match some (e, s) with | none => (false, k, []) | some (e, s) => if k.2.2.1 = 40 then bnd2 (e (N k)) (fun k' o => if k'.2.2.1 = 41 then (true, N k', o) else (false, k', [])) else if k.2.2.1 = 45 then bnd2 (s (N k)) (fun k' o => (true, k', o ++ [14])) else (false, k, [])) = bnd2 (e (N k)) (fun k' o => if k'.2.2.1 = 41 then (true, N k', o) else (false, k', [])) := if_pos c3
          rw [eq]
          cases e1 : (e (N k)).1 with
          | false =>
            rw [bnd2_f e1] at ht
            cases ht
          | true =>
            rw [bnd2_t e1] at ht ⊢
            obtain ⟨a1, a2, a3, a4⟩ := he (N k) n1 e1
            by_cases c4 : (e (N k)).2.1.2.2.1 = 41
            · rw [if_pos c4]
              obtain ⟨m1, m2⟩ := hN _ a1
              have k2 := a1.2.2.1 (by omega)
              exact ⟨m1, by show k.2.1 ≤ (N (e (N k)).2.1).1; omega, by show k.1 + (e (N k)).2.2.length ≤ (N (e (N k)).2.1).1; omega, a4⟩
            · rw [if_neg c4] at ht
              cases ht
        · by_cases c5 : k.2.2.1 = 45
          · have k1 := hk.2.2.1 (by omega)
            have eq : (match some (e, s) with | none => (false, k, []) | some (e, s) => if k.2.2.1 = 40 then bnd2 (e (N k)) (fun k' o => if k'.2.2.1 = 41 then (true, N k', o) else (false, k', [])) else if k.2.2.1 = 45 then bnd2 (s (N k)) (fun k' o => (true, k', o ++ [14])) else (false, k, [])) = bnd2 (s (N k)) (fun k' o => (true, k', o ++ [14])) := by
              show (if k.2.2.1 = 40 then bnd2 (e (N k)) (fun k' o => if k'.2.2.1 = 41 then (true, N k', o) else (false, k', [])) else if k.2.2.1 = 45 then bnd2 (s (N k)) (fun k' o => (true, k', o ++ [14])) else (false, k, [])) = _
              rw [if_neg c3, if_pos c5]
            rw [eq] at ht ⊢
            cases e1 : (s (N k)).1 with
            | false =>
              rw [bnd2_f e1] at ht
              cases ht
            | true =>
              rw [bnd2_t e1]
              obtain ⟨a1, a2, a3, a4⟩ := hs (N k) n1 e1
              refine ⟨a1, by show k.2.1 ≤ (s (N k)).2.1.1; omega, ?_, fun h rest hh hr => ?_⟩
              · show k.1 + ((s (N k)).2.2 ++ [14]).length ≤ (s (N k)).2.1.1
                simp only [List.length_append, List.length_singleton]
                omega
              · show okp (((s (N k)).2.2 ++ [14]) ++ rest) h
                rw [List.append_assoc]
                exact a4 h _ hh (okp_un (Or.inr rfl) (by omega) hr)
          · have ht : (if k.2.2.1 = 40 then bnd2 (e (N k)) (fun k' o => if k'.2.2.1 = 41 then (true, N k', o) else (false, k', [])) else if k.2.2.1 = 45 then bnd2 (s (N k)) (fun k' o => (true, k', o ++ [14])) else (false, k, [])).1 = true := ht
            rw [if_neg c3, if_neg c5] at ht
            cases ht
theorem ntR_gd {D : Nat} {cmp : zTk → zRs} {low : Option (zTk → zRs)} (hN : gN z N) (hc : gd z D cmp) (hl : ∀ n, low = some n → gd z D n) : gd z D (ntR N cmp low) := by
  intro k hk ht
  obtain ⟨n1, n2⟩ := hN k hk
  unfold ntR at ht ⊢
  by_cases c1 : k.2.2.1 = 1011
  · rw [if_pos c1] at ht ⊢
    have k1 := hk.2.2.1 (by omega)
    cases low with
    | none => cases ht
    | some n =>
      have ht : (bnd2 (n (N k)) (fun k' o => (true, k', o ++ [13]))).1 = true := ht
      show okT z (bnd2 (n (N k)) (fun k' o => (true, k', o ++ [13]))).2.1 ∧ k.2.1 ≤ (bnd2 (n (N k)) (fun k' o => (true, k', o ++ [13]))).2.1.1 ∧ k.1 + (bnd2 (n (N k)) (fun k' o => (true, k', o ++ [13]))).2.2.length ≤ (bnd2 (n (N k)) (fun k' o => (true, k', o ++ [13]))).2.1.1 ∧ ∀ h rest, h + D ≤ 63 → okp rest (h + 1) → okp ((bnd2 (n (N k)) (fun k' o => (true, k', o ++ [13]))).2.2 ++ rest) h
      cases e1 : (n (N k)).1 with
      | false =>
        rw [bnd2_f e1] at ht
        cases ht
      | true =>
        rw [bnd2_t e1]
        obtain ⟨a1, a2, a3, a4⟩ := hl n rfl (N k) n1 e1
        refine ⟨a1, by show k.2.1 ≤ (n (N k)).2.1.1; omega, ?_, fun h rest hh hr => ?_⟩
        · show k.1 + ((n (N k)).2.2 ++ [13]).length ≤ (n (N k)).2.1.1
          simp only [List.length_append, List.length_singleton]
          omega
        · show okp (((n (N k)).2.2 ++ [13]) ++ rest) h
          rw [List.append_assoc]
          exact a4 h _ hh (okp_un (Or.inl rfl) (by omega) hr)
  · rw [if_neg c1] at ht ⊢
    exact hc k hk ht
theorem lvR_gd (hN : gN z N) : ∀ r, gd z (1 + 5 * r) (lvR N z r).1 ∧ gd z (4 + 5 * r) (lvR N z r).2
  | 0 => by
    have h1 : gd z 1 (sgR N none) := sgR_gd hN (by omega) (fun e s h => by cases h)
    have h2 : gd z 4 (cpR N z (sgR N none)) := cmR_gd hN (chn_gd hN (chn_gd hN h1 gO_T) gO_S)
    exact ⟨h1, ntR_gd hN h2 (fun n h => by cases h)⟩
  | r + 1 => by
    obtain ⟨i1, i2⟩ := lvR_gd hN r
    have h0 : gd z (6 + 5 * r) (etR N z (lvR N z r).2) := gd_up (chn_gd hN (chn_gd hN i2 gO_A) gO_O) (by omega)
    have h1 : gd z (6 + 5 * r) (lvR N z (r + 1)).1 := sgR_gd hN (by omega) (fun e s h => by cases h; exact ⟨h0, gd_up i1 (by omega)⟩)
    have h2 : gd z (6 + 5 * r + 1 + 1 + 1) (cpR N z (lvR N z (r + 1)).1) := cmR_gd hN (chn_gd hN (chn_gd hN h1 gO_T) gO_S)
    exact ⟨gd_up h1 (by omega), ntR_gd hN (gd_up h2 (by omega)) (fun n h => by cases h; exact gd_up i2 (by omega))⟩
theorem etR_gd (hN : gN z N) : gd z 31 (etR N z (lvR N z 5).2) := gd_up (chn_gd hN (chn_gd hN (lvR_gd hN 5).2 gO_A) gO_O) (by omega)
end
