
def zOb (g : zG) (i c : Nat) : Prop := i < g.1 ∧ g.2.1 i = (0, c, 0)
def zAr (g : zG) (i t n : Nat) : Prop := i < g.1 ∧ g.2.1 i = (t, 0, n)
def zsI (σ : zI) (i k : Nat) (x : Int32) : zI := fun a j => if a = i then (if j = k then x else σ a j) else σ a j
def zsR (g : zG) (i k : Nat) (x : Option Nat) : zG := (g.1, g.2.1, fun a j => if a = i then (if j = k then x else g.2.2 a j) else g.2.2 a j)
def zsN (g : zG) (sh : Nat × Nat × Nat) (r : Nat → Option Nat) : zG := (g.1 + 1, (fun a => if a = g.1 then sh else g.2.1 a), fun a => if a = g.1 then r else g.2.2 a)
def zs0 (σ : zI) (i : Nat) : zI := fun a => if a = i then (fun _ => 0) else σ a
theorem zsI_row (σ : zI) (i k : Nat) (x : Int32) : zsI σ i k x i = upd (σ i) k x := by funext j; simp [zsI, upd]
theorem zsI_ne {σ : zI} {i k : Nat} {x : Int32} {a : Nat} (h : a ≠ i) : zsI σ i k x a = σ a := by funext j; simp [zsI, h]
theorem zsI_same (σ : zI) (i k : Nat) (x : Int32) : zsI σ i k x i k = x := by simp [zsI]
theorem zsI_nk {σ : zI} {i k : Nat} {x : Int32} {a j : Nat} (h : a ≠ i ∨ j ≠ k) : zsI σ i k x a j = σ a j := by
  rcases h with h | h
  · rw [zsI_ne h]
  · by_cases e : a = i <;> simp [zsI, e, h]
theorem zW_len (ρ : Nat → Nat) (cy : Nat → ClassId) (g : zG) (σ : zI) : (zW ρ cy g σ).length = g.1 := by simp [zW]
theorem zW_get {ρ : Nat → Nat} {cy : Nat → ClassId} {g : zG} {σ : zI} {i : Nat} (h : i < g.1) : (zW ρ cy g σ)[i]? = some (ρ i, zC ρ cy (g.2.1 i) (g.2.2 i) (σ i)) := by
  unfold zW
  rw [List.getElem?_map, List.getElem?_range h]
  rfl
theorem zW_non {ρ : Nat → Nat} {cy : Nat → ClassId} {g : zG} {σ : zI} {i : Nat} (h : ¬ i < g.1) : (zW ρ cy g σ)[i]? = none := List.getElem?_eq_none (by rw [zW_len]; omega)
theorem zW_set {ρ : Nat → Nat} {cy : Nat → ClassId} {g g' : zG} {σ σ' : zI} {i : Nat} {e : va_E} (h : i < g.1) (hn : g'.1 = g.1) (he : e = zC ρ cy (g'.2.1 i) (g'.2.2 i) (σ' i))
    (ho : ∀ j, j ≠ i → zC ρ cy (g'.2.1 j) (g'.2.2 j) (σ' j) = zC ρ cy (g.2.1 j) (g.2.2 j) (σ j)) : (zW ρ cy g σ).set i (ρ i, e) = zW ρ cy g' σ' := by
  apply List.ext_getElem?
  intro j
  by_cases hj : i = j
  · subst hj
    rw [List.getElem?_set_self (by rw [zW_len]; exact h), zW_get (by omega), he]
  · rw [List.getElem?_set_ne hj]
    by_cases hjn : j < g.1
    · rw [zW_get hjn, zW_get (by omega), ho j (fun q => hj q.symm)]
    · rw [zW_non hjn, zW_non (by omega)]
theorem zW_push {ρ ρ' : Nat → Nat} {cy : Nat → ClassId} {g g' : zG} {σ σ' : zI} {q : Nat} {e : va_E} (hn : g'.1 = g.1 + 1) (hq : ρ' g.1 = q) (he : e = zC ρ' cy (g'.2.1 g.1) (g'.2.2 g.1) (σ' g.1))
    (ho : ∀ j, j < g.1 → ρ' j = ρ j ∧ zC ρ' cy (g'.2.1 j) (g'.2.2 j) (σ' j) = zC ρ cy (g.2.1 j) (g.2.2 j) (σ j)) : zW ρ cy g σ ++ [(q, e)] = zW ρ' cy g' σ' := by
  apply List.ext_getElem?
  intro j
  by_cases hj : j < g.1
  · rw [List.getElem?_append_left (by rw [zW_len]; exact hj), zW_get hj, zW_get (by omega), (ho j hj).1, (ho j hj).2]
  · rw [List.getElem?_append_right (by rw [zW_len]; omega), zW_len]
    by_cases hj1 : j = g.1
    · subst hj1
      rw [Nat.sub_self, zW_get (by omega), hq, he]
      rfl
    · rw [zW_non (by omega), List.getElem?_eq_none (by simp; omega)]
theorem zF_get {ρ : Nat → Nat} {c k : Nat} {r : Nat → Option Nat} {s : Nat → Int32} (h : k < zNF c) : (zF ρ c r s)[k]? = some (zfv ρ (zfk c k) (r k) (s k)) := by
  unfold zF
  rw [List.getElem?_map, List.getElem?_range h]
  rfl
theorem zF_len (ρ : Nat → Nat) (c : Nat) (r : Nat → Option Nat) (s : Nat → Int32) : (zF ρ c r s).length = zNF c := by simp [zF]
theorem zF_set {ρ : Nat → Nat} {c k : Nat} {r r' : Nat → Option Nat} {s s' : Nat → Int32} {v : Value} (h : k < zNF c) (hv : v = zfv ρ (zfk c k) (r' k) (s' k)) (ho : ∀ j, j ≠ k → r' j = r j ∧ s' j = s j) : (zF ρ c r s).set k v = zF ρ c r' s' := by
  apply List.ext_getElem?
  intro j
  by_cases hj : k = j
  · subst hj
    rw [List.getElem?_set_self (by rw [zF_len]; exact h), zF_get h, hv]
  · rw [List.getElem?_set_ne hj]
    by_cases hjn : j < zNF c
    · rw [zF_get hjn, zF_get hjn, (ho j (fun q => hj q.symm)).1, (ho j (fun q => hj q.symm)).2]
    · rw [List.getElem?_eq_none (by rw [zF_len]; omega), List.getElem?_eq_none (by rw [zF_len]; omega)]
theorem zfk_le_all : ∀ c, c < 9 → ∀ k, k < 64 → zfk c k ≤ 2 := by decide +kernel
theorem zfk_le (c k : Nat) : zfk c k ≤ 2 := by
  by_cases hc : c < 9
  · by_cases hk : k < 64
    · exact zfk_le_all c hc k hk
    · unfold zfk
      have h1 : ∀ c, c < 9 → (zfkL.getD c []).length ≤ 64 := by decide +kernel
      have h2 := h1 c hc
      rw [List.getD_eq_getElem?_getD, List.getElem?_eq_none (by omega)]
      exact Nat.zero_le _
  · unfold zfk
    have h1 : zfkL.length = 9 := by decide +kernel
    rw [List.getD_eq_getElem?_getD (l := zfkL), List.getElem?_eq_none (l := zfkL) (by omega)]
    exact Nat.zero_le _
/-- cells are the same where the addresses of what they hold are -/
theorem zC_ρ {ρ ρ' : Nat → Nat} {cy : Nat → ClassId} {g : zG} {σ : zI} (hw : zWf g σ) (hr : ∀ i, i < g.1 → ρ' i = ρ i) {j : Nat} (hj : j < g.1) : zC ρ' cy (g.2.1 j) (g.2.2 j) (σ j) = zC ρ cy (g.2.1 j) (g.2.2 j) (σ j) := by
  have hm : ∀ k, (g.2.2 j k).map ρ' = (g.2.2 j k).map ρ := fun k => by
    cases hx : g.2.2 j k with
    | none => rfl
    | some x => exact congrArg some (hr x (hw.1 j k x hj hx))
  unfold zC
  split
  · next h0 =>
    refine congrArg (fun l => Sum.inr (_, l)) ?_
    unfold zF
    refine List.map_congr_left fun k _ => ?_
    unfold zfv
    split
    · rfl
    · rw [hm k]
    · next z1 z2 =>
      by_cases h2 : zfk (g.2.1 j).2.1 k = 2
      · cases hx : zdr (σ j k) with
        | none => rfl
        | some x => exact congrArg (fun r => va_rf (some r)) (hr x (hw.2.1 j k x hj h0 h2 hx))
      · exact absurd (zfk_le (g.2.1 j).2.1 k) (by
          intro hle
          generalize zfk (g.2.1 j).2.1 k = z at *
          rcases z with _ | _ | _ | z
          · exact z1 rfl
          · exact z2 rfl
          · exact h2 rfl
          · omega)
  · rfl
  · rfl
  · have e : (fun k => (g.2.2 j k).map ρ') = fun k => (g.2.2 j k).map ρ := funext hm
    rw [e]

