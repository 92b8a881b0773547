/-! the least of COSTS for each SUM: the rule -/
abbrev zH := Nat × Nat × Nat × Nat
abbrev zE := Nat × Nat × (Nat → Nat → List Nat)
def sd (x : zH) (n : Nat) : Bool := said x.2.1 x.2.2.1 x.2.2.2 n
def sb (x : zH) : Nat := sy x.2.1 x.2.2.1 x.2.2.2
def mH (σ : zI) (x : zH) : Prop := mHr σ x.1 x.2.1 x.2.2.1 x.2.2.2
def xH (σ : zI) (a : Nat) (x : zH) : Prop := xHr σ a x.1 x.2.1 x.2.2.1 x.2.2.2
def cst (E : zE) (x : zH) (n : Nat) : Nat := cost E.2.2 E.1 E.2.1 x.1 x.2.1 x.2.2.1 x.2.2.2 n
def prc (E : zE) (x y : zH) (n : Nat) : Option Nat := if sd x n && sd y n then some (cst E x n + cst E y n) else none
def one1 (x y : zH) (n : Nat) : Option Nat := if sd x n && sd y n then some 1 else none
def jn (b w r : Option Nat) : Option Nat := match w, r with
  | some w, some r => (match b with | none => some (r + w) | some b => if b ≤ r + w then some b else some (r + w))
  | _, _ => b
def bst (p : Nat → Option Nat) (L : Nat → Option Nat) (s : Nat) : Nat → Option Nat
  | 0 => none
  | j + 1 => if j + 1 ≤ s then jn (bst p L s j) (p (j + 1)) (L (s - (j + 1))) else bst p L s j
def lsT (p : Nat → Option Nat) : Nat → Nat → Option Nat
  | 0 => fun s => if s = 0 then some 0 else none
  | t + 1 => fun s => if s = t + 1 then bst p (lsT p t) (t + 1) 30 else lsT p t s
def ls (p : Nat → Option Nat) (s : Nat) : Option Nat := lsT p s s
def on : Option Nat → Int32
  | none => -1
  | some v => nI v
theorem jn_none (b r : Option Nat) : jn b none r = b := by cases r <;> rfl
theorem jn_none2 (b w : Option Nat) : jn b w none = b := by cases w <;> rfl
theorem lsT_eq (p : Nat → Option Nat) {s : Nat} : ∀ t, s ≤ t → lsT p t s = ls p s
  | 0, h => by have : s = 0 := by omega
               subst this; rfl
  | t + 1, h => by
    by_cases e : s = t + 1
    · subst e; rfl
    · show (if s = t + 1 then bst p (lsT p t) (t + 1) 30 else lsT p t s) = ls p s
      rw [if_neg e]
      exact lsT_eq p t (by omega)
theorem bst_congr {p L L' : Nat → Option Nat} {s : Nat} (h : ∀ r, r < s → L r = L' r) : ∀ j, bst p L s j = bst p L' s j
  | 0 => rfl
  | j + 1 => by
    unfold bst
    rw [bst_congr h j]
    by_cases e : j + 1 ≤ s
    · rw [if_pos e, if_pos e, h (s - (j + 1)) (by omega)]
    · rw [if_neg e, if_neg e]
theorem ls_0 (p : Nat → Option Nat) : ls p 0 = some 0 := rfl
theorem ls_1 (p : Nat → Option Nat) {s : Nat} (hs : 1 ≤ s) : ls p s = bst p (ls p) s 30 := by
  obtain ⟨t, rfl⟩ : ∃ t, s = t + 1 := ⟨s - 1, by omega⟩
  show (if t + 1 = t + 1 then bst p (lsT p t) (t + 1) 30 else lsT p t (t + 1)) = _
  rw [if_pos rfl]
  exact bst_congr (fun r hr => lsT_eq p t (by omega)) 30
theorem bst_stop {p L : Nat → Option Nat} {s j : Nat} (hj : s ≤ j) : ∀ r, bst p L s (j + r) = bst p L s j
  | 0 => rfl
  | r + 1 => by
    show (if j + r + 1 ≤ s then jn (bst p L s (j + r)) (p (j + r + 1)) (L (s - (j + r + 1))) else bst p L s (j + r)) = _
    rw [if_neg (by omega)]
    exact bst_stop hj r
def wgt (p : Nat → Option Nat) : Prop := ∀ n w, p n = some w → w ≤ 396
theorem bst_le {p L : Nat → Option Nat} {s : Nat} (hp : wgt p) (hL : ∀ r v, r < s → L r = some v → v ≤ 396 * r) : ∀ j v, bst p L s j = some v → v ≤ 396 * s
  | 0, v, h => by simp [bst] at h
  | j + 1, v, h => by
    have ih := bst_le hp hL j
    unfold bst at h
    by_cases e : j + 1 ≤ s
    · rw [if_pos e] at h
      cases hw : p (j + 1) with
      | none => rw [hw, jn_none] at h; exact ih v h
      | some w =>
        cases hr : L (s - (j + 1)) with
        | none => rw [hr, jn_none2] at h; exact ih v h
        | some r =>
          have h1 := hp _ _ hw
          have h2 := hL _ _ (by omega) hr
          have h3 : r + w ≤ 396 * s := by omega
          rw [hw, hr] at h
          cases hb : bst p L s j with
          | none => rw [hb] at h; have : r + w = v := by simpa [jn] using h
                    omega
          | some b =>
            rw [hb] at h
            have h4 : (if b ≤ r + w then some b else some (r + w)) = some v := h
            by_cases q : b ≤ r + w
            · rw [if_pos q] at h4; have : b = v := by simpa using h4
              omega
            · rw [if_neg q] at h4; have : r + w = v := by simpa using h4
              omega
    · rw [if_neg e] at h; exact ih v h
theorem ls_le {p : Nat → Option Nat} (hp : wgt p) : ∀ N s, s < N → ∀ v, ls p s = some v → v ≤ 396 * s
  | 0, s, h => by omega
  | N + 1, s, h => by
    intro v hv
    by_cases e : s = 0
    · subst e
      rw [ls_0] at hv
      have : 0 = v := by simpa using hv
      omega
    · rw [ls_1 p (by omega)] at hv
      exact bst_le hp (fun r v hr h2 => ls_le hp N r (by omega) v h2) 30 v hv
theorem ls_le' {p : Nat → Option Nat} (hp : wgt p) {s v : Nat} (h : ls p s = some v) : v ≤ 396 * s := ls_le hp (s + 1) s (by omega) v h
/-- which SUMS can be paid doesn't hang on what the NUMBERS cost -/
theorem jn_iff {b b' w w' r r' : Option Nat} (hb : b = none ↔ b' = none) (hw : w = none ↔ w' = none) (hr : r = none ↔ r' = none) : jn b w r = none ↔ jn b' w' r' = none := by
  cases b <;> cases b' <;> cases w <;> cases w' <;> cases r <;> cases r' <;> simp_all [jn] <;> (try split) <;> (try split) <;> simp_all
theorem bst_iff {p q L M : Nat → Option Nat} {s : Nat} (hp : ∀ n, p n = none ↔ q n = none) (hL : ∀ r, r < s → (L r = none ↔ M r = none)) : ∀ j, bst p L s j = none ↔ bst q M s j = none
  | 0 => by simp [bst]
  | j + 1 => by
    have ih := bst_iff hp hL j
    unfold bst
    by_cases e : j + 1 ≤ s
    · rw [if_pos e, if_pos e]
      exact jn_iff ih (hp _) (hL _ (by omega))
    · rw [if_neg e, if_neg e]; exact ih
theorem ls_iff {p q : Nat → Option Nat} (hp : ∀ n, p n = none ↔ q n = none) : ∀ N s, s < N → (ls p s = none ↔ ls q s = none)
  | 0, s, h => by omega
  | N + 1, s, h => by
    by_cases e : s = 0
    · subst e; rw [ls_0, ls_0]
    · rw [ls_1 p (by omega), ls_1 q (by omega)]
      exact bst_iff hp (fun r hr => ls_iff hp N r (by omega)) 30
theorem prc_one (E : zE) (x y : zH) (n : Nat) : prc E x y n = none ↔ one1 x y n = none := by
  unfold prc one1
  split <;> simp
theorem prc_wgt (E : zE) (x y : zH) (hx : x.2.2.1 ≤ 9) (hy : y.2.2.1 ≤ 9) : wgt (prc E x y) := by
  intro n w h
  unfold prc at h
  split at h
  · have h1 := (cost_in E.2.2 E.1 E.2.1 x.1 x.2.1 x.2.2.1 x.2.2.2 n hx).2
    have h2 := (cost_in E.2.2 E.1 E.2.1 y.1 y.2.1 y.2.2.1 y.2.2.2 n hy).2
    have h3 : cst E x n + cst E y n = w := by simpa using h
    unfold cst at h3
    omega
  · simp at h
theorem one1_wgt (x y : zH) : wgt (one1 x y) := by
  intro n w h
  unfold one1 at h
  split at h
  · have : 1 = w := by simpa using h
    omega
  · simp at h
def cnt (p : Nat → Option Nat) : Nat → Nat
  | 0 => 0
  | j + 1 => cnt p j + (if (p (j + 1)).isSome then 1 else 0)
theorem cnt_le (p : Nat → Option Nat) : ∀ j, cnt p j ≤ j
  | 0 => Nat.le_refl _
  | j + 1 => by
    have := cnt_le p j
    unfold cnt
    split <;> omega
theorem cnt_up (p : Nat → Option Nat) (j : Nat) : ∀ r, cnt p j ≤ cnt p (j + r)
  | 0 => Nat.le_refl _
  | r + 1 => by
    have := cnt_up p j r
    show cnt p j ≤ cnt p (j + r) + (if (p (j + r + 1)).isSome then 1 else 0)
    omega
theorem cnt_lt {p : Nat → Option Nat} {j k : Nat} (h : j < k) (hp : (p (j + 1)).isSome = true) : cnt p j < cnt p k := by
  have := cnt_up p (j + 1) (k - (j + 1))
  rw [show j + 1 + (k - (j + 1)) = k by omega] at this
  have e : cnt p (j + 1) = cnt p j + 1 := by
    show cnt p j + (if (p (j + 1)).isSome then 1 else 0) = _
    rw [hp, if_pos rfl]
  omega
theorem on_ne {v : Nat} (h : v < 2147483648) : ¬ on (some v) = -1 := by
  intro e
  have := congrArg Int32.toInt e
  rw [show on (some v) = nI v from rfl, nI_toInt' h] at this
  have e1 : (-1 : Int32).toInt = -1 := rfl
  omega
theorem o_eq {A B : Prop} {x : Int32} {b : Option Nat} (hx : x = on b) (hb : ∀ v, b = some v → v < 2147483648) (f : b = none → A) (g : ∀ v, b = some v → B) : if x = -1 then A else B := by
  subst hx
  cases b with
  | none => rw [if_pos (show on none = -1 from rfl)]; exact f rfl
  | some v => rw [if_neg (on_ne (hb v rfl))]; exact g v rfl
theorem cnt_n {p : Nat → Option Nat} {j : Nat} (h : (p (j + 1)).isSome = false) : cnt p (j + 1) = cnt p j := by
  show cnt p j + (if (p (j + 1)).isSome then 1 else 0) = cnt p j
  rw [h]
  rfl
theorem cnt_y {p : Nat → Option Nat} {j : Nat} (h : (p (j + 1)).isSome = true) : cnt p (j + 1) = cnt p j + 1 := by
  show cnt p j + (if (p (j + 1)).isSome then 1 else 0) = cnt p j + 1
  rw [h, if_pos rfl]
