/-! the ways of a SUM: the rule, and why size - 1 rounds are as good as more -/
def lx (a b : Nat × Nat) : Prop := a.1 < b.1 ∨ (a.1 = b.1 ∧ a.2 ≤ b.2)
def bt (x : Nat × Nat) : Option (Nat × Nat) → Bool
  | none => true
  | some y => decide (x.1 < y.1) || (decide (x.1 = y.1) && decide (x.2 < y.2))
def up2 (s : Nat → Option (Nat × Nat)) (j : Nat) (x : Nat × Nat) : Nat → Option (Nat × Nat) := fun v => if v = j then some x else s v
def wyE (W : Nat → Nat → Option Nat) (i j : Nat) (s : Nat → Option (Nat × Nat)) : Nat → Option (Nat × Nat) := match s i, W i j with
  | some x, some w => if bt (x.1 + w, x.2 + 1) (s j) then up2 s j (x.1 + w, x.2 + 1) else s
  | _, _ => s
def wyJ (W : Nat → Nat → Option Nat) (i : Nat) : Nat → (Nat → Option (Nat × Nat)) → Nat → Option (Nat × Nat)
  | 0, s => s
  | j + 1, s => wyE W i j (wyJ W i j s)
def wyI (W : Nat → Nat → Option Nat) (n : Nat) : Nat → (Nat → Option (Nat × Nat)) → Nat → Option (Nat × Nat)
  | 0, s => s
  | i + 1, s => wyJ W i n (wyI W n i s)
def wyR (W : Nat → Nat → Option Nat) (n : Nat) : Nat → (Nat → Option (Nat × Nat)) → Nat → Option (Nat × Nat)
  | 0, s => s
  | k + 1, s => wyI W n n (wyR W n k s)
def s0 (f : Nat) : Nat → Option (Nat × Nat) := fun v => if v = f then some (0, 0) else none
theorem lx_rf (a : Nat × Nat) : lx a a := Or.inr ⟨rfl, Nat.le_refl _⟩
theorem lx_tr {a b c : Nat × Nat} (h1 : lx a b) (h2 : lx b c) : lx a c := by unfold lx at *; omega
theorem lx_an {a b : Nat × Nat} (h1 : lx a b) (h2 : lx b a) : a = b := by
  unfold lx at *
  exact Prod.ext (by omega) (by omega)
theorem lx_add {a b : Nat × Nat} (w : Nat) (h : lx a b) : lx (a.1 + w, a.2 + 1) (b.1 + w, b.2 + 1) := by
  unfold lx at *
  show a.1 + w < b.1 + w ∨ (a.1 + w = b.1 + w ∧ a.2 + 1 ≤ b.2 + 1)
  omega
def Le (s s' : Nat → Option (Nat × Nat)) : Prop := ∀ v x, s v = some x → ∃ y, s' v = some y ∧ lx y x
theorem Le_rf (s : Nat → Option (Nat × Nat)) : Le s s := fun v x h => ⟨x, h, lx_rf x⟩
theorem Le_tr {a b c : Nat → Option (Nat × Nat)} (h1 : Le a b) (h2 : Le b c) : Le a c := fun v x h => by
  obtain ⟨y, hy, l1⟩ := h1 v x h
  obtain ⟨z, hz, l2⟩ := h2 v y hy
  exact ⟨z, hz, lx_tr l2 l1⟩
theorem bt_lx {x : Nat × Nat} {y : Nat × Nat} (h : bt x (some y) = true) : lx x y := by
  unfold bt at h
  rw [Bool.or_eq_true, Bool.and_eq_true, decide_eq_true_iff, decide_eq_true_iff, decide_eq_true_iff] at h
  unfold lx
  omega
theorem nbt_lx {x : Nat × Nat} {o : Option (Nat × Nat)} (h : bt x o = false) : ∃ y, o = some y ∧ lx y x := by
  cases o with
  | none => simp [bt] at h
  | some y =>
    refine ⟨y, rfl, ?_⟩
    have h2 : ¬ (bt x (some y) = true) := by rw [h]; simp
    unfold bt at h2
    rw [Bool.or_eq_true, Bool.and_eq_true, decide_eq_true_iff, decide_eq_true_iff, decide_eq_true_iff] at h2
    unfold lx
    omega
theorem up2_Le {s : Nat → Option (Nat × Nat)} {j : Nat} {x : Nat × Nat} (h : bt x (s j) = true) : Le s (up2 s j x) := fun v y hy => by
  unfold up2
  by_cases e : v = j
  · subst e
    rw [hy] at h
    exact ⟨x, if_pos rfl, bt_lx h⟩
  · exact ⟨y, by rw [if_neg e]; exact hy, lx_rf y⟩
theorem wyE_eq {W : Nat → Nat → Option Nat} {i j w : Nat} {s : Nat → Option (Nat × Nat)} {x : Nat × Nat} (h1 : s i = some x) (h2 : W i j = some w) : wyE W i j s = if bt (x.1 + w, x.2 + 1) (s j) then up2 s j (x.1 + w, x.2 + 1) else s := by
  unfold wyE; rw [h1, h2]
theorem wyE_n1 {W : Nat → Nat → Option Nat} {i j : Nat} {s : Nat → Option (Nat × Nat)} (h1 : s i = none) : wyE W i j s = s := by
  unfold wyE; rw [h1]
theorem wyE_n2 {W : Nat → Nat → Option Nat} {i j : Nat} {s : Nat → Option (Nat × Nat)} (h2 : W i j = none) : wyE W i j s = s := by
  unfold wyE; rw [h2]; cases s i <;> rfl
theorem wyE_Le (W : Nat → Nat → Option Nat) (i j : Nat) (s : Nat → Option (Nat × Nat)) : Le s (wyE W i j s) := by
  cases h1 : s i with
  | none => rw [wyE_n1 h1]; exact Le_rf s
  | some x =>
    cases h2 : W i j with
    | none => rw [wyE_n2 h2]; exact Le_rf s
    | some w =>
      rw [wyE_eq h1 h2]
      by_cases c : bt (x.1 + w, x.2 + 1) (s j) = true
      · rw [if_pos c]; exact up2_Le c
      · rw [if_neg c]; exact Le_rf s
theorem wyJ_Le (W : Nat → Nat → Option Nat) (i : Nat) (s : Nat → Option (Nat × Nat)) : ∀ j, Le s (wyJ W i j s)
  | 0 => Le_rf s
  | j + 1 => Le_tr (wyJ_Le W i s j) (wyE_Le W i j _)
theorem wyI_Le (W : Nat → Nat → Option Nat) (n : Nat) (s : Nat → Option (Nat × Nat)) : ∀ i, Le s (wyI W n i s)
  | 0 => Le_rf s
  | i + 1 => Le_tr (wyI_Le W n s i) (wyJ_Le W i _ n)
theorem wyR_Le (W : Nat → Nat → Option Nat) (n : Nat) (s : Nat → Option (Nat × Nat)) : ∀ i, Le s (wyR W n i s)
  | 0 => Le_rf s
  | i + 1 => Le_tr (wyR_Le W n s i) (wyI_Le W n _ n)
theorem wyE_get {W : Nat → Nat → Option Nat} {i j w : Nat} {s : Nat → Option (Nat × Nat)} {x : Nat × Nat} (h1 : s i = some x) (h2 : W i j = some w) : ∃ y, wyE W i j s j = some y ∧ lx y (x.1 + w, x.2 + 1) := by
  rw [wyE_eq h1 h2]
  by_cases c : bt (x.1 + w, x.2 + 1) (s j) = true
  · rw [if_pos c]
    exact ⟨_, if_pos rfl, lx_rf _⟩
  · rw [if_neg c]
    exact nbt_lx (by simpa using c)
theorem wyJ_get {W : Nat → Nat → Option Nat} {i j w : Nat} {s : Nat → Option (Nat × Nat)} {x : Nat × Nat} (h1 : s i = some x) (h2 : W i j = some w) : ∀ r, ∃ y, wyJ W i (j + 1 + r) s j = some y ∧ lx y (x.1 + w, x.2 + 1)
  | 0 => by
    obtain ⟨z, hz, l1⟩ := wyJ_Le W i s j i x h1
    obtain ⟨y, hy, l2⟩ := wyE_get hz h2
    exact ⟨y, hy, lx_tr l2 (lx_add w l1)⟩
  | r + 1 => by
    obtain ⟨z, hz, l1⟩ := wyJ_get h1 h2 r
    obtain ⟨y, hy, l2⟩ := wyE_Le W i (j + 1 + r) _ j z hz
    exact ⟨y, hy, lx_tr l2 l1⟩
theorem wyI_get {W : Nat → Nat → Option Nat} {n i j w : Nat} {s : Nat → Option (Nat × Nat)} {x : Nat × Nat} (hj : j < n) (h1 : s i = some x) (h2 : W i j = some w) : ∀ r, ∃ y, wyI W n (i + 1 + r) s j = some y ∧ lx y (x.1 + w, x.2 + 1)
  | 0 => by
    obtain ⟨z, hz, l1⟩ := wyI_Le W n s i i x h1
    obtain ⟨y, hy, l2⟩ := wyJ_get hz h2 (n - (j + 1))
    rw [show j + 1 + (n - (j + 1)) = n by omega] at hy
    exact ⟨y, hy, lx_tr l2 (lx_add w l1)⟩
  | r + 1 => by
    obtain ⟨z, hz, l1⟩ := wyI_get hj h1 h2 r
    obtain ⟨y, hy, l2⟩ := wyJ_Le W (i + 1 + r) _ n j z hz
    exact ⟨y, hy, lx_tr l2 l1⟩
/-- there is a way of m PAYMENTS that COSTS c -/
def wk (W : Nat → Nat → Option Nat) (f : Nat) : Nat → Nat → Nat → Prop
  | 0, v, c => v = f ∧ c = 0
  | m + 1, v, c => ∃ u w c', wk W f m u c' ∧ W u v = some w ∧ c = c' + w
theorem wyE_ok {W : Nat → Nat → Option Nat} {f i j : Nat} {s : Nat → Option (Nat × Nat)} (h : ∀ v x, s v = some x → wk W f x.2 v x.1) : ∀ v x, wyE W i j s v = some x → wk W f x.2 v x.1 := by
  cases h1 : s i with
  | none => rw [wyE_n1 h1]; exact h
  | some x =>
    cases h2 : W i j with
    | none => rw [wyE_n2 h2]; exact h
    | some w =>
      rw [wyE_eq h1 h2]
      by_cases c : bt (x.1 + w, x.2 + 1) (s j) = true
      · rw [if_pos c]
        intro v y hy
        unfold up2 at hy
        by_cases e : v = j
        · subst e
          rw [if_pos rfl] at hy
          have e2 : (x.1 + w, x.2 + 1) = y := by simpa using hy
          subst e2
          exact ⟨i, w, x.1, h i x h1, h2, rfl⟩
        · rw [if_neg e] at hy; exact h v y hy
      · rw [if_neg c]; exact h
theorem wyJ_ok {W : Nat → Nat → Option Nat} {f i : Nat} {s : Nat → Option (Nat × Nat)} (h : ∀ v x, s v = some x → wk W f x.2 v x.1) : ∀ j v x, wyJ W i j s v = some x → wk W f x.2 v x.1
  | 0 => h
  | j + 1 => wyE_ok (wyJ_ok h j)
theorem wyI_ok {W : Nat → Nat → Option Nat} {f n : Nat} {s : Nat → Option (Nat × Nat)} (h : ∀ v x, s v = some x → wk W f x.2 v x.1) : ∀ i v x, wyI W n i s v = some x → wk W f x.2 v x.1
  | 0 => h
  | i + 1 => wyJ_ok (wyI_ok h i) n
theorem wyR_ok (W : Nat → Nat → Option Nat) (f n : Nat) : ∀ k v x, wyR W n k (s0 f) v = some x → wk W f x.2 v x.1
  | 0 => fun v x h => by
    have h : (if v = f then some (0, 0) else none) = some x := h
    by_cases e : v = f
    · rw [if_pos e] at h
      have e2 : (0, 0) = x := by simpa using h
      subst e2
      exact ⟨e, rfl⟩
    · rw [if_neg e] at h; simp at h
  | k + 1 => wyI_ok (wyR_ok W f n k) n
theorem wyR_all {W : Nat → Nat → Option Nat} {f n : Nat} (hW : ∀ u v w, W u v = some w → u < n ∧ v < n) : ∀ k m v c, m ≤ k → wk W f m v c → ∃ y, wyR W n k (s0 f) v = some y ∧ lx y (c, m)
  | k, 0, v, c, _, h => by
    have h : v = f ∧ c = 0 := h
    obtain ⟨rfl, rfl⟩ := h
    exact wyR_Le W n (s0 v) k v (0, 0) (if_pos rfl)
  | 0, m + 1, v, c, hm, h => by omega
  | k + 1, m + 1, v, c, hm, h => by
    obtain ⟨u, w, c', h1, h2, rfl⟩ := h
    obtain ⟨z, hz, l1⟩ := wyR_all hW k m u c' (by omega) h1
    obtain ⟨hu, hv⟩ := hW u v w h2
    obtain ⟨y, hy, l2⟩ := wyI_get (n := n) hv hz h2 (n - (u + 1))
    rw [show u + 1 + (n - (u + 1)) = n by omega] at hy
    exact ⟨y, hy, lx_tr l2 (lx_add w l1)⟩
theorem pigeon : ∀ n (p : Nat → Nat), (∀ i, i ≤ n → p i < n) → ∃ i j, i < j ∧ j ≤ n ∧ p i = p j
  | 0, p, h => by have := h 0 (Nat.le_refl _); omega
  | n + 1, p, h => by
    by_cases c : ∃ i, i ≤ n ∧ p i = p (n + 1)
    · obtain ⟨i, h1, h2⟩ := c
      exact ⟨i, n + 1, by omega, Nat.le_refl _, h2⟩
    · have c1 : ∀ i, i ≤ n → p i ≠ p (n + 1) := fun i hi e => c ⟨i, hi, e⟩
      obtain ⟨i, j, h1, h2, h3⟩ := pigeon n (fun i => if p i = n then p (n + 1) else p i) (fun i hi => by
        have a1 := h i (by omega)
        have a2 := h (n + 1) (Nat.le_refl _)
        have a3 := c1 i hi
        show (if p i = n then p (n + 1) else p i) < n
        split <;> omega)
      have h3 : (if p i = n then p (n + 1) else p i) = (if p j = n then p (n + 1) else p j) := h3
      have b1 := c1 i (by omega)
      have b2 := c1 j h2
      refine ⟨i, j, h1, by omega, ?_⟩
      by_cases d1 : p i = n
      · rw [if_pos d1] at h3
        by_cases d2 : p j = n
        · omega
        · rw [if_neg d2] at h3; omega
      · rw [if_neg d1] at h3
        by_cases d2 : p j = n
        · rw [if_pos d2] at h3; omega
        · rw [if_neg d2] at h3; exact h3
def cs (w : Nat → Nat) : Nat → Nat
  | 0 => 0
  | m + 1 => cs w m + w m
theorem cs_split (w : Nat → Nat) (a : Nat) : ∀ b, cs w (a + b) = cs w a + cs (fun t => w (a + t)) b
  | 0 => rfl
  | b + 1 => by
    show cs w (a + b) + w (a + b) = cs w a + (cs (fun t => w (a + t)) b + w (a + b))
    rw [cs_split w a b]; omega
theorem cs_same {w w' : Nat → Nat} : ∀ m, (∀ t, t < m → w t = w' t) → cs w m = cs w' m
  | 0, _ => rfl
  | m + 1, h => by
    unfold cs
    rw [cs_same m (fun t ht => h t (by omega)), h m (by omega)]
def pth (W : Nat → Nat → Option Nat) (p w : Nat → Nat) (m : Nat) : Prop := ∀ t, t < m → W (p t) (p (t + 1)) = some (w t)
theorem wk_pth {W : Nat → Nat → Option Nat} {f : Nat} : ∀ m v c, wk W f m v c → ∃ p w, pth W p w m ∧ p 0 = f ∧ p m = v ∧ cs w m = c
  | 0, v, c, h => by
    have h : v = f ∧ c = 0 := h
    obtain ⟨rfl, rfl⟩ := h
    exact ⟨fun _ => v, fun _ => 0, fun t ht => by omega, rfl, rfl, rfl⟩
  | m + 1, v, c, h => by
    obtain ⟨u, w, c', h1, h2, rfl⟩ := h
    obtain ⟨p, q, a1, a2, a3, a4⟩ := wk_pth m u c' h1
    refine ⟨fun t => if t ≤ m then p t else v, fun t => if t < m then q t else w, fun t ht => ?_, ?_, ?_, ?_⟩
    · show W (if t ≤ m then p t else v) (if t + 1 ≤ m then p (t + 1) else v) = some (if t < m then q t else w)
      by_cases e : t < m
      · rw [if_pos (by omega), if_pos (by omega), if_pos e]; exact a1 t e
      · have : t = m := by omega
        subst this
        rw [if_pos (Nat.le_refl _), if_neg (by omega), if_neg e, a3]; exact h2
    · show (if 0 ≤ m then p 0 else v) = f
      rw [if_pos (by omega)]; exact a2
    · show (if m + 1 ≤ m then p (m + 1) else v) = v
      rw [if_neg (by omega)]
    · show cs (fun t => if t < m then q t else w) m + (if m < m then q m else w) = c' + w
      rw [if_neg (by omega), cs_same (w' := q) m (fun t ht => if_pos ht), a4]
theorem pth_wk {W : Nat → Nat → Option Nat} {f : Nat} {p w : Nat → Nat} (h0 : p 0 = f) : ∀ m, pth W p w m → wk W f m (p m) (cs w m)
  | 0, _ => ⟨h0, rfl⟩
  | m + 1, h => ⟨p m, w m, cs w m, pth_wk h0 m (fun t ht => h t (by omega)), h m (by omega), rfl⟩
theorem shorter {W : Nat → Nat → Option Nat} {f n m v c : Nat} (hW : ∀ u v w, W u v = some w → u < n ∧ v < n) (hn : 1 ≤ n) (hm : n ≤ m) (h : wk W f m v c) : ∃ m' c', m' < m ∧ c' ≤ c ∧ wk W f m' v c' := by
  obtain ⟨p, w, a1, a2, a3, a4⟩ := wk_pth m v c h
  obtain ⟨i, j, b1, b2, b3⟩ := pigeon n p (fun i hi => by
    by_cases e : i < m
    · exact (hW _ _ _ (a1 i e)).1
    · have : i = m - 1 + 1 := by omega
      rw [this]
      exact (hW _ _ _ (a1 (m - 1) (by omega))).2)
  have k1 : pth W (fun t => if t ≤ i then p t else p (t + (j - i))) (fun t => if t < i then w t else w (t + (j - i))) (m - (j - i)) := by
    intro t ht
    show W (if t ≤ i then p t else p (t + (j - i))) (if t + 1 ≤ i then p (t + 1) else p (t + 1 + (j - i))) = some (if t < i then w t else w (t + (j - i)))
    by_cases e : t < i
    · rw [if_pos (by omega), if_pos (by omega), if_pos e]; exact a1 t (by omega)
    · rw [if_neg (show ¬ t + 1 ≤ i by omega), if_neg e]
      have q := a1 (t + (j - i)) (by omega)
      rw [show t + (j - i) + 1 = t + 1 + (j - i) by omega] at q
      by_cases e2 : t = i
      · subst e2
        rw [if_pos (Nat.le_refl _)]
        rw [show t + (j - t) = j by omega, ← b3] at q
        rw [show t + (j - t) = j by omega]
        exact q
      · rw [if_neg (by omega)]; exact q
  have k2 := pth_wk (W := W) (f := f) (p := fun t => if t ≤ i then p t else p (t + (j - i))) (w := fun t => if t < i then w t else w (t + (j - i))) (by show (if 0 ≤ i then p 0 else p (0 + (j - i))) = f; rw [if_pos (by omega)]; exact a2) _ k1
  have k3 : (if m - (j - i) ≤ i then p (m - (j - i)) else p (m - (j - i) + (j - i))) = v := by
    by_cases e : m - (j - i) ≤ i
    · rw [if_pos e, show m - (j - i) = i by omega, b3, ← a3, show j = m by omega]
    · rw [if_neg e, show m - (j - i) + (j - i) = m by omega]; exact a3
  refine ⟨m - (j - i), _, by omega, ?_, by rw [← k3]; exact k2⟩
  have c1 := cs_split (fun t => if t < i then w t else w (t + (j - i))) i (m - j)
  have c2 := cs_split w i (m - i)
  have c3 := cs_split (fun t => w (i + t)) (j - i) (m - j)
  rw [show i + (m - j) = m - (j - i) by omega] at c1
  rw [show i + (m - i) = m by omega] at c2
  rw [show j - i + (m - j) = m - i by omega] at c3
  have c4 : cs (fun t => if t < i then w t else w (t + (j - i))) i = cs w i := cs_same i (fun t ht => if_pos ht)
  have c5 : cs (fun t => if i + t < i then w (i + t) else w (i + t + (j - i))) (m - j) = cs (fun t => w (i + (j - i + t))) (m - j) := cs_same _ (fun t ht => by
    show (if i + t < i then w (i + t) else w (i + t + (j - i))) = w (i + (j - i + t))
    rw [if_neg (by omega), show i + t + (j - i) = i + (j - i + t) by omega])
  have c1' : cs (fun t => if t < i then w t else w (t + (j - i))) (m - (j - i)) = cs (fun t => if t < i then w t else w (t + (j - i))) i + cs (fun t => if i + t < i then w (i + t) else w (i + t + (j - i))) (m - j) := c1
  have c3' : cs (fun t => w (i + t)) (m - i) = cs (fun t => w (i + t)) (j - i) + cs (fun t => w (i + (j - i + t))) (m - j) := c3
  rw [c1', c4, c5, ← a4, c2, c3']
  omega
theorem short {W : Nat → Nat → Option Nat} {f n : Nat} (hW : ∀ u v w, W u v = some w → u < n ∧ v < n) (hn : 1 ≤ n) : ∀ N m v c, m < N → wk W f m v c → ∃ m' c', m' ≤ n - 1 ∧ lx (c', m') (c, m) ∧ wk W f m' v c'
  | 0, m, v, c, hm, _ => by omega
  | N + 1, m, v, c, hm, h => by
    by_cases e : m ≤ n - 1
    · exact ⟨m, c, e, lx_rf _, h⟩
    · obtain ⟨m1, c1, h1, h2, h3⟩ := shorter hW hn (by omega) h
      obtain ⟨m2, c2, q1, q2, q3⟩ := short hW hn N m1 v c1 (by omega) h3
      refine ⟨m2, c2, q1, lx_tr q2 ?_, q3⟩
      show c1 < c ∨ (c1 = c ∧ m1 ≤ m)
      omega
theorem wyR_one {W : Nat → Nat → Option Nat} {f n k : Nat} (hW : ∀ u v w, W u v = some w → u < n ∧ v < n) (hn : 1 ≤ n) (hk : n - 1 ≤ k) : wyR W n k (s0 f) = wyR W n (n - 1) (s0 f) := by
  have one : ∀ a b, n - 1 ≤ b → ∀ v x, wyR W n a (s0 f) v = some x → ∃ y, wyR W n b (s0 f) v = some y ∧ lx y x := by
    intro a b hb v x hx
    obtain ⟨m', c', q1, q2, q3⟩ := short hW hn (x.2 + 1) x.2 v x.1 (by omega) (wyR_ok W f n a v x hx)
    obtain ⟨y, hy, l⟩ := wyR_all hW b m' v c' (by omega) q3
    exact ⟨y, hy, lx_tr l q2⟩
  funext v
  cases h1 : wyR W n k (s0 f) v with
  | none =>
    cases h2 : wyR W n (n - 1) (s0 f) v with
    | none => rfl
    | some x =>
      obtain ⟨y, hy, _⟩ := one (n - 1) k hk v x h2
      rw [h1] at hy; simp at hy
  | some x =>
    obtain ⟨y, hy, l1⟩ := one k (n - 1) (Nat.le_refl _) v x h1
    obtain ⟨z, hz, l2⟩ := one (n - 1) k hk v y hy
    rw [h1] at hz
    have e : x = z := by simpa using hz
    subst e
    rw [hy, lx_an l1 l2]
