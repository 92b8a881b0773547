/-! which SUMS can be paid, what is BARRED: both sides -/
theorem jn_some (b w r : Option Nat) : (jn b w r).isSome = true ↔ b.isSome = true ∨ (w.isSome = true ∧ r.isSome = true) := by
  cases b <;> cases w <;> cases r <;> simp [jn]
  split <;> simp
theorem bst_some (p L : Nat → Option Nat) (s : Nat) : ∀ j, (bst p L s j).isSome = true ↔ ∃ n, 1 ≤ n ∧ n ≤ j ∧ n ≤ s ∧ (p n).isSome = true ∧ (L (s - n)).isSome = true
  | 0 => by
    constructor
    · intro h; simp [bst] at h
    · rintro ⟨n, h1, h2, _⟩; omega
  | j + 1 => by
    have ih := bst_some p L s j
    unfold bst
    by_cases e : j + 1 ≤ s
    · rw [if_pos e, jn_some, ih]
      constructor
      · rintro (⟨n, h1, h2, h3, h4⟩ | ⟨h1, h2⟩)
        · exact ⟨n, h1, by omega, h3, h4⟩
        · exact ⟨j + 1, by omega, by omega, e, h1, h2⟩
      · rintro ⟨n, h1, h2, h3, h4, h5⟩
        by_cases z : n = j + 1
        · subst z; exact Or.inr ⟨h4, h5⟩
        · exact Or.inl ⟨n, h1, by omega, h3, h4, h5⟩
    · rw [if_neg e, ih]
      constructor
      · rintro ⟨n, h1, h2, h3, h4⟩; exact ⟨n, h1, by omega, h3, h4⟩
      · rintro ⟨n, h1, h2, h3, h4⟩; exact ⟨n, h1, by omega, h3, h4⟩
theorem ls_some (p : Nat → Option Nat) {s : Nat} (hs : 1 ≤ s) : (ls p s).isSome = true ↔ ∃ n, 1 ≤ n ∧ n ≤ 30 ∧ n ≤ s ∧ (p n).isSome = true ∧ (ls p (s - n)).isSome = true := by
  rw [ls_1 p hs]; exact bst_some p (ls p) s 30
def rp (p : Nat → Option Nat) : Nat → Nat → Prop
  | 0, t => t = 0
  | k + 1, t => ∃ j, (j = 0 ∨ (p (k + 1)).isSome = true) ∧ j * (k + 1) ≤ t ∧ rp p k (t - j * (k + 1))
theorem rp_0 (p : Nat → Option Nat) : ∀ k, rp p k 0
  | 0 => rfl
  | k + 1 => ⟨0, Or.inl rfl, by omega, by rw [Nat.zero_mul]; exact rp_0 p k⟩
theorem rp_up (p : Nat → Option Nat) {k t : Nat} (h : rp p k t) : rp p (k + 1) t := ⟨0, Or.inl rfl, by omega, by rw [Nat.zero_mul]; exact h⟩
theorem rp_add (p : Nat → Option Nat) : ∀ k a b, rp p k a → rp p k b → rp p k (a + b)
  | 0, a, b, h1, h2 => by
    have h1 : a = 0 := h1
    have h2 : b = 0 := h2
    subst h1; subst h2; rfl
  | k + 1, a, b, ⟨i, i1, i2, i3⟩, ⟨j, j1, j2, j3⟩ => by
    refine ⟨i + j, ?_, ?_, ?_⟩
    · rcases i1 with rfl | h
      · rcases j1 with rfl | h
        · exact Or.inl rfl
        · exact Or.inr h
      · exact Or.inr h
    · rw [Nat.add_mul]; omega
    · have := rp_add p k _ _ i3 j3
      rw [Nat.add_mul, show a + b - (i * (k + 1) + j * (k + 1)) = a - i * (k + 1) + (b - j * (k + 1)) by omega]
      exact this
theorem rp_mul (p : Nat → Option Nat) {k a : Nat} (h : rp p k a) : ∀ j, rp p k (j * a)
  | 0 => by rw [Nat.zero_mul]; exact rp_0 p k
  | j + 1 => by
    rw [Nat.succ_mul]
    exact rp_add p k _ _ (rp_mul p h j) h
theorem rp_not (p : Nat → Option Nat) {k t : Nat} (hp : (p (k + 1)).isSome = false) : rp p (k + 1) t ↔ rp p k t := by
  constructor
  · rintro ⟨j, j1, j2, j3⟩
    rcases j1 with rfl | h
    · rw [Nat.zero_mul] at j3; exact j3
    · rw [hp] at h; simp at h
  · exact rp_up p
theorem rp_old (p : Nat → Option Nat) {k t : Nat} (h : rp p k (k + 1)) : rp p (k + 1) t ↔ rp p k t := by
  constructor
  · rintro ⟨j, j1, j2, j3⟩
    have := rp_add p k _ _ (rp_mul p h j) j3
    rw [show j * (k + 1) + (t - j * (k + 1)) = t by omega] at this
    exact this
  · exact rp_up p
theorem rp_new (p : Nat → Option Nat) {k t : Nat} (hp : (p (k + 1)).isSome = true) : rp p (k + 1) t ↔ rp p k t ∨ (k + 1 ≤ t ∧ rp p (k + 1) (t - (k + 1))) := by
  constructor
  · rintro ⟨j, j1, j2, j3⟩
    match j, j2, j3 with
    | 0, _, j3 => rw [Nat.zero_mul] at j3; exact Or.inl j3
    | j + 1, j2, j3 =>
      rw [Nat.succ_mul] at j2 j3
      refine Or.inr ⟨by omega, j, Or.inr hp, by omega, ?_⟩
      rw [show t - (k + 1) - j * (k + 1) = t - (j * (k + 1) + (k + 1)) by omega]
      exact j3
  · rintro (h | ⟨h1, j, j1, j2, j3⟩)
    · exact rp_up p h
    · refine ⟨j + 1, Or.inr hp, by rw [Nat.succ_mul]; omega, ?_⟩
      rw [Nat.succ_mul, show t - (j * (k + 1) + (k + 1)) = t - (k + 1) - j * (k + 1) by omega]
      exact j3
theorem ls_add (p : Nat → Option Nat) {t n : Nat} (h : (ls p t).isSome = true) (h1 : 1 ≤ n) (h2 : n ≤ 30) (hp : (p n).isSome = true) : (ls p (t + n)).isSome = true := by
  rw [ls_some p (by omega)]
  exact ⟨n, h1, h2, by omega, hp, by rw [show t + n - n = t by omega]; exact h⟩
theorem rp_ls (p : Nat → Option Nat) : ∀ k, k ≤ 30 → ∀ t, rp p k t → (ls p t).isSome = true
  | 0, _, t, h => by
    have h : t = 0 := h
    subst h; rfl
  | k + 1, hk, t, ⟨j, j1, j2, j3⟩ => by
    have h0 := rp_ls p k (by omega) _ j3
    rcases j1 with rfl | hp
    · rw [Nat.zero_mul] at h0; exact h0
    · have key : ∀ i, (ls p (t - j * (k + 1) + i * (k + 1))).isSome = true := by
        intro i
        induction i with
        | zero => rw [Nat.zero_mul]; exact h0
        | succ i ih =>
          rw [Nat.succ_mul, ← Nat.add_assoc]
          exact ls_add p ih (by omega) (by omega) hp
      have := key j
      rw [show t - j * (k + 1) + j * (k + 1) = t by omega] at this
      exact this
theorem rp_one (p : Nat → Option Nat) {n : Nat} (h1 : 1 ≤ n) (hp : (p n).isSome = true) : ∀ r, rp p (n + r) n
  | 0 => by
    obtain ⟨k, rfl⟩ : ∃ k, n = k + 1 := ⟨n - 1, by omega⟩
    exact ⟨1, Or.inr hp, by omega, by rw [show k + 1 - 1 * (k + 1) = 0 by omega]; exact rp_0 p k⟩
  | r + 1 => rp_up p (rp_one p h1 hp r)
theorem ls_rp (p : Nat → Option Nat) : ∀ N t, t < N → (ls p t).isSome = true → rp p 30 t
  | 0, t, h, _ => by omega
  | N + 1, t, h, hs => by
    by_cases e : t = 0
    · subst e; exact rp_0 p 30
    · obtain ⟨n, n1, n2, n3, n4, n5⟩ := (ls_some p (by omega)).mp hs
      have a := ls_rp p N (t - n) (by omega) n5
      have b := rp_one p n1 n4 (30 - n)
      rw [show n + (30 - n) = 30 by omega] at b
      have := rp_add p 30 _ _ a b
      rw [show t - n + n = t by omega] at this
      exact this
theorem rp_30 (p : Nat → Option Nat) (t : Nat) : rp p 30 t ↔ (ls p t).isSome = true := ⟨rp_ls p 30 (by omega) t, ls_rp p (t + 1) t (by omega)⟩
def bI (b : Bool) : Int32 := if b then 1 else 0
/-- many, the first, the worth of what is BARRED among 1 .. j -/
def hind (E : zE) (x : zH) (p : Nat → Option Nat) : Nat → Int32 × Int32 × Int32
  | 0 => (0, -1, 0)
  | j + 1 => if (ls p (j + 1)).isSome then hind E x p j else if meant E.2.2 E.1 E.2.1 x.1 x.2.2.1 x.2.2.2 (j + 1) then ((hind E x p j).1 + 1, (if (hind E x p j).2.1 = -1 then nI (j + 1) else (hind E x p j).2.1), (hind E x p j).2.2 + nI (worth E.2.2 E.1 E.2.1 x.1 x.2.2.1 x.2.2.2 (j + 1))) else hind E x p j
def hq (E : zE) (x : zH) (p : Nat → Option Nat) (w : Nat) : Int32 := if w = 0 then (hind E x p 99).1 else if w = 1 then (hind E x p 99).2.1 else (hind E x p 99).2.2
def npay (p : Nat → Option Nat) : Nat → Nat
  | 0 => 0
  | j + 1 => npay p j + (if (ls p (j + 1)).isSome then 1 else 0)
theorem npay_le (p : Nat → Option Nat) : ∀ j, npay p j ≤ j
  | 0 => Nat.le_refl _
  | j + 1 => by
    have := npay_le p j
    unfold npay
    split <;> omega
section
variable {d : Nat} {g : zG} {σ : zI}
theorem cx_fillCan {K : zI → Prop} (hg : zGA g) {a b : Nat} {x y : zH} (ha : zOb g a 0) (hb : zOb g b 0) (hx : xH σ a x) (hy : xH σ b y)
    {p : Nat → Option Nat} (hs : ∀ n, (p n).isSome = (sd x n && sd y n))
    (h1 : ∀ σ', zfr [26] σ σ' → (∀ t, t < 100 → σ' 26 t = bI (ls p t).isSome) → K σ') : zCV mX3_fillCan (d + 4) [.ref 22, .ref a, .ref b] g σ K := by
  refine s_X3_fillCan hg ha hb (cx_sayable hg ha hx (cx_sayable hg hb hy ?_))
  rw [fa_and]
  have key44 : ∀ (r n : Nat) (σ1 : zI), n + r = 30 → zfr [26] σ σ1 → (∀ t, t < 100 → (rp p n t → σ1 26 t = 1) ∧ (¬ rp p n t → σ1 26 t = 0)) → p_X3_fillCan_44 (d + 3) g K σ1 (nI (sb x &&& sb y)) (nI (n + 1)) := by
    intro r
    induction r with
    | zero =>
      intro n σ1 hr hf hv
      have e : n = 30 := by omega
      subst e
      refine s_X3_fillCan_44 hg (i_lt 30 31 rfl rfl (by omega) (by omega) (fun _ => h1 σ1 hf (fun t ht => ?_)) (fun q => by omega))
      by_cases z : (ls p t).isSome = true
      · rw [(hv t ht).1 ((rp_30 p t).mpr z), z]; rfl
      · rw [(hv t ht).2 (fun u => z ((rp_30 p t).mp u))]
        have : (ls p t).isSome = false := by simpa using z
        rw [this]; rfl
    | succ r ih =>
      intro n σ1 hr hf hv
      refine s_X3_fillCan_44 hg (i_lt 30 (n + 1) rfl rfl (by omega) (by omega) (fun q => by omega) (fun _ => ?_))
      have e := sd_sb x y (n := n + 1) (by omega) (by omega)
      rw [← hs] at e
      have skip : (∀ t, rp p (n + 1) t ↔ rp p n t) → p_X3_fillCan_44 (d + 3) g K σ1 (nI (sb x &&& sb y)) (nI (n + 1) + 1) := by
        intro hi
        rw [nI_1]
        refine ih (n + 1) σ1 (by omega) hf (fun t ht => ?_)
        rw [hi t]; exact hv t ht
      refine cx_has (d := d + 2) hg (by omega) (by omega) (fun w => z0 (skip (fun t => rp_not p (by rw [← e]; exact w)))) (fun w => z1 ⟨v_in (by omega) (by omega), ?_⟩)
      have hp : (p (n + 1)).isSome = true := by rw [← e]; exact w
      rw [c_nI (by omega)]
      refine t_eq (fun q => ?_) (fun q => skip (fun t => rp_old p (Classical.byContradiction fun u => q ((hv (n + 1) (by omega)).2 u))))
      have key74 : ∀ (m u : Nat) (σ2 : zI), u + m = 100 → n + 1 ≤ u → zfr [26] σ σ2 → (∀ t, t < u → (rp p (n + 1) t → σ2 26 t = 1) ∧ (¬ rp p (n + 1) t → σ2 26 t = 0)) → (∀ t, u ≤ t → t < 100 → (rp p n t → σ2 26 t = 1) ∧ (¬ rp p n t → σ2 26 t = 0)) → p_X3_fillCan_74 (d + 3) g K σ2 (nI (sb x &&& sb y)) (nI (n + 1)) (nI u) := by
        intro m
        induction m with
        | zero =>
          intro u σ2 hm hu hf2 hv1 hv2
          refine s_X3_fillCan_74 hg (i_lt 99 u rfl rfl (by omega) (by omega) (fun _ => ?_) (fun q => by omega))
          rw [nI_1]
          exact ih (n + 1) σ2 (by omega) hf2 (fun t ht => hv1 t (by omega))
        | succ m ih2 =>
          intro u σ2 hm hu hf2 hv1 hv2
          have nx : ∀ v : Int32, (rp p (n + 1) u → v = 1) → (¬ rp p (n + 1) u → v = 0) → p_X3_fillCan_74 (d + 3) g K (zsI σ2 26 u v) (nI (sb x &&& sb y)) (nI (n + 1)) (nI u + 1) := by
            intro v hv3 hv4
            rw [nI_1]
            refine ih2 (u + 1) _ (by omega) (by omega) (zfr_put hf2 (by decide)) (fun t ht => ?_) (fun t ht ht2 => ?_)
            · rw [zsI_row]
              by_cases z : t = u
              · subst z; rw [u_eq]; exact ⟨hv3, hv4⟩
              · rw [u_ne z]; exact hv1 t (by omega)
            · rw [zsI_row, u_ne (by omega)]; exact hv2 t (by omega) ht2
          have hn := rp_new p (t := u) hp
          refine s_X3_fillCan_74 hg (i_lt 99 u rfl rfl (by omega) (by omega) (fun q => by omega) (fun _ => ⟨v_in (by omega) (by omega), ?_⟩))
          rw [pk_sub hu, c_nI (n := u) (by omega), c_nI (n := u - (n + 1)) (by omega)]
          have hc := hv2 u (by omega) (by omega)
          have hl := hv1 (u - (n + 1)) (by omega)
          refine t_eq (fun z => ⟨v_in (by omega) (by omega), t_eq (fun z2 => ⟨v_in (by omega) (by omega), nx 0 (fun k => ?_) (fun _ => rfl)⟩) (fun z2 => ⟨v_in (by omega) (by omega), nx 1 (fun _ => rfl) (fun k => ?_)⟩)⟩) (fun z => ⟨v_in (by omega) (by omega), nx 1 (fun _ => rfl) (fun k => ?_)⟩)
          · rcases hn.mp k with k1 | ⟨_, k2⟩
            · rw [hc.1 k1] at z; exact absurd z (by decide)
            · rw [hl.1 k2] at z2; exact absurd z2 (by decide)
          · refine absurd (hl.2 (fun k2 => k (hn.mpr (Or.inr ⟨hu, k2⟩)))) z2
          · refine absurd (hc.2 (fun k2 => k (hn.mpr (Or.inl k2)))) z
      refine key74 (100 - (n + 1)) (n + 1) σ1 (by omega) (by omega) hf (fun t ht => ?_) (fun t _ ht => hv t ht)
      have hn := rp_new p (t := t) hp
      have hn2 : rp p (n + 1) t ↔ rp p n t := by
        rw [hn]
        constructor
        · rintro (k | ⟨k, _⟩)
          · exact k
          · omega
        · exact Or.inl
      rw [hn2]
      exact hv t (by omega)
  have key20 : ∀ (r n : Nat) (σ1 : zI), n + r = 100 → 1 ≤ n → zfr [26] σ σ1 → σ1 26 0 = 1 → (∀ t, 1 ≤ t → t < n → σ1 26 t = 0) → p_X3_fillCan_20 (d + 3) g K σ1 (nI (sb x &&& sb y)) (nI n) := by
    intro r
    induction r with
    | zero =>
      intro n σ1 hr hn hf h0 hv
      refine s_X3_fillCan_20 hg (i_lt 99 n rfl rfl (by omega) (by omega) (fun _ => key44 30 0 σ1 (by omega) hf (fun t ht => ?_)) (fun q => by omega))
      by_cases z : t = 0
      · subst z; exact ⟨fun _ => h0, fun k => absurd rfl k⟩
      · exact ⟨fun k => absurd k z, fun _ => hv t (by omega) (by omega)⟩
    | succ r ih =>
      intro n σ1 hr hn hf h0 hv
      refine s_X3_fillCan_20 hg (i_lt 99 n rfl rfl (by omega) (by omega) (fun q => by omega) (fun _ => ⟨v_in (by omega) (by omega), ?_⟩))
      rw [c_nI (by omega), nI_1]
      refine ih (n + 1) _ (by omega) (by omega) (zfr_put hf (by decide)) ?_ (fun t ht ht2 => ?_)
      · rw [zsI_row, u_ne (by omega)]; exact h0
      · rw [zsI_row]
        by_cases z : t = n
        · subst z; rw [u_eq]
        · rw [u_ne z]; exact hv t ht (by omega)
  exact key20 99 1 _ (by omega) (by omega) (zfr_I (by decide)) (by rw [zsI_row, u_eq]) (fun t h1 h2 => by omega)
theorem bI_0 (b : Bool) : bI b = 0 ↔ b = false := by cases b <;> simp [bI]
theorem cx_payable {K : Int32 → zI → Prop} (hg : zGA g) {a b : Nat} {x y : zH} (ha : zOb g a 0) (hb : zOb g b 0) (hx : xH σ a x) (hy : xH σ b y)
    {p : Nat → Option Nat} (hs : ∀ n, (p n).isSome = (sd x n && sd y n)) (h1 : ∀ σ', zfr [26] σ σ' → K (nI (npay p 99)) σ') : zCI mX3_payable (d + 5) [.ref 22, .ref a, .ref b] g σ K := by
  refine s_X3_payable hg ha hb (cx_fillCan hg ha hb hx hy hs (fun σ1 hf h26 => ?_))
  have key : ∀ (r n : Nat), n + r = 99 → p_X3_payable_11 (d + 4) g K σ1 (nI (npay p n)) (nI (n + 1)) := by
    intro r
    induction r with
    | zero =>
      intro n hr
      have e : n = 99 := by omega
      subst e
      exact s_X3_payable_11 hg (i_lt 99 100 rfl rfl (by omega) (by omega) (fun _ => h1 σ1 hf) (fun q => by omega))
    | succ r ih =>
      intro n hr
      refine s_X3_payable_11 hg (i_lt 99 (n + 1) rfl rfl (by omega) (by omega) (fun q => by omega) (fun _ => ⟨v_in (by omega) (by omega), ?_⟩))
      rw [c_nI (by omega), h26 (n + 1) (by omega)]
      have nx := ih (n + 1) (by omega)
      refine cx_truth hg (fun z => ?_) (fun z => ?_)
      · have w := (bI_0 _).mp z
        have e : npay p (n + 1) = npay p n := by
          show npay p n + (if (ls p (n + 1)).isSome then 1 else 0) = _
          rw [w]; rfl
        rw [e] at nx
        rw [show (0 : Int32) = nI 0 from rfl, nI_add, nI_1]
        exact nx
      · have w : (ls p (n + 1)).isSome = true := by
          cases h : (ls p (n + 1)).isSome with
          | true => rfl
          | false => rw [h] at z; exact absurd rfl z
        have e : npay p (n + 1) = npay p n + 1 := by
          show npay p n + (if (ls p (n + 1)).isSome then 1 else 0) = _
          rw [w]; rfl
        rw [e] at nx
        rw [nI_1, nI_1]
        exact nx
  exact key 99 0 (by omega)
theorem cx_hindered {K : Int32 → zI → Prop} (hg : zGA g) {E : zE} {T a b : Nat} {x y : zH} (ht : xTx σ T E.1 E.2.1 E.2.2) (ha : zOb g a 0) (hb : zOb g b 0) (hx : xH σ a x) (hy : xH σ b y)
    {p : Nat → Option Nat} (hs : ∀ n, (p n).isSome = (sd x n && sd y n)) {w : Nat} (hw : w ≤ 2) (h1 : ∀ σ', zfr [20, 21, 26] σ σ' → K (hq E x p w) σ') : zCI mX3_hindered (d + 5) [.ref 22, .ref a, .ref b, .int (nI w)] g σ K := by
  refine s_X3_hindered hg ha hb (cx_fillCan hg ha hb hx hy hs (fun σ1 hf h26 => ?_))
  have key : ∀ (r n : Nat) (σ2 : zI) (c : Int32), n + r = 99 → zfr [20, 21, 26] σ σ2 → (∀ t, t < 100 → σ2 26 t = bI (ls p t).isSome) → (w = 2 → c = (hind E x p n).2.2) → p_X3_hindered_18 (d + 4) g K σ2 a (nI w) (hind E x p n).1 (hind E x p n).2.1 c (nI (n + 1)) := by
    intro r
    induction r with
    | zero =>
      intro n σ2 c hr hf2 h26 hc
      have e : n = 99 := by omega
      subst e
      have hk := h1 σ2 hf2
      unfold hq at hk
      refine s_X3_hindered_18 hg ha (i_lt 99 100 rfl rfl (by omega) (by omega) (fun _ => i_eq w 0 rfl rfl (by omega) (by omega) (fun q => ?_) (fun q => i_eq w 1 rfl rfl (by omega) (by omega) (fun q2 => ?_) (fun q2 => ?_))) (fun q => by omega))
      · rw [if_pos q] at hk; exact hk
      · rw [if_neg q, if_pos q2] at hk; exact hk
      · rw [if_neg q, if_neg q2, ← hc (by omega)] at hk; exact hk
    | succ r ih =>
      intro n σ2 c hr hf2 h26 hc
      refine s_X3_hindered_18 hg ha (i_lt 99 (n + 1) rfl rfl (by omega) (by omega) (fun q => by omega) (fun _ => ⟨v_in (by omega) (by omega), ?_⟩))
      rw [c_nI (by omega), h26 (n + 1) (by omega), nI_1 (n + 1)]
      have eh : hind E x p (n + 1) = if (ls p (n + 1)).isSome then hind E x p n else if meant E.2.2 E.1 E.2.1 x.1 x.2.2.1 x.2.2.2 (n + 1) then ((hind E x p n).1 + 1, (if (hind E x p n).2.1 = -1 then nI (n + 1) else (hind E x p n).2.1), (hind E x p n).2.2 + nI (worth E.2.2 E.1 E.2.1 x.1 x.2.2.1 x.2.2.2 (n + 1))) else hind E x p n := rfl
      refine t_eq (fun z => ?_) (fun z => ?_)
      · rw [(bI_0 _).mp z] at eh
        rw [if_neg (by decide)] at eh
        have hfP : zfr [20, 21, 23, 24, 25, 26, 27] σ σ2 := zfr_up hf2 (by decide)
        refine cx_isMeant hg (xTx_P ht hfP) ha (xH_P hg ha hx hfP) (fun σ3 hf3 => ?_)
        have hf4 : zfr [20, 21, 26] σ σ3 := zfr_tr hf2 (zfr_up hf3 (by decide))
        have h26' : ∀ t, t < 100 → σ3 26 t = bI (ls p t).isSome := by rw [hf3 26 (by decide)]; exact h26
        cases hm : meant E.2.2 E.1 E.2.1 x.1 x.2.2.1 x.2.2.2 (n + 1) with
        | false =>
          rw [hm, if_neg (by decide)] at eh
          rw [show (if false = true then (1 : Int32) else 0) = 0 from rfl]
          refine z0 ?_
          have := ih (n + 1) σ3 c (by omega) hf4 h26' (by rw [eh]; exact hc)
          rw [eh] at this
          exact this
        | true =>
          rw [hm, if_pos rfl] at eh
          rw [if_pos rfl]
          refine z1 ?_
          have fin : ∀ f, f = (hind E x p (n + 1)).2.1 → (if nI w = 2 then zCI mX2_worthOf (d + 4) [.ref 3, .ref a, .int (nI (n + 1))] g σ3 (fun v2 σ4 => p_X3_hindered_18 (d + 4) g K σ4 a (nI w) ((hind E x p n).1 + 1) f (c + v2) (nI (n + 1 + 1))) else p_X3_hindered_18 (d + 4) g K σ3 a (nI w) ((hind E x p n).1 + 1) f (c + 0) (nI (n + 1 + 1))) := by
            intro f hf9
            subst hf9
            have e1 : (hind E x p n).1 + 1 = (hind E x p (n + 1)).1 := by rw [eh]
            rw [e1]
            refine i_eq w 2 rfl rfl (by omega) (by omega) (fun q => ?_) (fun q => ih (n + 1) σ3 _ (by omega) hf4 h26' (fun u => absurd u q))
            have hfQ : zfr [20, 21, 23, 24, 25, 26, 27] σ σ3 := zfr_up hf4 (by decide)
            refine cx_worthOf hg (xTx_P ht hfQ) ha (xH_P hg ha hx hfQ) (fun σ4 hf5 => ih (n + 1) σ4 _ (by omega) (zfr_tr hf4 (zfr_up hf5 (by decide))) (by rw [hf5 26 (by decide)]; exact h26') (fun u => ?_))
            rw [eh, hc u]
          refine t_eq (fun q => fin _ ?_) (fun q => fin _ ?_)
          · rw [eh, if_pos q]
          · rw [eh, if_neg q]
      · have w1 : (ls p (n + 1)).isSome = true := by
          cases h : (ls p (n + 1)).isSome with
          | true => rfl
          | false => rw [h] at z; exact absurd rfl z
        rw [w1, if_pos rfl] at eh
        have := ih (n + 1) σ2 c (by omega) hf2 h26 (by rw [eh]; exact hc)
        rw [eh] at this
        exact this
  exact key 99 0 σ1 0 (by omega) (zfr_up hf (by decide)) h26 (fun _ => rfl)
theorem on_some {p : Nat → Option Nat} (hp : wgt p) {t : Nat} (ht : t < 100) : on (ls p t) = -1 ↔ (ls p t).isSome = false := by
  cases h : ls p t with
  | none => simp [on]
  | some v =>
    have := ls_le' hp h
    constructor
    · intro e; exact absurd e (on_ne (by omega))
    · intro e; simp at e
theorem cm_barredOf {K : Int32 → zI → Prop} (hg : zGA g) {E : zE} {T : Nat} {x y : zH} (ht : mTx σ T E.1 E.2.1 E.2.2) (hx : mH σ x) (hy : mH σ y) (h68 : σ 68 0 = 0) (h69 : σ 69 0 = 0) {w : Nat} (hw : w ≤ 2)
    (h1 : ∀ σ', zfr [66, 67, 68, 69] σ σ' → σ' 68 0 = 0 → σ' 69 0 = 0 → K (hq E x (prc E x y) w) σ') : zCI mX8_barredOf (d + 6) [.ref 57, .int (nI x.1), .int (nI y.1), .int (nI w)] g σ K := by
  have wp : wgt (prc E x y) := prc_wgt E x y hx.2.2.2.2.2.1 hy.2.2.2.2.2.1
  refine s_X8_barredOf hg (cm_sums hg ht hx hy h68 h69 (fun σ1 hf hv => ?_))
  generalize prc E x y = p at *
  have key : ∀ (r n : Nat) (σ2 : zI), n + r = 99 → zfr [66] σ1 σ2 → (∀ t, t < 100 → σ2 68 t = on (ls p t)) → p_X8_barredOf_18 (d + 5) g K σ2 (nI x.1) (nI w) (hind E x p n).1 (hind E x p n).2.1 (hind E x p n).2.2 (nI (n + 1)) := by
    intro r
    induction r with
    | zero =>
      intro n σ2 hr hfa h26
      have hf2 : zfr [66, 67, 68, 69] σ σ2 := zfr_tr hf (zfr_up hfa (by decide))
      have e : n = 99 := by omega
      subst e
      have hk := h1 σ2 hf2 (h26 0 (by omega)) (by rw [hfa 69 (by decide)]; exact (hv 0 (by omega)).2)
      unfold hq at hk
      refine s_X8_barredOf_18 hg (i_le 100 100 rfl rfl (by omega) (by omega) (fun _ => i_eq w 0 rfl rfl (by omega) (by omega) (fun q => ?_) (fun q => i_eq w 1 rfl rfl (by omega) (by omega) (fun q2 => ?_) (fun q2 => ?_))) (fun q => by omega))
      · rw [if_pos q] at hk; exact hk
      · rw [if_neg q, if_pos q2] at hk; exact hk
      · rw [if_neg q, if_neg q2] at hk; exact hk
    | succ r ih =>
      intro n σ2 hr hfa h26
      have hf2 : zfr [66, 67, 68, 69] σ σ2 := zfr_tr hf (zfr_up hfa (by decide))
      refine s_X8_barredOf_18 hg (i_le 100 (n + 1) rfl rfl (by omega) (by omega) (fun q => by omega) (fun _ => ⟨v_in (by omega) (by omega), ?_⟩))
      rw [c_nI (by omega), h26 (n + 1) (by omega), nI_1 (n + 1)]
      have eh : hind E x p (n + 1) = if (ls p (n + 1)).isSome then hind E x p n else if meant E.2.2 E.1 E.2.1 x.1 x.2.2.1 x.2.2.2 (n + 1) then ((hind E x p n).1 + 1, (if (hind E x p n).2.1 = -1 then nI (n + 1) else (hind E x p n).2.1), (hind E x p n).2.2 + nI (worth E.2.2 E.1 E.2.1 x.1 x.2.2.1 x.2.2.2 (n + 1))) else hind E x p n := rfl
      refine t_eq (fun z => ?_) (fun z => ?_)
      · rw [(on_some wp (by omega)).mp z] at eh
        rw [if_neg (by decide)] at eh
        refine cm_isMeant (d := d + 2) hg (mTx_S ht hf2) (mH_S hx hf2) (by omega) (fun σ3 hf3 => ?_)
        have hf4 : zfr [66, 67, 68, 69] σ σ3 := zfr_tr hf2 (zfr_up hf3 (by decide))
        have h26' : ∀ t, t < 100 → σ3 68 t = on (ls p t) := by rw [hf3 68 (by decide)]; exact h26
        cases hm : meant E.2.2 E.1 E.2.1 x.1 x.2.2.1 x.2.2.2 (n + 1) with
        | false =>
          rw [hm, if_neg (by decide)] at eh
          rw [show (if false = true then (1 : Int32) else 0) = 0 from rfl]
          refine z0 ?_
          have := ih (n + 1) σ3 (by omega) (zfr_tr hfa hf3) h26'
          rw [eh] at this
          exact this
        | true =>
          rw [hm, if_pos rfl] at eh
          rw [if_pos rfl]
          refine z1 ?_
          have fin : ∀ f, f = (hind E x p (n + 1)).2.1 → zCI mX8_worthOf (d + 5) [.ref 57, .int (nI x.1), .int (nI (n + 1))] g σ3 (fun v2 σ4 => p_X8_barredOf_18 (d + 5) g K σ4 (nI x.1) (nI w) ((hind E x p n).1 + 1) f ((hind E x p n).2.2 + v2) (nI (n + 1 + 1))) := by
            intro f hf9
            subst hf9
            have e1 : (hind E x p n).1 + 1 = (hind E x p (n + 1)).1 := by rw [eh]
            rw [e1]
            refine cm_worthOf (d := d + 2) hg (mTx_S ht hf4) (mH_S hx hf4) (by omega) (fun σ4 hf5 => ?_)
            have e2 : (hind E x p n).2.2 + nI (worth E.2.2 E.1 E.2.1 x.1 x.2.2.1 x.2.2.2 (n + 1)) = (hind E x p (n + 1)).2.2 := by rw [eh]
            rw [e2]
            exact ih (n + 1) σ4 (by omega) (zfr_tr (zfr_tr hfa hf3) hf5) (by rw [hf5 68 (by decide)]; exact h26')
          refine t_eq (fun q => fin _ ?_) (fun q => fin _ ?_)
          · rw [eh, if_pos q]
          · rw [eh, if_neg q]
      · have w1 : (ls p (n + 1)).isSome = true := by
          cases h : (ls p (n + 1)).isSome with
          | true => rfl
          | false => exact absurd ((on_some wp (by omega)).mpr h) z
        rw [w1, if_pos rfl] at eh
        have := ih (n + 1) σ2 (by omega) hfa h26
        rw [eh] at this
        exact this
  exact key 99 0 σ1 (by omega) (zfr_rf _ _) (fun t ht => (hv t ht).1)
theorem cm_unpaid {K : Int32 → zI → Prop} (hg : zGA g) {E : zE} {T : Nat} {x y : zH} (ht : mTx σ T E.1 E.2.1 E.2.2) (hx : mH σ x) (hy : mH σ y) (h68 : σ 68 0 = 0) (h69 : σ 69 0 = 0)
    (h1 : ∀ σ', zfr [66, 67, 68, 69] σ σ' → σ' 68 0 = 0 → σ' 69 0 = 0 → K (nI (99 - npay (prc E x y) 99)) σ') : zCI mX8_unpaid (d + 6) [.ref 57, .int (nI x.1), .int (nI y.1)] g σ K := by
  have wp : wgt (prc E x y) := prc_wgt E x y hx.2.2.2.2.2.1 hy.2.2.2.2.2.1
  refine s_X8_unpaid hg (cm_sums hg ht hx hy h68 h69 (fun σ1 hf hv => ?_))
  generalize prc E x y = p at *
  have key : ∀ (r n : Nat), n + r = 99 → p_X8_unpaid_11 (d + 5) g K σ1 (nI (n - npay p n)) (nI (n + 1)) := by
    intro r
    induction r with
    | zero =>
      intro n hr
      have e : n = 99 := by omega
      subst e
      exact s_X8_unpaid_11 hg (i_le 100 100 rfl rfl (by omega) (by omega) (fun _ => h1 σ1 hf (hv 0 (by omega)).1 (hv 0 (by omega)).2) (fun q => by omega))
    | succ r ih =>
      intro n hr
      refine s_X8_unpaid_11 hg (i_le 100 (n + 1) rfl rfl (by omega) (by omega) (fun q => by omega) (fun _ => ⟨v_in (by omega) (by omega), ?_⟩))
      rw [c_nI (by omega), (hv (n + 1) (by omega)).1]
      have nx := ih (n + 1) (by omega)
      have hl := npay_le p n
      refine t_eq (fun z => ?_) (fun z => ?_)
      · have w := (on_some wp (by omega)).mp z
        have e : npay p (n + 1) = npay p n := by
          show npay p n + (if (ls p (n + 1)).isSome then 1 else 0) = _
          rw [w]; rfl
        rw [e, show n + 1 - npay p n = n - npay p n + 1 by omega] at nx
        rw [nI_1, nI_1]
        exact nx
      · have w : (ls p (n + 1)).isSome = true := by
          cases h : (ls p (n + 1)).isSome with
          | true => rfl
          | false => exact absurd ((on_some wp (by omega)).mpr h) z
        have e : npay p (n + 1) = npay p n + 1 := by
          show npay p n + (if (ls p (n + 1)).isSome then 1 else 0) = _
          rw [w]; rfl
        rw [e, show n + 1 - (npay p n + 1) = n - npay p n by omega] at nx
        rw [nI_1]
        exact nx
  exact key 99 0 (by omega)
end
