/-! the ways of a SUM: both sides -/
def oc : Option (Nat × Nat) → Int32
  | none => -1
  | some x => nI x.1
def os (z : Int32) : Option (Nat × Nat) → Int32
  | none => z
  | some x => nI x.2
def bnd (t : Nat) (s : Nat → Option (Nat × Nat)) : Prop := ∀ v x, s v = some x → x.1 ≤ 40000 * t ∧ x.2 ≤ t
theorem bnd_up {t t' : Nat} {s : Nat → Option (Nat × Nat)} (h : bnd t s) (ht : t ≤ t') : bnd t' s := fun v x hx => by
  have := h v x hx
  omega
theorem bnd_E {W : Nat → Nat → Option Nat} {t i j : Nat} {s : Nat → Option (Nat × Nat)} (hw : ∀ u v w, W u v = some w → w ≤ 40000) (h : bnd t s) : bnd (t + 1) (wyE W i j s) := by
  cases h1 : s i with
  | none => rw [wyE_n1 h1]; exact bnd_up h (by omega)
  | some x =>
    cases h2 : W i j with
    | none => rw [wyE_n2 h2]; exact bnd_up h (by omega)
    | some w =>
      rw [wyE_eq h1 h2]
      by_cases c : bt (x.1 + w, x.2 + 1) (s j) = true
      · rw [if_pos c]
        intro v y hy
        unfold up2 at hy
        by_cases e : v = j
        · rw [if_pos e] at hy
          have e2 : (x.1 + w, x.2 + 1) = y := by simpa using hy
          have a1 := h i x h1
          have a2 := hw _ _ _ h2
          subst e2
          show x.1 + w ≤ 40000 * (t + 1) ∧ x.2 + 1 ≤ t + 1
          omega
        · rw [if_neg e] at hy
          have := h v y hy
          omega
      · rw [if_neg c]; exact bnd_up h (by omega)
theorem bnd_J {W : Nat → Nat → Option Nat} {t i : Nat} {s : Nat → Option (Nat × Nat)} (hw : ∀ u v w, W u v = some w → w ≤ 40000) (h : bnd t s) : ∀ j, bnd (t + j) (wyJ W i j s)
  | 0 => h
  | j + 1 => bnd_E hw (bnd_J hw h j)
theorem bnd_I {W : Nat → Nat → Option Nat} {t n : Nat} {s : Nat → Option (Nat × Nat)} (hw : ∀ u v w, W u v = some w → w ≤ 40000) (hn : n ≤ 6) (h : bnd t s) : ∀ i, bnd (t + 6 * i) (wyI W n i s)
  | 0 => h
  | i + 1 => bnd_up (bnd_J hw (bnd_I hw hn h i) n) (by omega)
theorem bnd_R {W : Nat → Nat → Option Nat} {n f : Nat} (hw : ∀ u v w, W u v = some w → w ≤ 40000) (hn : n ≤ 6) : ∀ k, bnd (36 * k) (wyR W n k (s0 f))
  | 0 => fun v x h => by
    have h : (if v = f then some (0, 0) else none) = some x := h
    by_cases e : v = f
    · rw [if_pos e] at h
      have e2 : (0, 0) = x := by simpa using h
      subst e2
      exact ⟨Nat.zero_le _, Nat.zero_le _⟩
    · rw [if_neg e] at h; simp at h
  | k + 1 => bnd_up (bnd_I hw hn (bnd_R hw hn k) n) (by omega)
theorem wyJ_none {W : Nat → Nat → Option Nat} {i : Nat} {s : Nat → Option (Nat × Nat)} (h : s i = none) : ∀ j, wyJ W i j s = s
  | 0 => rfl
  | j + 1 => by
    show wyE W i j (wyJ W i j s) = s
    rw [wyJ_none h j, wyE_n1 h]
theorem wyJ_self {W : Nat → Nat → Option Nat} {i : Nat} {s : Nat → Option (Nat × Nat)} {x : Nat × Nat} (h : s i = some x) (hW : W i i = none) : ∀ j, wyJ W i j s i = some x
  | 0 => h
  | j + 1 => by
    have ih := wyJ_self h hW j
    show wyE W i j (wyJ W i j s) i = some x
    cases h2 : W i j with
    | none => rw [wyE_n2 h2]; exact ih
    | some w =>
      rw [wyE_eq ih h2]
      split
      · have hne : i ≠ j := fun e => by rw [← e, hW] at h2; simp at h2
        unfold up2
        rw [if_neg hne]; exact ih
      · exact ih
def xW (σ : zI) (n : Nat) (s : Nat → Option (Nat × Nat)) : Prop := ∀ v, v < n → σ 36 v = oc (s v) ∧ σ 37 v = os (-1) (s v)
def mW (σ : zI) (n : Nat) (s : Nat → Option (Nat × Nat)) : Prop := ∀ v, v < n → σ 72 v = oc (s v) ∧ σ 73 v = os 0 (s v)
theorem oc_eq {A B : Prop} {o : Option (Nat × Nat)} (hb : ∀ x, o = some x → x.1 < 2147483648) (f : o = none → A) (g : ∀ x, o = some x → B) : if oc o = -1 then A else B := by
  cases o with
  | none => rw [if_pos (show oc none = -1 from rfl)]; exact f rfl
  | some x => rw [if_neg (show ¬ oc (some x) = -1 from on_ne (hb x rfl))]; exact g x rfl
section
variable {d : Nat} {g : zG} {σ : zI}
theorem cx_walkOn {K : zI → Prop} (hg : zGA g) {W : Nat → Nat → Option Nat} {n t i : Nat} {s : Nat → Option (Nat × Nat)} (hn : n ≤ 6) (hi : i < n) (ht : t ≤ 1000) (hw : ∀ u v w, W u v = some w → w ≤ 40000) (hii : W i i = none)
    (h4 : σ 28 4 = nI n) (hT : ∀ b, b < n → σ (30 + i) b = on (W i b)) (hs : xW σ n s) (hb : bnd t s) (h1 : ∀ σ', zfr [36, 37] σ σ' → xW σ' n (wyJ W i n s) → K σ') : zCV mX6_walkOn (d + 1) [.ref 28, .int (nI i)] g σ K := by
  refine s_X6_walkOn hg ⟨v_in (by omega) (by omega), ?_⟩
  rw [c_nI (by omega), (hs i hi).1]
  refine oc_eq (fun x hx => by have := hb i x hx; omega) (fun q => h1 σ (zfr_rf _ _) (by rw [wyJ_none q]; exact hs)) (fun x q => ?_)
  have xb := hb i x q
  have key : ∀ (r j : Nat) (σ1 : zI), j + r = n → zfr [36, 37] σ σ1 → xW σ1 n (wyJ W i j s) → p_X6_walkOn_13 d g K σ1 (nI i) (nI j) := by
    intro r
    induction r with
    | zero =>
      intro j σ1 hr hf hs1
      have e : j = n := by omega
      subst e
      refine s_X6_walkOn_13 hg ?_
      rw [hf 28 (by decide), h4]
      exact i_le j j rfl rfl (by omega) (by omega) (fun _ => h1 σ1 hf hs1) (fun q => by omega)
    | succ r ih =>
      intro j σ1 hr hf hs1
      have sf := wyJ_self q hii j
      have bj := bnd_J (i := i) hw hb j
      generalize hS : wyJ W i j s = S at *
      have eS : wyJ W i (j + 1) s = wyE W i j S := by rw [← hS]; rfl
      have nx : ∀ σ2, zfr [36, 37] σ σ2 → xW σ2 n (wyE W i j S) → p_X6_walkOn_13 d g K σ2 (nI i) (nI (j + 1)) := fun σ2 f1 f2 => ih (j + 1) σ2 (by omega) f1 (by rw [eS]; exact f2)
      have ci := (hs1 i hi).1
      have ki := (hs1 i hi).2
      have cj := (hs1 j (by omega)).1
      have kj := (hs1 j (by omega)).2
      rw [sf] at ci ki
      have ci : σ1 36 i = nI x.1 := ci
      have ki : σ1 37 i = nI x.2 := ki
      refine s_X6_walkOn_13 hg ?_
      rw [hf 28 (by decide), h4, c_nI (n := i) (by omega), c_nI (n := j) (by omega), hf (30 + i) (by simp; omega), hT j (by omega), nI_1 j]
      refine i_le n j rfl rfl (by omega) (by omega) (fun q => by omega) (fun _ => ⟨v_in (by omega) (by omega), v_in (by omega) (by omega), v_in (by omega) (by omega), v_in (by omega) (by omega), v_in (by omega) (by omega), o_eq rfl (fun v hv => by have := hw _ _ _ hv; omega) (fun z => ?_) (fun w z => ⟨v_in (by omega) (by omega), ?_⟩)⟩)
      · exact nx σ1 hf (by rw [wyE_n2 z]; exact hs1)
      · have wl := hw _ _ _ z
        rw [z, ci, ki, show on (some w) = nI w from rfl, nI_add, nI_1 x.2]
        have no : bt (x.1 + w, x.2 + 1) (S j) = false → p_X6_walkOn_13 d g K σ1 (nI i) (nI (j + 1)) := fun c => nx σ1 hf (by rw [wyE_eq sf z, c]; exact hs1)
        have yes : bt (x.1 + w, x.2 + 1) (S j) = true → p_X6_walkOn_13 d g K (zsI (zsI σ1 36 j (nI (x.1 + w))) 37 j (σ1 37 i + 1)) (nI i) (nI (j + 1)) := fun c => nx _ (zfr_put (zfr_put hf (by decide)) (by decide)) (by
          rw [ki, nI_1 x.2]
          rw [wyE_eq sf z, c, if_pos rfl]
          intro v hv
          unfold up2
          by_cases e : v = j
          · subst e
            rw [if_pos rfl, zsI_at, zsI_no (Or.inl (by decide)), zsI_at]
            exact ⟨rfl, rfl⟩
          · rw [if_neg e, zsI_no (Or.inr e), zsI_no (Or.inr e), zsI_no (Or.inr e), zsI_no (Or.inr e)]
            exact hs1 v hv)
        refine s_X6_isBetter hg ⟨v_in (by omega) (by omega), ?_⟩
        rw [c_nI (n := j) (by omega), cj, kj]
        refine oc_eq (fun y hy => by have := bj j y hy; omega) (fun u => z1 ⟨v_in (by omega) (by omega), v_in (by omega) (by omega), v_in (by omega) (by omega), ?_⟩) (fun y u => ⟨v_in (by omega) (by omega), ?_⟩)
        · exact yes (by rw [u]; rfl)
        · have yb := bj j y u
          rw [u, show oc (some y) = nI y.1 from rfl, show os (-1) (some y) = nI y.2 from rfl]
          have eb : bt (x.1 + w, x.2 + 1) (S j) = (decide (x.1 + w < y.1) || (decide (x.1 + w = y.1) && decide (x.2 + 1 < y.2))) := by rw [u]; rfl
          refine i_lt (x.1 + w) y.1 rfl rfl (by omega) (by omega) (fun k => z1 ⟨v_in (by omega) (by omega), v_in (by omega) (by omega), v_in (by omega) (by omega), ?_⟩) (fun k => ⟨v_in (by omega) (by omega), i_eq (x.1 + w) y.1 rfl rfl (by omega) (by omega) (fun k2 => ⟨v_in (by omega) (by omega), i_le y.2 (x.2 + 1) rfl rfl (by omega) (by omega) (fun k3 => z0 ?_) (fun k3 => z1 ⟨v_in (by omega) (by omega), v_in (by omega) (by omega), v_in (by omega) (by omega), ?_⟩)⟩) (fun k2 => z0 ?_)⟩)
          · exact yes (by rw [eb]; simp [k])
          · exact no (by rw [eb]; simp; omega)
          · exact yes (by rw [eb]; simp [k2, k3])
          · exact no (by rw [eb]; simp; omega)
  exact key n 0 σ (by omega) (zfr_rf _ _) hs
theorem cx_walk {K : zI → Prop} (hg : zGA g) {W : Nat → Nat → Option Nat} {n f : Nat} (hn : n ≤ 6) (hf0 : f < n) (hw : ∀ u v w, W u v = some w → w ≤ 40000) (hii : ∀ i, W i i = none)
    (h4 : σ 28 4 = nI n) (hT : ∀ a b, a < n → b < n → σ (30 + a) b = on (W a b)) (h1 : ∀ σ', zfr [36, 37] σ σ' → xW σ' n (wyR W n (n - 1) (s0 f)) → K σ') : zCV mX6_walk (d + 2) [.ref 28, .int (nI f)] g σ K := by
  have keyR : ∀ (r k : Nat) (σ1 : zI), k + r = n - 1 → zfr [36, 37] σ σ1 → xW σ1 n (wyR W n k (s0 f)) → p_X6_walk_50 (d + 1) g K σ1 (nI (k + 1)) := by
    intro r
    induction r with
    | zero =>
      intro k σ1 hr hf hs
      have e : k = n - 1 := by omega
      subst e
      refine s_X6_walk_50 hg ?_
      rw [hf 28 (by decide), h4]
      exact i_le n (n - 1 + 1) rfl rfl (by omega) (by omega) (fun _ => h1 σ1 hf hs) (fun q => by omega)
    | succ r ih =>
      intro k σ1 hr hf hs
      refine s_X6_walk_50 hg ?_
      rw [hf 28 (by decide), h4]
      refine i_le n (k + 1) rfl rfl (by omega) (by omega) (fun q => by omega) (fun _ => ?_)
      have keyI : ∀ (m i : Nat) (σ2 : zI), i + m = n → zfr [36, 37] σ σ2 → xW σ2 n (wyI W n i (wyR W n k (s0 f))) → p_X6_walk_60 (d + 1) g K σ2 (nI (k + 1)) (nI i) := by
        intro m
        induction m with
        | zero =>
          intro i σ2 hm hf2 hs2
          have e : i = n := by omega
          subst e
          refine s_X6_walk_60 hg ?_
          rw [hf2 28 (by decide), h4, nI_1 (k + 1)]
          exact i_le i i rfl rfl (by omega) (by omega) (fun _ => ih (k + 1) σ2 (by omega) hf2 hs2) (fun q => by omega)
        | succ m ih2 =>
          intro i σ2 hm hf2 hs2
          refine s_X6_walk_60 hg ?_
          rw [hf2 28 (by decide), h4, nI_1 i]
          refine i_le n i rfl rfl (by omega) (by omega) (fun q => by omega) (fun _ => ?_)
          exact cx_walkOn hg hn (by omega) (by omega) hw (hii i) (by rw [hf2 28 (by decide)]; exact h4) (fun b hb => by rw [hf2 (30 + i) (by simp; omega)]; exact hT i b (by omega) hb) hs2 (bnd_I hw hn (bnd_R hw hn k) i) (fun σ3 f3 s3 => ih2 (i + 1) σ3 (by omega) (zfr_tr hf2 f3) s3)
      exact keyI n 0 σ1 (by omega) hf hs
  have key0 : ∀ (r v : Nat) (σ1 : zI), v + r = n → zfr [36, 37] σ σ1 → (∀ u, u < v → σ1 36 u = oc (s0 f u) ∧ σ1 37 u = os (-1) (s0 f u)) → p_X6_walk_2 (d + 1) g K σ1 (nI f) (nI v) := by
    intro r
    induction r with
    | zero =>
      intro v σ1 hr hf hs
      have e : v = n := by omega
      subst e
      refine s_X6_walk_2 hg ?_
      rw [hf 28 (by decide), h4]
      exact i_le v v rfl rfl (by omega) (by omega) (fun _ => keyR (v - 1) 0 σ1 (by omega) hf hs) (fun q => by omega)
    | succ r ih =>
      intro v σ1 hr hf hs
      refine s_X6_walk_2 hg ?_
      rw [hf 28 (by decide), h4, c_nI (n := v) (by omega), nI_1 v]
      have nx : ∀ a b, a = oc (s0 f v) → b = os (-1) (s0 f v) → p_X6_walk_2 (d + 1) g K (zsI (zsI σ1 36 v a) 37 v b) (nI f) (nI (v + 1)) := fun a b ha hb => by
        refine ih (v + 1) _ (by omega) (zfr_put (zfr_put hf (by decide)) (by decide)) (fun u hu => ?_)
        by_cases e : u = v
        · subst e
          rw [zsI_at, zsI_no (Or.inl (by decide)), zsI_at]
          exact ⟨ha, hb⟩
        · rw [zsI_no (Or.inr e), zsI_no (Or.inr e), zsI_no (Or.inr e), zsI_no (Or.inr e)]
          exact hs u (by omega)
      have ey : v = f → s0 f v = some (0, 0) := fun e => if_pos e
      have en : v ≠ f → s0 f v = none := fun e => if_neg e
      refine i_le n v rfl rfl (by omega) (by omega) (fun q => by omega) (fun _ => i_eq v f rfl rfl (by omega) (by omega) (fun q => ⟨v_in (by omega) (by omega), i_eq v f rfl rfl (by omega) (by omega) (fun _ => ⟨v_in (by omega) (by omega), nx _ _ ?_ ?_⟩) (fun q2 => absurd q q2)⟩) (fun q => ⟨v_in (by omega) (by omega), i_eq v f rfl rfl (by omega) (by omega) (fun q2 => absurd q2 q) (fun _ => ⟨v_in (by omega) (by omega), nx _ _ ?_ ?_⟩)⟩))
      · rw [ey q]; rfl
      · rw [ey q]; rfl
      · rw [en q]; rfl
      · rw [en q]; rfl
  exact s_X6_walk hg (key0 n 0 σ (by omega) (zfr_rf _ _) (fun u hu => by omega))
end
