/-! TEXTS as lists of codes; what they tell; what it COSTS -/
def bin (c : Nat) (a b : Int32) : Int32 := if c = 6 then a + b else if c = 7 then a - b else if c = 8 then a * b else if c = 9 then (if b ≤ a then 0 else 1) else if c = 10 then (if a = b then 1 else 0) else if c = 11 then (if a = 0 then 0 else if b = 0 then 0 else 1) else (if a = 0 then (if b = 0 then 0 else 1) else 1)
def stp (env : Nat → Int32) (c : Nat) (st : List Int32) : List Int32 :=
  if c ≤ 5 then env c :: st else if 15 ≤ c then nI (c - 15) :: st else if c = 13 then (match st with | a :: r => (if a = 0 then 1 else 0) :: r | [] => [])
  else if c = 14 then (match st with | a :: r => (-a) :: r | [] => []) else (match st with | b :: a :: r => bin c a b :: r | r => r)
def ev (env : Nat → Int32) : List Nat → List Int32 → List Int32
  | [], st => st
  | c :: p, st => ev env p (stp env c st)
def evP (env : Nat → Int32) (p : List Nat) : Int32 := (ev env p []).headD 0
/-- a list of codes that begins with k values on the stack ends with one, and has never more than 63 -/
def okp : List Nat → Nat → Prop
  | [], k => k = 1
  | c :: p, k => c < 20000 ∧ ((c ≤ 5 ∨ 15 ≤ c) → k < 63 ∧ okp p (k + 1)) ∧ ((c = 13 ∨ c = 14) → 1 ≤ k ∧ okp p k) ∧ ((6 ≤ c ∧ c ≤ 12) → 2 ≤ k ∧ okp p (k - 1))
def stk (f : Nat → Int32) : List Int32 → Prop
  | [] => True
  | v :: r => f r.length = v ∧ stk f r
theorem stk_up {f : Nat → Int32} {j : Nat} {x : Int32} : ∀ {r : List Int32}, stk f r → r.length ≤ j → stk (upd f j x) r
  | [], _, _ => trivial
  | v :: r, h, hj => ⟨by show (if r.length = j then x else f r.length) = v; rw [if_neg (by simp at hj; omega)]; exact h.1, stk_up h.2 (by simp at hj; omega)⟩
theorem stk_put {f : Nat → Int32} {r : List Int32} {x : Int32} (h : stk f r) : stk (upd f r.length x) (x :: r) := ⟨if_pos rfl, stk_up h (Nat.le_refl _)⟩
def pcn (o : Nat) : Nat → Nat
  | 0 => 0
  | j + 1 => pcn o j + (if o.testBit j then 1 else 0)
theorem pcn_le (o : Nat) : ∀ j, pcn o j ≤ j
  | 0 => Nat.le_refl _
  | j + 1 => by
    have := pcn_le o j
    unfold pcn
    split <;> omega
def envN (n : Nat) (own : Bool) (m o h dy : Nat) : Nat → Int32 := fun j => match j with
  | 0 => nI n
  | 1 => if own then 1 else 0
  | 2 => nI m
  | 3 => nI (pcn o 30)
  | 4 => nI h
  | _ => nI dy
def bd (x : Int32) : Nat := if x < 0 then 0 else if 99 < x then 99 else x.toNatClampNeg
theorem bd_le (x : Int32) : bd x ≤ 99 := by
  unfold bd
  split
  · omega
  · split
    · omega
    · next h1 h2 =>
      have h3 : ¬ (99 : Int32).toInt < x.toInt := fun q => h2 (Int32.lt_iff_toInt_lt.mpr q)
      have h4 : ¬ x.toInt < (0 : Int32).toInt := fun q => h1 (Int32.lt_iff_toInt_lt.mpr q)
      have h5 : (99 : Int32).toInt = 99 := rfl
      have h6 : (0 : Int32).toInt = 0 := rfl
      obtain ⟨k, hk, rfl⟩ := zNat (v := x) (n := 99) (by omega) (by omega) (by omega)
      rw [c_nI (by omega)]
      exact hk
def cN (k m b : Nat) : Nat := if k = 1 then b + 1 else if k = 2 ∨ k = 4 then max 1 (b + m) else if k = 3 then max 1 ((b + 1) / 2) else if k = 5 then max 1 (2 * b) else max 1 b
def cost (P : Nat → Nat → List Nat) (R dy h k m o n : Nat) : Nat := cN k m (bd (evP (envN n (tb o n) m o h dy) (P R 0)))
def meant (P : Nat → Nat → List Nat) (R dy h m o n : Nat) : Bool := decide (¬ evP (envN n false m o h dy) (P R 1) = 0)
def worth (P : Nat → Nat → List Nat) (R dy h m o n : Nat) : Nat := bd (evP (envN n false m o h dy) (P R 2))
theorem cost_in (P : Nat → Nat → List Nat) (R dy h k m o n : Nat) (hm : m ≤ 9) : 1 ≤ cost P R dy h k m o n ∧ cost P R dy h k m o n ≤ 198 := by
  unfold cost
  have := bd_le (evP (envN n (tb o n) m o h dy) (P R 0))
  unfold cN
  split
  · omega
  · split
    · omega
    · split
      · omega
      · split <;> omega
/-- the reference's TEXTS, THE RULE, THE DAY -/
def mTx (σ : zI) (T R dy : Nat) (P : Nat → Nat → List Nat) : Prop := T ≤ 6 ∧ R < T ∧ dy ≤ 99 ∧ σ 57 0 = nI dy ∧ σ 57 5 = nI R ∧ σ 57 8 = nI T ∧ ∀ t, t < T → ∀ q, q < 3 → okp (P t q) 0 ∧ ∃ b : Nat, σ 62 (3 * t + q) = nI b ∧ σ 63 (3 * t + q) = nI (P t q).length ∧ b + (P t q).length ≤ 3000 ∧ ∀ i c, (P t q)[i]? = some c → σ 64 (b + i) = nI c
theorem mTx_fr {σ σ1 : zI} {l : List Nat} {T R dy : Nat} {P : Nat → Nat → List Nat} (h : mTx σ T R dy P) (hf : zfr l σ σ1) (hl : 57 ∉ l ∧ 62 ∉ l ∧ 63 ∉ l ∧ 64 ∉ l) : mTx σ1 T R dy P := by
  obtain ⟨h1, h2, h3, h4, h5, h6, h7⟩ := h
  obtain ⟨l1, l2, l3, l4⟩ := hl
  refine ⟨h1, h2, h3, by rw [hf _ l1]; exact h4, by rw [hf _ l1]; exact h5, by rw [hf _ l1]; exact h6, ?_⟩
  rw [hf _ l2, hf _ l3, hf _ l4]
  exact h7
theorem mHr_fr {σ σ1 : zI} {l : List Nat} {h k m o : Nat} (hh : mHr σ h k m o) (hf : zfr l σ σ1) (hl : 58 ∉ l ∧ 59 ∉ l ∧ 60 ∉ l) : mHr σ1 h k m o := by
  obtain ⟨h1, h2, h3, h4, h5⟩ := hh
  exact ⟨h1, by rw [hf _ hl.1]; exact h2, by rw [hf _ hl.2.1]; exact h3, by rw [hf _ hl.2.2]; exact h4, h5⟩
section
variable {d : Nat} {g : zG} {σ : zI} {K : Int32 → zI → Prop}
theorem cm_bitsOf (hg : zGA g) {o : Nat} (ho : o < 1073741824) (h1 : K (nI (pcn o 30)) σ) : zCI mX8_bitsOf d [.int (nI o)] g σ K := by
  refine s_X8_bitsOf hg ?_
  have key : ∀ (r x : Nat), x ≤ 30 → 30 ≤ x + r → p_X8_bitsOf_4 d g K σ (nI o) (nI (pcn o x)) (nI x) := by
    intro r
    induction r with
    | zero =>
      intro x hx hr
      have e : x = 30 := by omega
      subst e
      exact s_X8_bitsOf_4 hg (i_le 30 30 rfl rfl (by omega) (by omega) (fun _ => h1) (fun q => by omega))
    | succ r ih =>
      intro x hx hr
      refine s_X8_bitsOf_4 hg (i_le 30 x rfl rfl (by omega) (by omega) (fun q => ?_) (fun q => ?_))
      · have e : x = 30 := by omega
        subst e
        exact h1
      · have hi := ih (x + 1) (by omega) (by omega)
        rw [b_has (by omega) (by omega), nI_add, nI_1]
        exact hi
  exact key 30 0 (by omega) (by omega)
theorem cm_bound (hg : zGA g) {x : Int32} (h1 : K (nI (bd x)) σ) : zCI mX8_bound d [.int x] g σ K := by
  refine s_X8_bound hg (t_le (fun q => t_le (fun q2 => ?_) (fun q2 => ?_)) (fun q => ?_))
  · have q : (0 : Int) ≤ x.toInt := q
    have q2 : x.toInt ≤ (99 : Int) := q2
    obtain ⟨k, hk, rfl⟩ := zNat (v := x) (n := 99) (by omega) (by omega) (by omega)
    have e : bd (nI k) = k := by
      unfold bd
      rw [if_neg (nI_pos (by omega)), if_neg (show ¬ (99 : Int32) < nI k from nI_nlt (a := 99) hk (by omega)), c_nI (by omega)]
    rw [e] at h1
    exact h1
  · have e : bd x = 99 := by
      have q : (0 : Int) ≤ x.toInt := q
      have q2 : (99 : Int) < x.toInt := q2
      unfold bd
      rw [if_neg (fun z => by have : x.toInt < (0 : Int) := Int32.lt_iff_toInt_lt.mp z; omega), if_pos (show (99 : Int32) < x from Int32.lt_iff_toInt_lt.mpr q2)]
    rw [e] at h1
    exact h1
  · have e : bd x = 0 := by
      unfold bd
      rw [if_pos (Int32.lt_iff_toInt_lt.mpr q)]
    rw [e] at h1
    exact h1
theorem cm_both (hg : zGA g) {c : Nat} (hc : c < 20000) {a b : Int32} (h1 : K (bin c a b) σ) : zCI mX8_both d [.int (nI c), .int a, .int b] g σ K := by
  refine s_X8_both hg ?_
  unfold bin at h1
  refine i_eq c 6 rfl rfl (by omega) (by omega) (fun q => by rw [if_pos q] at h1; exact h1) (fun q => ?_)
  rw [if_neg q] at h1
  refine i_eq c 7 rfl rfl (by omega) (by omega) (fun q => by rw [if_pos q] at h1; exact h1) (fun q => ?_)
  rw [if_neg q] at h1
  refine i_eq c 8 rfl rfl (by omega) (by omega) (fun q => by rw [if_pos q] at h1; exact h1) (fun q => ?_)
  rw [if_neg q] at h1
  refine i_eq c 9 rfl rfl (by omega) (by omega) (fun q => by rw [if_pos q] at h1; split <;> simp_all) (fun q => ?_)
  rw [if_neg q] at h1
  refine i_eq c 10 rfl rfl (by omega) (by omega) (fun q => by rw [if_pos q] at h1; split <;> simp_all) (fun q => ?_)
  rw [if_neg q] at h1
  refine i_eq c 11 rfl rfl (by omega) (by omega) (fun q => by rw [if_pos q] at h1; split <;> (try split) <;> simp_all) (fun q => ?_)
  rw [if_neg q] at h1
  split <;> (try split) <;> simp_all
theorem cm_tells (hg : zGA g) {T R dy : Nat} {P : Nat → Nat → List Nat} {h k m o n q : Nat} (ht : mTx σ T R dy P) (hh : mHr σ h k m o) (hq : q < 3) (hn : n ≤ 99) (hn0 : q = 0 → 1 ≤ n ∧ n ≤ 30)
    (h1 : ∀ σ', zfr [66] σ σ' → K (evP (envN n (decide (q = 0) && tb o n) m o h dy) (P R q)) σ') : zCI mX8_tells (d + 2) [.ref 57, .int (nI q), .int (nI h), .int (nI n)] g σ K := by
  obtain ⟨t1, t2, t3, t4, t5, t6, t7⟩ := ht
  obtain ⟨e1, e2, e3, e4, e5, e6, e7⟩ := hh
  obtain ⟨hok, b, b1, b2, b3, b4⟩ := t7 R t2 q hq
  have eix : (3 : Int32) * nI R + nI q = nI (3 * R + q) := by rw [show (3 : Int32) * nI R = nI (3 * R) from pk_mul 3 R, nI_add]
  generalize hp : P R q = p at *
  have key : ∀ (own : Bool) (r : List Nat) (st : List Int32) (x : Nat) (σ1 : zI), zfr [66] σ σ1 → x + r.length = b + p.length → (∀ i c, r[i]? = some c → σ 64 (x + i) = nI c) → okp r st.length → stk (σ1 66) st → st.length ≤ 63 →
      (∀ σ', zfr [66] σ σ' → K ((ev (envN n own m o h dy) r st).headD 0) σ') → p_X8_tells_48 (d + 1) g K σ1 (nI q) (nI h) (nI n) (nI st.length) (nI b) (if own then 1 else 0) (nI x) := by
    intro own r
    induction r with
    | nil =>
      intro st x σ1 hf hx hc ho hs hl hk
      have f57 := hf 57 (by decide)
      have f63 := hf 63 (by decide)
      refine s_X8_tells_48 hg ?_
      rw [f57, f63, t5, eix, c_nI (by omega), b2, nI_add]
      refine ⟨v_in (by omega) (by omega), i_le (b + p.length) x rfl rfl (by omega) (by simp at hx; omega) (fun _ => ?_) (fun z => by simp at hx; omega)⟩
      have hlen : st.length = 1 := ho
      match st, hlen, hs, hk with
      | [v], _, hs, hk =>
        rw [show σ1 66 0 = v from hs.1]
        exact hk σ1 hf
    | cons c r ih =>
      intro st x σ1 hf hx hc ho hs hl hk
      have f57 := hf 57 (by decide)
      have f63 := hf 63 (by decide)
      have f64 := hf 64 (by decide)
      have f59 := hf 59 (by decide)
      have f60 := hf 60 (by decide)
      have hlr : (c :: r).length = r.length + 1 := rfl
      have hc0 : σ 64 x = nI c := by simpa using hc 0 c rfl
      obtain ⟨hc20, ho1, ho2, ho3⟩ := ho
      have nxt : ∀ (st2 : List Int32) (σ2 : zI), zfr [66] σ σ2 → okp r st2.length → stk (σ2 66) st2 → st2.length ≤ 63 → st2 = stp (envN n own m o h dy) c st → p_X8_tells_48 (d + 1) g K σ2 (nI q) (nI h) (nI n) (nI st2.length) (nI b) (if own then 1 else 0) (nI x + 1) := by
        intro st2 σ2 g1 g2 g3 g4 g5
        rw [nI_1]
        refine ih st2 (x + 1) σ2 g1 (by omega) (fun i c2 hi => ?_) g2 g3 g4 (fun σ' hσ => ?_)
        · have := hc (i + 1) c2 (by simpa using hi)
          rw [show x + 1 + i = x + (i + 1) by omega]
          exact this
        · have := hk σ' hσ
          rw [g5]
          exact this
      have push : ∀ (v : Int32), v :: st = stp (envN n own m o h dy) c st → (c ≤ 5 ∨ 15 ≤ c) → vp_in (nI st.length) 200 ∧ p_X8_tells_48 (d + 1) g K (zsI σ1 66 (nI st.length).toNatClampNeg v) (nI q) (nI h) (nI n) (nI st.length + 1) (nI b) (if own then 1 else 0) (nI x + 1) := by
        intro v hv hcc
        obtain ⟨k1, k2⟩ := ho1 hcc
        refine ⟨v_in (by omega) (by omega), ?_⟩
        rw [c_nI (by omega), nI_1 st.length]
        exact nxt (v :: st) _ (zfr_put hf (by decide)) k2 (by rw [zsI_row]; exact stk_put hs) (by simp; omega) hv
      have p91 : (c ≤ 5 ∨ 15 ≤ c) → p_X8_tells_91 (d + 1) g K σ1 (nI q) (nI h) (nI n) (nI st.length) (nI b) (if own then 1 else 0) (nI x) (nI c) := by
        intro hcc
        refine s_X8_tells_91 hg (i_lt c 15 rfl rfl (by omega) (by omega) (fun z => ?_) (fun z => ?_))
        · refine i_eq c 0 rfl rfl (by omega) (by omega) (fun w => push _ (by subst w; rfl) hcc) (fun w0 => ?_)
          refine i_eq c 1 rfl rfl (by omega) (by omega) (fun w => ?_) (fun w1 => ?_)
          · cases own with
            | false => exact z0 (push 0 (by subst w; rfl) hcc)
            | true => exact z1 (push 1 (by subst w; rfl) hcc)
          refine i_eq c 2 rfl rfl (by omega) (by omega) (fun w => ⟨v_in e1 (by omega), ?_⟩) (fun w2 => ?_)
          · rw [f59, c_nI (n := h) (by omega), e3]
            exact push _ (by subst w; rfl) hcc
          refine i_eq c 3 rfl rfl (by omega) (by omega) (fun w => ⟨v_in e1 (by omega), ?_⟩) (fun w3 => ?_)
          · rw [f60, c_nI (n := h) (by omega), e4]
            exact cm_bitsOf hg e7 (push _ (by subst w; rfl) hcc)
          refine i_eq c 4 rfl rfl (by omega) (by omega) (fun w => push _ (by subst w; rfl) hcc) (fun w4 => ?_)
          rw [f57, t4]
          exact push _ (by have : c = 5 := by omega
                           subst this; rfl) hcc
        · rw [show nI c - 15 = nI (c - 15) from pk_sub (b := 15) z]
          exact push _ (by simp [stp, show ¬ c ≤ 5 by omega, z]) hcc
      refine s_X8_tells_48 hg ?_
      rw [f57, f63, f64, t5, eix, c_nI (n := 3 * R + q) (by omega), b2, nI_add, c_nI (n := x) (by omega), hc0]
      refine ⟨v_in (by omega) (by omega), i_le (b + p.length) x rfl rfl (by omega) (by omega) (fun z => by omega) (fun _ => ⟨v_in (by omega) (by omega), ?_⟩)⟩
      refine i_le 15 c rfl rfl (by omega) (by omega) (fun z => p91 (Or.inr z)) (fun z => i_lt 5 c rfl rfl (by omega) (by omega) (fun z2 => ?_) (fun z2 => p91 (Or.inl z2)))
      have p208 : (c = 13 ∨ c = 14) → p_X8_tells_208 (d + 1) g K σ1 (nI q) (nI h) (nI n) (nI st.length) (nI b) (if own then 1 else 0) (nI x) (nI c) := by
        intro hcc
        obtain ⟨k1, k2⟩ := ho2 hcc
        match st, k1, k2, hs, hl, nxt with
        | a :: s, k1, k2, hs, hl, nxt =>
          have ej : nI (a :: s).length - 1 = nI s.length := by
            rw [show (1 : Int32) = nI 1 from rfl, pk_sub (by simp)]
            simp
          have hsl : s.length < 63 := by simp at hl; omega
          refine s_X8_tells_208 hg ?_
          rw [ej, c_nI (n := s.length) (by omega), show σ1 66 s.length = a from hs.1]
          have vv : vp_in (nI s.length) 200 := v_in (by omega) (by omega)
          have put : ∀ v : Int32, stk (zsI σ1 66 s.length v 66) (v :: s) := fun v => by rw [zsI_row]; exact stk_put hs.2
          refine i_eq c 14 rfl rfl (by omega) (by omega) (fun w => ⟨vv, vv, nxt ((-a) :: s) _ (zfr_put hf (by decide)) k2 (put _) hl (by subst w; rfl)⟩) (fun w => ⟨vv, ?_⟩)
          have w13 : c = 13 := by omega
          refine t_eq (fun u => ⟨vv, nxt (1 :: s) _ (zfr_put hf (by decide)) k2 (put _) hl (by subst w13; simp [stp, u])⟩) (fun u => ⟨vv, nxt (0 :: s) _ (zfr_put hf (by decide)) k2 (put _) hl (by subst w13; simp [stp, u])⟩)
      refine i_eq c 13 rfl rfl (by omega) (by omega) (fun w => p208 (Or.inl w)) (fun w => i_eq c 14 rfl rfl (by omega) (by omega) (fun w2 => p208 (Or.inr w2)) (fun w2 => ?_))
      obtain ⟨k1, k2⟩ := ho3 ⟨by omega, by omega⟩
      match st, k1, k2, hs, hl, nxt with
      | v2 :: v1 :: s, k1, k2, hs, hl, nxt =>
        have hsl : s.length < 62 := by simp at hl; omega
        have ej1 : nI (v2 :: v1 :: s).length + (-1) = nI (s.length + 1) := by
          rw [show (v2 :: v1 :: s).length = s.length + 1 + 1 from rfl]
          exact pk_m1 (s.length + 1)
        have ej2 : nI (s.length + 1) - 1 = nI s.length := nI_pred s.length
        rw [ej1, ej2, c_nI (n := s.length) (by omega), c_nI (n := s.length + 1) (by omega), show σ1 66 (s.length + 1) = v2 from hs.1, show σ1 66 s.length = v1 from hs.2.1]
        refine ⟨v_in (by omega) (by omega), v_in (by omega) (by omega), cm_both hg hc20 ⟨v_in (by omega) (by omega), ?_⟩⟩
        refine nxt (bin c v1 v2 :: s) _ (zfr_put hf (by decide)) k2 (by rw [zsI_row]; exact stk_put hs.2.2) (by simp; omega) ?_
        simp [stp, show ¬ c ≤ 5 by omega, show ¬ 15 ≤ c by omega, w, w2]
  refine s_X8_tells hg ?_
  rw [t5, eix, c_nI (n := 3 * R + q) (by omega), b1, c_nI (n := h) (by omega)]
  refine ⟨v_in (by omega) (by omega), i_eq q 0 rfl rfl (by omega) (by omega) (fun z => ⟨v_in e1 (by omega), ?_⟩) (fun z => ?_)⟩
  · obtain ⟨n1, n2⟩ := hn0 z
    rw [e4, show nI n - 1 = nI (n - 1) from pk_sub (b := 1) n1]
    have et : tb o n = o.testBit (n - 1) := tb_eq (by omega) (by omega)
    refine cm_has hg (by omega) (by omega) (fun w => z0 ?_) (fun w => z1 ?_)
    · exact key false p [] b σ (zfr_rf _ _) rfl b4 hok trivial (by simp) (fun σ' hσ => by
        have := h1 σ' hσ
        rw [z, et, w] at this
        exact this)
    · exact key true p [] b σ (zfr_rf _ _) rfl b4 hok trivial (by simp) (fun σ' hσ => by
        have := h1 σ' hσ
        rw [z, et, w] at this
        exact this)
  · exact key false p [] b σ (zfr_rf _ _) rfl b4 hok trivial (by simp) (fun σ' hσ => by
      have := h1 σ' hσ
      rw [show (decide (q = 0)) = false by simp [z]] at this
      exact this)
end
