/-! the least of COSTS for each SUM: the class -/
section
variable {d : Nat} {g : zG} {σ : zI}
theorem cx_leastAt {K : Int32 → zI → Prop} (hg : zGA g) {p : Nat → Option Nat} (hp : wgt p) {s : Nat} (h1s : 1 ≤ s) (hs : s ≤ 99) (h23 : ∀ n, 1 ≤ n → n ≤ 30 → (p n).isSome = true → σ 23 (cnt p (n - 1)) = nI n) (h24 : ∀ n w, 1 ≤ n → n ≤ 30 → p n = some w → σ 24 (cnt p (n - 1)) = nI w)
    (h25 : ∀ t, t < s → σ 25 t = on (ls p t)) (h1 : K (on (ls p s)) σ) : zCI mX3_leastAt d [.ref 22, .int (nI s), .int (nI (cnt p 30))] g σ K := by
  rw [ls_1 p h1s] at h1
  have bl : ∀ j v, bst p (ls p) s j = some v → v ≤ 396 * s := bst_le hp (fun r v hr h2 => ls_le' hp h2)
  have cl := cnt_le p
  have key : ∀ (r n : Nat), n + r = 30 → p_X3_leastAt_5 d g K σ (nI s) (nI (cnt p 30)) (on (bst p (ls p) s n)) (nI (cnt p n)) := by
    intro r
    induction r with
    | zero =>
      intro n hn
      have e : n = 30 := by omega
      subst e
      have := cl 30
      exact s_X3_leastAt_5 hg (i_le (cnt p 30) (cnt p 30) rfl rfl (by omega) (by omega) (fun _ => h1) (fun q => by omega))
    | succ r ih =>
      intro n hn
      have nx := ih (n + 1) (by omega)
      have c1 := cl n
      have c30 := cl 30
      cases hw : p (n + 1) with
      | none =>
        have ec : cnt p (n + 1) = cnt p n := cnt_n (by rw [hw]; rfl)
        have eb : bst p (ls p) s (n + 1) = bst p (ls p) s n := by
          show (if n + 1 ≤ s then jn (bst p (ls p) s n) (p (n + 1)) (ls p (s - (n + 1))) else bst p (ls p) s n) = _
          rw [hw, jn_none]; split <;> rfl
        rw [ec, eb] at nx
        exact nx
      | some w =>
        have his : (p (n + 1)).isSome = true := by rw [hw]; rfl
        have ec : cnt p (n + 1) = cnt p n + 1 := by
          show cnt p n + (if (p (n + 1)).isSome then 1 else 0) = _
          rw [his, if_pos rfl]
        have hlt := cnt_lt (k := 30) (show n < 30 by omega) his
        have f23 := h23 (n + 1) (by omega) (by omega) his
        have f24 := h24 (n + 1) w (by omega) (by omega) hw
        rw [show n + 1 - 1 = n by omega] at f23 f24
        have wl := hp _ _ hw
        refine s_X3_leastAt_5 hg (i_le (cnt p 30) (cnt p n) rfl rfl (by omega) (by omega) (fun q => by omega) (fun _ => ⟨v_in (by omega) (by omega), ?_⟩))
        rw [c_nI (by omega), f23, f24]
        refine i_lt s (n + 1) rfl rfl (by omega) (by omega) (fun q => ?_) (fun q => ⟨v_in (by omega) (by omega), ?_⟩)
        · have e := bst_stop (p := p) (L := ls p) (s := s) (j := n) (by omega) (30 - n)
          rw [show n + (30 - n) = 30 by omega] at e
          rw [e] at h1
          exact h1
        · rw [pk_sub q, c_nI (by omega), h25 _ (by omega)]
          have eb : bst p (ls p) s (n + 1) = jn (bst p (ls p) s n) (some w) (ls p (s - (n + 1))) := by
            show (if n + 1 ≤ s then jn (bst p (ls p) s n) (p (n + 1)) (ls p (s - (n + 1))) else bst p (ls p) s n) = _
            rw [hw, if_pos q]
          rw [eb, ec, ← nI_1] at nx
          refine ⟨v_in (by omega) (by omega), o_eq rfl (fun v hv => by have := ls_le' hp hv; omega) (fun hr => ?_) (fun v hr => ?_)⟩
          · rw [hr, jn_none2] at nx
            exact nx
          · have vl := ls_le' hp hr
            rw [hr] at nx ⊢
            rw [show on (some v) = nI v from rfl, nI_add]
            refine o_eq rfl (fun v hv => by have := bl _ v hv; omega) (fun hb => ⟨v_in (by omega) (by omega), ?_⟩) (fun b hb => ⟨v_in (by omega) (by omega), ?_⟩)
            · rw [hb] at nx
              exact nx
            · have b1 := bl _ b hb
              rw [hb] at nx ⊢
              have nx2 : p_X3_leastAt_5 d g K σ (nI s) (nI (cnt p 30)) (on (if b ≤ v + w then some b else some (v + w))) (nI (cnt p n) + 1) := nx
              rw [show on (some b) = nI b from rfl]
              refine i_le b (v + w) rfl rfl (by omega) (by omega) (fun z => ?_) (fun z => ⟨v_in (by omega) (by omega), ?_⟩)
              · rw [if_pos z] at nx2; exact nx2
              · rw [if_neg (by omega)] at nx2; exact nx2
  exact s_X3_leastAt hg (key 30 0 (by omega))
theorem cx_fillParts {K : Int32 → zI → Prop} (hg : zGA g) {p : Nat → Option Nat} {b : Nat} (hb : ∀ n, 1 ≤ n → n ≤ 30 → b.testBit (n - 1) = (p n).isSome)
    (h1 : ∀ σ', zfr [23] σ σ' → (∀ n, 1 ≤ n → n ≤ 30 → (p n).isSome = true → σ' 23 (cnt p (n - 1)) = nI n) → K (nI (cnt p 30)) σ') : zCI mX3_fillParts (d + 2) [.ref 22, .int (nI b)] g σ K := by
  have cl := cnt_le p
  have key : ∀ (r n : Nat) (σ1 : zI), n + r = 30 → zfr [23] σ σ1 → (∀ i, 1 ≤ i → i ≤ n → (p i).isSome = true → σ1 23 (cnt p (i - 1)) = nI i) → p_X3_fillParts_4 (d + 1) g K σ1 (nI b) (nI (cnt p n)) (nI (n + 1)) := by
    intro r
    induction r with
    | zero =>
      intro n σ1 hn hf hi
      have e : n = 30 := by omega
      subst e
      exact s_X3_fillParts_4 hg (i_lt 30 31 rfl rfl (by omega) (by omega) (fun _ => h1 σ1 hf hi) (fun q => by omega))
    | succ r ih =>
      intro n σ1 hn hf hi
      have cn := cl n
      refine s_X3_fillParts_4 hg (i_lt 30 (n + 1) rfl rfl (by omega) (by omega) (fun q => by omega) (fun _ => ?_))
      have e := hb (n + 1) (by omega) (by omega)
      rw [show n + 1 - 1 = n by omega] at e
      refine cx_has hg (by omega) (by omega) (fun w => z0 ?_) (fun w => z1 ⟨v_in (by omega) (by omega), ?_⟩)
      · rw [show n + 1 - 1 = n by omega, e] at w
        have ec : cnt p (n + 1) = cnt p n := cnt_n w
        have := ih (n + 1) σ1 (by omega) hf (fun i h1 h2 h3 => by
          by_cases z : i = n + 1
          · subst z; rw [w] at h3; simp at h3
          · exact hi i h1 (by omega) h3)
        rw [ec] at this
        rw [nI_1]
        exact this
      · rw [show n + 1 - 1 = n by omega, e] at w
        have ec : cnt p (n + 1) = cnt p n + 1 := by
          show cnt p n + (if (p (n + 1)).isSome then 1 else 0) = _
          rw [w, if_pos rfl]
        rw [c_nI (by omega)]
        have := ih (n + 1) (zsI σ1 23 (cnt p n) (nI (n + 1))) (by omega) (zfr_put hf (by decide)) (fun i h1 h2 h3 => by
          rw [zsI_row]
          by_cases z : i = n + 1
          · subst z; rw [show n + 1 - 1 = n by omega]; simp [upd]
          · have hlt := cnt_lt (p := p) (j := i - 1) (k := n) (by omega) (by rw [show i - 1 + 1 = i by omega]; exact h3)
            simp only [upd]
            rw [if_neg (by omega)]
            exact hi i h1 (by omega) h3)
        rw [ec] at this
        rw [nI_1 (cnt p n), nI_1 (n + 1)]
        exact this
  exact s_X3_fillParts hg (key 30 0 σ (by omega) (zfr_rf _ _) (fun i h1 h2 => by omega))
end
