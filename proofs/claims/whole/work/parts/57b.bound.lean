/-! also a FAULT lies within THE TAPE -/
def okA (z : Nat) (f : zTk → zRs) : Prop := ∀ k, okT z k → okT z (f k).2.1
theorem okA_b {z : Nat} {x : zRs} {h : zTk → List Nat → zRs} (hx : okT z x.2.1) (hh : ∀ k o, okT z k → okT z (h k o).2.1) : okT z (bnd2 x h).2.1 := by
  cases e : x.1 with
  | false => rw [bnd2_f e]; exact hx
  | true => rw [bnd2_t e]; exact hh _ _ hx
section
variable {z : Nat} {N : zTk → zTk}
theorem okA_chR {f : zTk → zRs} {op : Nat → Option Nat} (hN : gN z N) (hf : okA z f) : ∀ r k o, okT z k → okT z (chR N f op r k o).2.1
  | 0, k, o, hk => hk
  | r + 1, k, o, hk => by
    cases h : op k.2.2.1 with
    | none => rw [chR_n h]; exact hk
    | some c =>
      rw [chR_y h]
      exact okA_b (hf _ (hN k hk).1) (fun k o hk => okA_chR hN hf r k _ hk)
theorem okA_chn {f : zTk → zRs} {op : Nat → Option Nat} (hN : gN z N) (hf : okA z f) : okA z (chn N z f op) := fun k hk => okA_b (hf k hk) (fun k o hk => okA_chR hN hf z k o hk)
theorem okA_cm {f : zTk → zRs} (hN : gN z N) (hf : okA z f) : okA z (cmR N f) := fun k hk => okA_b (hf k hk) (fun k o hk => by
  cases h : opC k.2.2.1 with
  | none => exact hk
  | some c => exact okA_b (hf _ (hN k hk).1) (fun k o hk => hk))
theorem okA_sg {low : Option ((zTk → zRs) × (zTk → zRs))} (hN : gN z N) (hl : ∀ e s, low = some (e, s) → okA z e ∧ okA z s) : okA z (sgR N low) := by
  intro k hk
  have n1 := (hN k hk).1
  unfold sgR
  split
  · exact n1
  · split
    · exact n1
    · split
      · exact hk
      · next e s =>
        obtain ⟨he, hs⟩ := hl e s rfl
        split
        · refine okA_b (he _ n1) (fun k' o hk' => ?_)
          split
          · exact (hN k' hk').1
          · exact hk'
        · split
          · exact okA_b (hs _ n1) (fun k' o hk' => hk')
          · exact hk
theorem okA_nt {cmp : zTk → zRs} {low : Option (zTk → zRs)} (hN : gN z N) (hc : okA z cmp) (hl : ∀ n, low = some n → okA z n) : okA z (ntR N cmp low) := by
  intro k hk
  have n1 := (hN k hk).1
  unfold ntR
  split
  · split
    · exact hk
    · next n => exact okA_b (hl n rfl _ n1) (fun k' o hk' => hk')
  · exact hc k hk
theorem okA_lv (hN : gN z N) : ∀ r, okA z (lvR N z r).1 ∧ okA z (lvR N z r).2
  | 0 => by
    have h1 : okA z (sgR N none) := okA_sg hN (fun e s h => by cases h)
    exact ⟨h1, okA_nt hN (okA_cm hN (okA_chn hN (okA_chn hN h1))) (fun n h => by cases h)⟩
  | r + 1 => by
    obtain ⟨i1, i2⟩ := okA_lv hN r
    have h1 : okA z (lvR N z (r + 1)).1 := okA_sg hN (fun e s h => by cases h; exact ⟨okA_chn hN (okA_chn hN i2), i1⟩)
    exact ⟨h1, okA_nt hN (okA_cm hN (okA_chn hN (okA_chn hN h1))) (fun n h => by cases h; exact i2)⟩
theorem okA_et (hN : gN z N) : okA z (etR N z (lvR N z 5).2) := okA_chn hN (okA_chn hN (okA_lv hN 5).2)
end
