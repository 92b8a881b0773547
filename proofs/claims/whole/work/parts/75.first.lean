/-! the first TEXT, read by Law's constructor; the Model's first codes -/
def zF0 : zI := fun _ _ => 0
def WB (j : Nat) : Nat := (WX.getD 0 []).getD j 0
def F28 (i : Nat) : zI := fun a k => if a = 4 then (if k = 1 then nI i else 0) else if a = 5 then (if k < i then nI (WB k) else 0) else 0
def LF (F : zI) : Prop := F 4 1 = 0 ∧ F 3 5 = nI 1 ∧ F 3 6 = 0 ∧ F 3 7 = 0 ∧ (∀ a, a < 3 → F a = fun _ => 0) ∧ (∀ a, 22 ≤ a → F a = fun _ => 0) ∧ ∀ q, q < 3 → xR1 F 0 q (sel3 [16] [16] [0] q)
theorem txX0 : txX WB 28 = Sum.inr ([16], [16], [0]) := by decide +kernel
theorem WB255 : ∀ j, j < 28 → WB j ≤ 255 := by decide +kernel
theorem xR1_same {σ σ1 : zI} {t q : Nat} {o : List Nat} (h : xR1 σ t q o) (h1 : σ1 (7 + t) = σ (7 + t)) (h2 : σ1 (14 + t) = σ (14 + t)) : xR1 σ1 t q o := by
  unfold xR1
  rw [h1, h2]
  exact h
theorem F28_0 : F28 0 = zF0 := by
  funext a k
  unfold F28 zF0
  by_cases e : a = 4
  · rw [if_pos e]
    by_cases c : k = 1
    · rw [if_pos c]; rfl
    · rw [if_neg c]
  · rw [if_neg e]
    by_cases c : a = 5
    · rw [if_pos c, if_neg (Nat.not_lt_zero _)]
    · rw [if_neg c]
theorem F28_s (i : Nat) : zsI (zsI (F28 i) 5 i (nI (WB i))) 4 1 (nI (i + 1)) = F28 (i + 1) := by
  funext a k
  unfold zsI F28
  by_cases e : a = 4
  · subst e
    by_cases c : k = 1
    · simp [c]
    · simp [c]
  · by_cases c : a = 5
    · subst c
      by_cases u : k = i
      · subst u
        simp
      · by_cases w : k < i
        · simp [u, w, Nat.lt_succ_of_lt w]
        · have : ¬ k < i + 1 := by omega
          simp [u, w, this]
    · simp [e, c]
section
variable {n0 d : Nat} {P : List (Nat × Nat)} {F : zI} {Q : Option Value → zG → zI → Prop} {L : List Value}
theorem y_iastk {Y : zM} {kc ks pc n : Nat} {S : List Value} {id m k : Nat} {i x : Int32} (hd : decode Y.2.1 pc = .ok (.iastore, 1)) (hi : id < n) (hs : zSH id = (1, 0, m)) (hv : vp_in i m) (hk : i.toNatClampNeg = k) (kk : zY n0 Y d kc ks (pc + 1) L S n P (zsI F id k x) Q) : zY n0 Y d kc ks pc L (.int x :: .int i :: .ref id :: S) n P F Q := by
  subst hk
  exact y_iast hd hi hs hv kk
theorem y_codes {c : Nat} {x : Int32} (hc : c < 3000) (hv : F 57 12 = nI c) (kk : zY n0 mX8_init (d + 1) 0 0 231 L [] 79 [] (zsI (zsI F 57 12 (nI (c + 1))) 64 c x) Q) : zY n0 mX8_init (d + 1) 0 0 228 L [.int x, .ref 57] 79 [] F Q := by
  intro g σ hg hz
  have hA : zGA g := hg.ge (Nat.le_refl _) (by intro q h; cases h)
  have e : σ 57 12 = nI c := by rw [hz.1 57 (by omega)]; exact hv
  refine x_callV (Y2 := mX8_codes) (as := [.int x]) (S := []) (kc2 := 0) (ks2 := 0) mv_mX8_codes (Or.inl ⟨8, _, rfl, rfl, gA_57 hA⟩) dX8_init_228 lk_X8_74 mo_mX8_codes rfl rfl (Nat.le_of_ble_eq_true rfl) (Or.inl rfl) rfl rfl (s_X8_codes (K := fun σ1 => σ1 = zsI (zsI σ 57 12 (nI (c + 1))) 64 c x) hA ⟨?_, ?_⟩) ?_
  · rw [e]
    exact v_in hc (by omega)
  · rw [e, nI_clamp (by omega), show nI c + 1 = nI (c + 1) from nI_add c 1]
  · rintro _ _ σ1 ⟨rfl, rfl, rfl⟩
    exact kk g _ hg (zZp_I (zZp_I hz (by omega)) (by omega))
theorem y_read {i : Int32} (hP : ∀ q, q ∈ P → q.1 < 3) : zY n0 mX2_init 59 0 0 86 [.ref 3, .int i] [] 22 P (F28 28) (qP n0 22 P LF) := by
  refine y_of (fun _ _ h => x_aload_n dX2_init_86 rfl h) ?_
  intro g σ hg hz
  have hL : zGL g := hg.ge (Nat.le_refl _) (fun q h => Or.inl (hP q h))
  have e : ∀ a, a < 22 → ∀ k, σ a k = F28 28 a k := fun a ha k => by rw [hz.1 a ha]
  have hB : xP σ 28 WB := ⟨by omega, (e 4 (by omega) 1).trans rfl, fun j hj => ⟨(e 5 (by omega) j).trans (by show (if j < 28 then nI (WB j) else 0) = _; rw [if_pos hj]), WB255 j hj⟩⟩
  refine x_callV (Y2 := mX2_readText) (as := []) (S := []) (kc2 := 0) (ks2 := 0) mv_mX2_readText (Or.inl ⟨2, _, rfl, rfl, gL_3 hL⟩) dX2_init_87 lk_X2_49 mo_mX2_readText rfl rfl (Nat.le_of_ble_eq_true rfl) (Or.inl rfl) rfl rfl (cx_readText (d := 0) (K := fun _ σ1 => zfr [3, 4, 7, 14] σ σ1 ∧ (∀ j, j ≠ 5 → σ1 3 j = σ 3 j) ∧ σ1 3 5 = nI 1 ∧ σ1 4 1 = 0 ∧ ∀ q, q < 3 → xR1 σ1 0 q (sel3 [16] [16] [0] q)) hL (T := 0) (by omega) ((e 3 (by omega) 5).trans rfl) hB (fun a b c he σ1 h1 h2 h3 h4 h5 => ?_) (fun p he => ?_)) ?_
  · rw [txX0] at he
    injection he with he
    injection he with e1 he
    injection he with e2 e3
    subst e1 e2 e3
    exact ⟨h1, h2, h3, h4, h5⟩
  · rw [txX0] at he
    cases he
  · rintro _ _ σ1 ⟨v, rfl, rfl, h1, h2, h3, h4, h5⟩
    refine x_pop dX2_init_90 rfl (x_vret (S := []) dX2_init_91 rfl ⟨rfl, hg, fun a => if a < 22 then σ1 a else fun _ => 0, ⟨h4, h3, ?_, ?_, fun a ha => ?_, fun a ha => if_neg (by omega), fun q hq => xR1_same (h5 q hq) rfl rfl⟩, fun a ha => (if_pos ha).symm, fun a ha => if_neg (by omega)⟩)
    · exact (h2 6 (by omega)).trans ((e 3 (by omega) 6).trans rfl)
    · exact (h2 7 (by omega)).trans ((e 3 (by omega) 7).trans rfl)
    · show (if a < 22 then σ1 a else fun _ => 0) = _
      rw [if_pos (by omega), h1 a (by simp; omega), hz.1 a (by omega)]
      funext k
      unfold F28
      rw [if_neg (by omega), if_neg (by omega)]
theorem y_lawloop (hP : ∀ q, q ∈ P → q.1 < 3) : ∀ r i, i + r = 28 → zY n0 mX2_init 59 0 0 57 [.ref 3, .int (nI i)] [] 22 P (F28 i) (qP n0 22 P LF) := by
  intro r
  induction r with
  | zero =>
    intro i hi
    have hi : i = 28 := by omega
    subst hi
    refine y_of (fun _ _ h => x_iload_n dX2_init_57 rfl h) ?_
    refine y_of (fun _ _ h => x_ldcs (j := 0) dX2_init_58 (List.mem_of_getElem? (i := 0) rfl) h) ?_
    intro g σ hg hz
    have hL : zGL g := hg.ge (Nat.le_refl _) (fun q h => Or.inl (hP q h))
    refine x_callV (Y2 := mJ0_length_8abf5) (as := []) (S := [.int (nI 28)]) (kc2 := 0) (ks2 := 0) mv_mJ0_length_8abf5 (Or.inr ⟨rfl, 0, by decide, rfl⟩) dX2_init_60 lk_X2_35 mo_mJ0_length_8abf5 rfl rfl (Nat.le_of_ble_eq_true rfl) (Or.inl rfl) rfl rfl (cx_len (d := 57) (K := fun v σ1 => v = nI 28 ∧ σ1 = σ) hL (l := 0) (by decide) ⟨rfl, rfl⟩) ?_
    rintro _ _ σ1 ⟨v, rfl, rfl, rfl, rfl⟩
    exact x_icmp_ge (tgt := 86) dX2_init_63 rfl (fun _ => y_read hP g _ hg hz) (fun q => absurd (show nI 28 ≤ nI 28 by decide) q)
  | succ r ih =>
    intro i hi
    refine y_of (fun _ _ h => x_iload_n dX2_init_57 rfl h) ?_
    refine y_of (fun _ _ h => x_ldcs (j := 0) dX2_init_58 (List.mem_of_getElem? (i := 0) rfl) h) ?_
    intro g σ hg hz
    have hL : zGL g := hg.ge (Nat.le_refl _) (fun q h => Or.inl (hP q h))
    have e4 : σ 4 1 = nI i := by rw [hz.1 4 (by omega)]; rfl
    refine x_callV (Y2 := mJ0_length_8abf5) (as := []) (S := [.int (nI i)]) (kc2 := 0) (ks2 := 0) mv_mJ0_length_8abf5 (Or.inr ⟨rfl, 0, by decide, rfl⟩) dX2_init_60 lk_X2_35 mo_mJ0_length_8abf5 rfl rfl (Nat.le_of_ble_eq_true rfl) (Or.inl rfl) rfl rfl (cx_len (d := 57) (K := fun v σ1 => v = nI 28 ∧ σ1 = σ) hL (l := 0) (by decide) ⟨rfl, rfl⟩) ?_
    rintro _ _ σ1 ⟨v, rfl, rfl, rfl, rfl⟩
    refine x_icmp_ge (tgt := 86) dX2_init_63 rfl (fun q => ?_) (fun _ => ?_)
    · have q := Int32.le_iff_toInt_le.mp q
      rw [nI_toInt' (by omega), nI_toInt' (by omega)] at q
      omega
    refine x_aload_n dX2_init_66 rfl (x_getR dX2_init_67 fl_X2_12 (gL_3 hL) rfl (gL_3_0 hL) (x_ldcs (j := 0) dX2_init_70 (List.mem_of_getElem? (i := 0) rfl) (x_iload_n dX2_init_72 rfl ?_)))
    refine x_callV (Y2 := mJ0_charAt_5068e) (as := [.int (nI i)]) (S := [.ref 4]) (kc2 := 0) (ks2 := 0) mv_mJ0_charAt_5068e (Or.inr ⟨rfl, 0, by decide, rfl⟩) dX2_init_73 lk_X2_41 mo_mJ0_charAt_5068e rfl rfl (Nat.le_of_ble_eq_true rfl) (Or.inl rfl) rfl rfl (cx_chr (d := 54) (K := fun v σ2 => v = nI (WB i) ∧ σ2 = σ1) hL (l := 0) (i := i) (by decide) (by show i < 28; omega) ⟨rfl, rfl⟩) ?_
    rintro _ _ σ2 ⟨v, rfl, rfl, rfl, rfl⟩
    refine x_callV (Y2 := mX4_put) (as := [.int (nI (WB i))]) (S := []) (kc2 := 0) (ks2 := 0) mv_mX4_put (Or.inl ⟨4, _, rfl, rfl, gL_4 hL⟩) dX2_init_76 lk_X2_45 mo_mX4_put rfl rfl (Nat.le_of_ble_eq_true rfl) (Or.inl rfl) rfl rfl (s_X4_put (d := 58) (K := fun _ σ3 => σ3 = zsI (zsI σ2 5 i (nI (WB i))) 4 1 (nI (i + 1))) hL (by
      rw [e4]
      refine i_lt i 160 rfl rfl (by omega) (by omega) (fun _ => ⟨v_in (by omega) (by omega), ?_⟩) (fun q => by omega)
      rw [nI_clamp (by omega), show nI i + 1 = nI (i + 1) from nI_add i 1])) ?_
    rintro _ _ σ3 ⟨v, rfl, rfl, rfl⟩
    refine x_pop dX2_init_79 rfl (x_iinc dX2_init_80 rfl (v := nI (i + 1)) (nI_add i 1) rfl (Nat.le_of_ble_eq_true rfl) (L2 := [_, _]) rfl (x_goto (tgt := 57) dX2_init_83 rfl ?_))
    refine ih (i + 1) (by omega) g _ hg ?_
    rw [← F28_s i]
    exact zZp_I (zZp_I hz (by omega)) (by omega)
end
