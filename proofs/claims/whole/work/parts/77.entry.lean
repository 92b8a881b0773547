/-! the law's body, from its entry -/
/-- the world as the constructors leave it -/
def FFJ (F0 : zI) : zI := (zsI (zsI (zsI (zsI (zsI (zsI (zsI (zsI (zsI (zsI (zsI (zsI (zsI (zsI (zsI (zsI (zsI (zsI (zsI (zsI (zsI (zsI F0 38 0 (-1)) 49 0 (-1)) 51 0 (-1)) 53 0 (-1)) 55 0 (-1)) 75 0 (-1)) 75 1 (-1)) 75 2 (-1)) 75 3 (-1)) 62 0 0) 63 0 1) 57 12 (nI 1)) 64 0 16) 62 1 1) 63 1 1) 57 12 (nI 2)) 64 1 16) 62 2 2) 63 2 1) 57 12 (nI 3)) 64 2 0) 57 8 1)
theorem JJ_first {F0 σ : zI} (hF : LF F0) (hz : zZp 79 (FFJ F0) σ) : JJ σ := by
  have e : ∀ a, a < 79 → ∀ k, σ a k = FFJ F0 a k := fun a ha k => by rw [hz.1 a ha]
  obtain ⟨h41, h35, h36, h37, hlo, hhi, hx⟩ := hF
  have z : ∀ a, 22 ≤ a → ∀ k, F0 a k = 0 := fun a ha k => by rw [hhi a ha]
  have z0 : ∀ k, F0 0 k = 0 := fun k => by rw [hlo 0 (by omega)]
  have r7 : σ 7 = F0 7 := (hz.1 7 (by omega)).trans rfl
  have r14 : σ 14 = F0 14 := (hz.1 14 (by omega)).trans rfl
  have hp : ∀ q, upPX (fun _ _ => []) 0 [16] [16] [0] 0 q = sel3 [16] [16] [0] q := fun q => if_pos rfl
  have nz : (0 : Int32) = nI 0 := rfl
  have hinj : ∀ a b : Nat, a ≤ 3000 → b ≤ 3000 → nI a = nI b → a = b := fun a b ha hb q => by
    have q := congrArg Int32.toInt q
    rw [nI_toInt' (by omega), nI_toInt' (by omega)] at q
    omega
  have z77 : ∀ k, σ 77 k = 0 := fun k => (e 77 (by omega) k).trans (z 77 (by omega) k)
  have z76 : ∀ k, σ 76 k = 0 := fun k => (e 76 (by omega) k).trans (z 76 (by omega) k)
  refine ⟨0, fun _ => (0, 0, 0, 0), 1, 0, 0, upPX (fun _ _ => []) 0 [16] [16] [0], 0, fun _ => 0, fun _ => (-1, 0, fun _ => 0), none, ⟨?_, ?_, ?_, ?_, ?_⟩, ⟨?_, ?_, ?_, ?_, ?_, ?_, ?_, 3, ?_⟩, fun i _ => Or.inl rfl, trivial⟩
  · exact ⟨by omega, (e 0 (by omega) 8).trans (z0 8), fun i hi => absurd hi (Nat.not_lt_zero i)⟩
  · refine ⟨by omega, by omega, by omega, (e 3 (by omega) 7).trans h37, (e 3 (by omega) 6).trans h36, (e 3 (by omega) 5).trans h35, fun t ht q hq => ?_⟩
    have ht : t = 0 := by omega
    subst ht
    rw [hp]
    exact xR1_same (hx q hq) r7 r14
  · exact ⟨by omega, (e 4 (by omega) 1).trans h41, fun i hi => absurd hi (Nat.not_lt_zero i)⟩
  · intro i hi
    have : i = 0 ∨ i = 1 ∨ i = 2 ∨ i = 3 := by omega
    rcases this with rfl | rfl | rfl | rfl
    · exact ⟨by decide, (e 49 (by omega) 0).trans rfl, (e 49 (by omega) 1).trans (z 49 (by omega) 1), fun k _ => (e 50 (by omega) k).trans (z 50 (by omega) k)⟩
    · exact ⟨by decide, (e 51 (by omega) 0).trans rfl, (e 51 (by omega) 1).trans (z 51 (by omega) 1), fun k _ => (e 52 (by omega) k).trans (z 52 (by omega) k)⟩
    · exact ⟨by decide, (e 53 (by omega) 0).trans rfl, (e 53 (by omega) 1).trans (z 53 (by omega) 1), fun k _ => (e 54 (by omega) k).trans (z 54 (by omega) k)⟩
    · exact ⟨by decide, (e 55 (by omega) 0).trans rfl, (e 55 (by omega) 1).trans (z 55 (by omega) 1), fun k _ => (e 56 (by omega) k).trans (z 56 (by omega) k)⟩
  · exact (e 38 (by omega) 0).trans rfl
  · exact ⟨by omega, (e 57 (by omega) 1).trans (z 57 (by omega) 1), fun i hi => absurd hi (Nat.not_lt_zero i)⟩
  · refine ⟨by omega, by omega, by omega, (e 57 (by omega) 0).trans (z 57 (by omega) 0), (e 57 (by omega) 5).trans (z 57 (by omega) 5), (e 57 (by omega) 8).trans rfl, fun t ht q hq => ?_⟩
    have ht : t = 0 := by omega
    subst ht
    rw [hp]
    refine ⟨(hx q hq).1, ?_⟩
    have : q = 0 ∨ q = 1 ∨ q = 2 := by omega
    rcases this with rfl | rfl | rfl
    · exact ⟨0, (e 62 (by omega) 0).trans rfl, (e 63 (by omega) 0).trans rfl, by decide, fun i c hc => by
        rcases i with _ | i
        · cases hc; exact (e 64 (by omega) 0).trans rfl
        · cases hc⟩
    · exact ⟨1, (e 62 (by omega) 1).trans rfl, (e 63 (by omega) 1).trans rfl, by decide, fun i c hc => by
        rcases i with _ | i
        · cases hc; exact (e 64 (by omega) 1).trans rfl
        · cases hc⟩
    · exact ⟨2, (e 62 (by omega) 2).trans rfl, (e 63 (by omega) 2).trans rfl, by decide, fun i c hc => by
        rcases i with _ | i
        · cases hc; exact (e 64 (by omega) 2).trans rfl
        · cases hc⟩
  · exact ⟨by omega, (e 57 (by omega) 6).trans (z 57 (by omega) 6), fun i hi => absurd hi (Nat.not_lt_zero i)⟩
  · intro i hi
    have : i = 0 ∨ i = 1 ∨ i = 2 ∨ i = 3 := by omega
    rcases this with rfl | rfl | rfl | rfl
    · exact ⟨by decide, (e 75 (by omega) 0).trans rfl, z76 _, fun k _ => z77 _⟩
    · exact ⟨by decide, (e 75 (by omega) 1).trans rfl, z76 _, fun k _ => z77 _⟩
    · exact ⟨by decide, (e 75 (by omega) 2).trans rfl, z76 _, fun k _ => z77 _⟩
    · exact ⟨by decide, (e 75 (by omega) 3).trans rfl, z76 _, fun k _ => z77 _⟩
  · exact (e 57 (by omega) 32).trans (z 57 (by omega) 32)
  · exact (e 68 (by omega) 0).trans (z 68 (by omega) 0)
  · exact (e 69 (by omega) 0).trans (z 69 (by omega) 0)
  · refine ⟨(e 57 (by omega) 12).trans rfl, by decide, fun t ht q hq b hb hbe => ?_⟩
    have ht : t = 0 := by omega
    subst ht
    rw [hp]
    have : q = 0 ∨ q = 1 ∨ q = 2 := by omega
    rcases this with rfl | rfl | rfl
    · have := hinj b 0 hb (by decide) (hbe.symm.trans ((e 62 (by omega) 0).trans rfl))
      subst this
      decide
    · have := hinj b 1 hb (by decide) (hbe.symm.trans ((e 62 (by omega) 1).trans rfl))
      subst this
      decide
    · have := hinj b 2 hb (by decide) (hbe.symm.trans ((e 62 (by omega) 2).trans rfl))
      subst this
      decide
set_option maxRecDepth 20000 in
theorem lw_entry_ {nm : String} {n0 : Nat} (hn : n0 ≤ 100000) : zY n0 (mLn nm) 61 79 6121 0 [.ref 3000] [] 0 [] zF0 (fun r _ _ => r = some (.int 1)) := by
  refine y_new (kc2 := 78) (ks2 := 6112) (n2 := 1) (P2 := [(0, 0), (0, 1), (0, 2), (0, 3), (0, 4), (0, 5), (0, 6), (0, 7)]) (ci := 7) dL_law_0 rfl cl_L_7 (by decide) rfl rfl rfl rfl rfl (by decide +kernel) (by decide +kernel) ?_
  refine y_of (fun _ _ h => x_dup dL_law_3 rfl h) ?_
  refine y_callI (Y2 := mX7_init) (as := []) (S := [.ref 0]) (kc2 := 22) (ks2 := 4220) (n2 := 57) (P2 := []) (FP := fun FX => ∃ F0, LF F0 ∧ FX = (zsI (zsI (zsI (zsI (zsI F0 38 0 (-1)) 49 0 (-1)) 51 0 (-1)) 53 0 (-1)) 55 0 (-1))) in_mX7_init dL_law_4 lk_L_9 mo_mX7_init rfl rfl (Nat.le_of_ble_eq_true rfl) rfl rfl rfl (fun _ _ hg hz => k_X7_init_0 hg hz) ?_
  rintro FX ⟨F0, hF0, hFX⟩; rw [hFX]; clear hFX FX
  refine y_of (fun _ _ h => x_astore_n dL_law_7 rfl (Nat.le_of_ble_eq_true rfl) (L2 := [_, _]) rfl h) ?_
  refine y_new (kc2 := 21) (ks2 := 4181) (n2 := 58) (P2 := [(57, 2), (57, 3), (57, 4), (57, 7), (57, 9), (57, 10), (57, 11), (57, 18), (57, 24), (57, 25), (57, 26), (57, 27), (57, 28), (57, 29), (57, 30), (57, 31), (57, 34), (57, 35), (57, 36), (57, 37), (57, 38)]) (ci := 8) dL_law_8 rfl cl_L_10 (by decide) rfl rfl rfl rfl rfl (by decide +kernel) (by decide +kernel) ?_
  refine y_of (fun _ _ h => x_dup dL_law_11 rfl h) ?_
  have h57 : (zsI (zsI (zsI (zsI (zsI F0 38 0 (-1)) 49 0 (-1)) 51 0 (-1)) 53 0 (-1)) 55 0 (-1)) 57 12 = nI 0 := congrFun (hF0.2.2.2.2.2.1 57 (by decide)) 12
  refine y_callI (Y2 := mX8_init) (as := []) (S := [.ref 57]) (kc2 := 0) (ks2 := 0) (n2 := 79) (P2 := []) (FP := fun FX => FX = (zsI (zsI (zsI (zsI (zsI (zsI (zsI (zsI (zsI (zsI (zsI (zsI (zsI (zsI (zsI (zsI (zsI (zsI (zsI (zsI (zsI (zsI F0 38 0 (-1)) 49 0 (-1)) 51 0 (-1)) 53 0 (-1)) 55 0 (-1)) 75 0 (-1)) 75 1 (-1)) 75 2 (-1)) 75 3 (-1)) 62 0 0) 63 0 1) 57 12 (nI 1)) 64 0 16) 62 1 1) 63 1 1) 57 12 (nI 2)) 64 1 16) 62 2 2) 63 2 1) 57 12 (nI 3)) 64 2 0) 57 8 1)) in_mX8_init dL_law_12 lk_L_12 mo_mX8_init rfl rfl (Nat.le_of_ble_eq_true rfl) rfl rfl rfl (fun _ _ hg hz => k_X8_init_57 h57 hg hz) ?_
  intro FX hFX; rw [hFX]; clear hFX FX
  refine y_of (fun _ _ h => x_astore_n dL_law_15 rfl (Nat.le_of_ble_eq_true rfl) (L2 := [_, _, _]) rfl h) ?_
  refine y_of (fun _ _ h => x_iconst (v := 0) dL_law_16 rfl h) ?_
  refine y_of (fun _ _ h => x_istore_n dL_law_17 rfl (Nat.le_of_ble_eq_true rfl) (L2 := [_, _, _, _]) rfl h) ?_
  intro g1 σ1 hg1 hz1
  have hA : zGA g1 := hg1.ge (Nat.le_refl _) (by intro q h; cases h)
  exact zX_mono (lw_loop_ (K := fun v _ => v = 1) hA hn hg1.2.1 (fun _ _ => rfl) (n0 + 6) 0 σ1 (by omega) (by omega) (JJ_first hF0 hz1)) (by rintro r g2 σ2 ⟨v, rfl, -, rfl⟩; rfl)
