/-! the constructors -/
set_option maxRecDepth 20000 in
theorem k_X4_init_4 {n0 : Nat} {F : zI} {g : zG} {σ : zI} (hg : zGp n0 5 [(4, 0), (3, 0), (3, 1), (3, 2), (3, 3), (3, 4), (2, 0), (2, 1), (2, 2), (2, 3), (1, 0), (1, 1), (1, 2), (1, 3), (1, 4), (1, 5), (0, 2), (0, 3), (0, 4), (0, 5), (0, 6), (0, 7)] g) (hz : zZp 5 F σ) : zCx mX4_init 58 [.ref 4] g σ (qP n0 6 [(3, 0), (3, 1), (3, 2), (3, 3), (3, 4), (2, 0), (2, 1), (2, 2), (2, 3), (1, 0), (1, 1), (1, 2), (1, 3), (1, 4), (1, 5), (0, 2), (0, 3), (0, 4), (0, 5), (0, 6), (0, 7)] (fun FX => FX = F)) := by
  refine c_of_x pn_mX4_init rfl (Nat.le_of_ble_eq_true rfl) ?_
  refine (?_ : zY n0 mX4_init 58 1 160 0 [.ref 4] [] 5 [(4, 0), (3, 0), (3, 1), (3, 2), (3, 3), (3, 4), (2, 0), (2, 1), (2, 2), (2, 3), (1, 0), (1, 1), (1, 2), (1, 3), (1, 4), (1, 5), (0, 2), (0, 3), (0, 4), (0, 5), (0, 6), (0, 7)] F _) g σ hg hz
  refine y_of (fun _ _ h => x_aload_n dX4_init_0 rfl h) ?_
  refine y_of (fun _ _ h => x_obj dX4_init_1 lw_X4_5 tw_obj1 tw_obj2 (Nat.le_of_ble_eq_true rfl) h) ?_
  refine y_of (fun _ _ h => x_aload_n dX4_init_4 rfl h) ?_
  refine y_of (fun _ _ h => x_sipush (v := 160) dX4_init_5 rfl h) ?_
  refine y_newi (kc2 := 0) (ks2 := 0) (n2 := 6) (N := 160) (P2 := [(4, 0), (3, 0), (3, 1), (3, 2), (3, 3), (3, 4), (2, 0), (2, 1), (2, 2), (2, 3), (1, 0), (1, 1), (1, 2), (1, 3), (1, 4), (1, 5), (0, 2), (0, 3), (0, 4), (0, 5), (0, 6), (0, 7)]) dX4_init_8 (by decide) (by decide) (by decide) (by decide) rfl rfl rfl rfl rfl (by decide +kernel) (by decide +kernel) ?_
  refine y_putF (P2 := [(3, 0), (3, 1), (3, 2), (3, 3), (3, 4), (2, 0), (2, 1), (2, 2), (2, 3), (1, 0), (1, 1), (1, 2), (1, 3), (1, 4), (1, 5), (0, 2), (0, 3), (0, 4), (0, 5), (0, 6), (0, 7)]) dX4_init_10 fl_X4_11 rfl (by intro C T N h; cases h; rfl) (by decide +kernel) (by decide) (by decide +kernel) rfl (by decide) (by decide +kernel) (by decide +kernel) ?_
  exact y_ret dX4_init_13 rfl rfl
set_option maxRecDepth 20000 in
theorem k_X2_init_3 {n0 : Nat} {g : zG} {σ : zI} (hg : zGp n0 4 [(3, 0), (3, 1), (3, 2), (3, 3), (3, 4), (2, 0), (2, 1), (2, 2), (2, 3), (1, 0), (1, 1), (1, 2), (1, 3), (1, 4), (1, 5), (0, 2), (0, 3), (0, 4), (0, 5), (0, 6), (0, 7)] g) (hz : zZp 4 zF0 σ) : zCx mX2_init 59 [.ref 3] g σ (qP n0 22 [(2, 0), (2, 1), (2, 2), (2, 3), (1, 0), (1, 1), (1, 2), (1, 3), (1, 4), (1, 5), (0, 2), (0, 3), (0, 4), (0, 5), (0, 6), (0, 7)] (LF)) := by
  refine c_of_x pn_mX2_init rfl (Nat.le_of_ble_eq_true rfl) ?_
  refine (?_ : zY n0 mX2_init 59 18 1228 0 [.ref 3] [] 4 [(3, 0), (3, 1), (3, 2), (3, 3), (3, 4), (2, 0), (2, 1), (2, 2), (2, 3), (1, 0), (1, 1), (1, 2), (1, 3), (1, 4), (1, 5), (0, 2), (0, 3), (0, 4), (0, 5), (0, 6), (0, 7)] zF0 _) g σ hg hz
  refine y_of (fun _ _ h => x_aload_n dX2_init_0 rfl h) ?_
  refine y_of (fun _ _ h => x_obj dX2_init_1 lw_X2_3 tw_obj1 tw_obj2 (Nat.le_of_ble_eq_true rfl) h) ?_
  refine y_of (fun _ _ h => x_aload_n dX2_init_4 rfl h) ?_
  refine y_new (kc2 := 17) (ks2 := 1220) (n2 := 5) (P2 := [(4, 0), (3, 0), (3, 1), (3, 2), (3, 3), (3, 4), (2, 0), (2, 1), (2, 2), (2, 3), (1, 0), (1, 1), (1, 2), (1, 3), (1, 4), (1, 5), (0, 2), (0, 3), (0, 4), (0, 5), (0, 6), (0, 7)]) (ci := 4) dX2_init_5 rfl cl_X2_9 (by decide) rfl rfl rfl rfl rfl (by decide +kernel) (by decide +kernel) ?_
  refine y_of (fun _ _ h => x_dup dX2_init_8 rfl h) ?_
  refine y_callI (Y2 := mX4_init) (as := []) (S := [.ref 4, .ref 3]) (kc2 := 16) (ks2 := 1060) (n2 := 6) (P2 := [(3, 0), (3, 1), (3, 2), (3, 3), (3, 4), (2, 0), (2, 1), (2, 2), (2, 3), (1, 0), (1, 1), (1, 2), (1, 3), (1, 4), (1, 5), (0, 2), (0, 3), (0, 4), (0, 5), (0, 6), (0, 7)]) (FP := fun FX => FX = zF0) in_mX4_init dX2_init_9 lk_X2_11 mo_mX4_init rfl rfl (Nat.le_of_ble_eq_true rfl) rfl rfl rfl (fun _ _ hg hz => k_X4_init_4 hg hz) ?_
  intro FX hFX; rw [hFX]; clear hFX FX
  refine y_putF (P2 := [(3, 1), (3, 2), (3, 3), (3, 4), (2, 0), (2, 1), (2, 2), (2, 3), (1, 0), (1, 1), (1, 2), (1, 3), (1, 4), (1, 5), (0, 2), (0, 3), (0, 4), (0, 5), (0, 6), (0, 7)]) dX2_init_12 fl_X2_12 rfl (by intro C T N h; cases h; rfl) (by decide +kernel) (by decide) (by decide +kernel) rfl (by decide) (by decide +kernel) (by decide +kernel) ?_
  refine y_of (fun _ _ h => x_aload_n dX2_init_15 rfl h) ?_
  refine y_of (fun _ _ h => x_bipush (v := 6) dX2_init_16 rfl h) ?_
  refine y_of (fun _ _ h => x_sipush (v := 160) dX2_init_18 rfl h) ?_
  refine y_mnew (kc2 := 9) (ks2 := 94) (n2 := 13) (N := 6) (K := 160) dX2_init_21 cl_X2_18 (by decide) (by decide) (by decide) (by decide) (by decide) (by decide) (by decide) rfl rfl rfl rfl rfl (by decide +kernel) (by decide +kernel) (by decide +kernel) (by decide +kernel) (by decide +kernel) ?_
  refine y_putF (P2 := [(3, 2), (3, 3), (3, 4), (2, 0), (2, 1), (2, 2), (2, 3), (1, 0), (1, 1), (1, 2), (1, 3), (1, 4), (1, 5), (0, 2), (0, 3), (0, 4), (0, 5), (0, 6), (0, 7)]) dX2_init_25 fl_X2_20 rfl (by intro C T N h; cases h; rfl) (by decide +kernel) (by decide) (by decide +kernel) rfl (by decide) (by decide +kernel) (by decide +kernel) ?_
  refine y_of (fun _ _ h => x_aload_n dX2_init_28 rfl h) ?_
  refine y_of (fun _ _ h => x_bipush (v := 6) dX2_init_29 rfl h) ?_
  refine y_of (fun _ _ h => x_iconst (v := 3) dX2_init_31 rfl h) ?_
  refine y_mnew (kc2 := 2) (ks2 := 70) (n2 := 20) (N := 6) (K := 3) dX2_init_32 cl_X2_18 (by decide) (by decide) (by decide) (by decide) (by decide) (by decide) (by decide) rfl rfl rfl rfl rfl (by decide +kernel) (by decide +kernel) (by decide +kernel) (by decide +kernel) (by decide +kernel) ?_
  refine y_putF (P2 := [(3, 3), (3, 4), (2, 0), (2, 1), (2, 2), (2, 3), (1, 0), (1, 1), (1, 2), (1, 3), (1, 4), (1, 5), (0, 2), (0, 3), (0, 4), (0, 5), (0, 6), (0, 7)]) dX2_init_36 fl_X2_23 rfl (by intro C T N h; cases h; rfl) (by decide +kernel) (by decide) (by decide +kernel) rfl (by decide) (by decide +kernel) (by decide +kernel) ?_
  refine y_of (fun _ _ h => x_aload_n dX2_init_39 rfl h) ?_
  refine y_of (fun _ _ h => x_bipush (v := 6) dX2_init_40 rfl h) ?_
  refine y_newi (kc2 := 1) (ks2 := 64) (n2 := 21) (N := 6) (P2 := [(3, 3), (3, 4), (2, 0), (2, 1), (2, 2), (2, 3), (1, 0), (1, 1), (1, 2), (1, 3), (1, 4), (1, 5), (0, 2), (0, 3), (0, 4), (0, 5), (0, 6), (0, 7)]) dX2_init_42 (by decide) (by decide) (by decide) (by decide) rfl rfl rfl rfl rfl (by decide +kernel) (by decide +kernel) ?_
  refine y_putF (P2 := [(3, 4), (2, 0), (2, 1), (2, 2), (2, 3), (1, 0), (1, 1), (1, 2), (1, 3), (1, 4), (1, 5), (0, 2), (0, 3), (0, 4), (0, 5), (0, 6), (0, 7)]) dX2_init_44 fl_X2_26 rfl (by intro C T N h; cases h; rfl) (by decide +kernel) (by decide) (by decide +kernel) rfl (by decide) (by decide +kernel) (by decide +kernel) ?_
  refine y_of (fun _ _ h => x_aload_n dX2_init_47 rfl h) ?_
  refine y_of (fun _ _ h => x_bipush (v := 64) dX2_init_48 rfl h) ?_
  refine y_newi (kc2 := 0) (ks2 := 0) (n2 := 22) (N := 64) (P2 := [(3, 4), (2, 0), (2, 1), (2, 2), (2, 3), (1, 0), (1, 1), (1, 2), (1, 3), (1, 4), (1, 5), (0, 2), (0, 3), (0, 4), (0, 5), (0, 6), (0, 7)]) dX2_init_50 (by decide) (by decide) (by decide) (by decide) rfl rfl rfl rfl rfl (by decide +kernel) (by decide +kernel) ?_
  refine y_putF (P2 := [(2, 0), (2, 1), (2, 2), (2, 3), (1, 0), (1, 1), (1, 2), (1, 3), (1, 4), (1, 5), (0, 2), (0, 3), (0, 4), (0, 5), (0, 6), (0, 7)]) dX2_init_52 fl_X2_30 rfl (by intro C T N h; cases h; rfl) (by decide +kernel) (by decide) (by decide +kernel) rfl (by decide) (by decide +kernel) (by decide +kernel) ?_
  refine y_of (fun _ _ h => x_iconst (v := 0) dX2_init_55 rfl h) ?_
  refine y_of (fun _ _ h => x_istore_n dX2_init_56 rfl (Nat.le_of_ble_eq_true rfl) (L2 := [_, _]) rfl h) ?_
  rw [← F28_0]
  exact y_lawloop (by decide +kernel) 28 0 rfl
set_option maxRecDepth 20000 in
theorem k_X3_init_22 {n0 : Nat} {F : zI} {g : zG} {σ : zI} (hg : zGp n0 23 [(22, 0), (22, 1), (22, 2), (22, 3), (22, 4), (22, 5), (2, 0), (2, 1), (2, 2), (2, 3), (1, 0), (1, 1), (1, 2), (1, 3), (1, 4), (1, 5), (0, 3), (0, 4), (0, 5), (0, 6), (0, 7)] g) (hz : zZp 23 F σ) : zCx mX3_init 59 [.ref 22, .ref 3] g σ (qP n0 28 [(2, 0), (2, 1), (2, 2), (2, 3), (1, 0), (1, 1), (1, 2), (1, 3), (1, 4), (1, 5), (0, 3), (0, 4), (0, 5), (0, 6), (0, 7)] (fun FX => FX = F)) := by
  refine c_of_x pn_mX3_init rfl (Nat.le_of_ble_eq_true rfl) ?_
  refine (?_ : zY n0 mX3_init 59 5 360 0 [.ref 22, .ref 3] [] 23 [(22, 0), (22, 1), (22, 2), (22, 3), (22, 4), (22, 5), (2, 0), (2, 1), (2, 2), (2, 3), (1, 0), (1, 1), (1, 2), (1, 3), (1, 4), (1, 5), (0, 3), (0, 4), (0, 5), (0, 6), (0, 7)] F _) g σ hg hz
  refine y_of (fun _ _ h => x_aload_n dX3_init_0 rfl h) ?_
  refine y_of (fun _ _ h => x_obj dX3_init_1 lw_X3_3 tw_obj1 tw_obj2 (Nat.le_of_ble_eq_true rfl) h) ?_
  refine y_of (fun _ _ h => x_aload_n dX3_init_4 rfl h) ?_
  refine y_of (fun _ _ h => x_bipush (v := 30) dX3_init_5 rfl h) ?_
  refine y_newi (kc2 := 4) (ks2 := 330) (n2 := 24) (N := 30) (P2 := [(22, 0), (22, 1), (22, 2), (22, 3), (22, 4), (22, 5), (2, 0), (2, 1), (2, 2), (2, 3), (1, 0), (1, 1), (1, 2), (1, 3), (1, 4), (1, 5), (0, 3), (0, 4), (0, 5), (0, 6), (0, 7)]) dX3_init_7 (by decide) (by decide) (by decide) (by decide) rfl rfl rfl rfl rfl (by decide +kernel) (by decide +kernel) ?_
  refine y_putF (P2 := [(22, 0), (22, 2), (22, 3), (22, 4), (22, 5), (2, 0), (2, 1), (2, 2), (2, 3), (1, 0), (1, 1), (1, 2), (1, 3), (1, 4), (1, 5), (0, 3), (0, 4), (0, 5), (0, 6), (0, 7)]) dX3_init_9 fl_X3_9 rfl (by intro C T N h; cases h; rfl) (by decide +kernel) (by decide) (by decide +kernel) rfl (by decide) (by decide +kernel) (by decide +kernel) ?_
  refine y_of (fun _ _ h => x_aload_n dX3_init_12 rfl h) ?_
  refine y_of (fun _ _ h => x_bipush (v := 30) dX3_init_13 rfl h) ?_
  refine y_newi (kc2 := 3) (ks2 := 300) (n2 := 25) (N := 30) (P2 := [(22, 0), (22, 2), (22, 3), (22, 4), (22, 5), (2, 0), (2, 1), (2, 2), (2, 3), (1, 0), (1, 1), (1, 2), (1, 3), (1, 4), (1, 5), (0, 3), (0, 4), (0, 5), (0, 6), (0, 7)]) dX3_init_15 (by decide) (by decide) (by decide) (by decide) rfl rfl rfl rfl rfl (by decide +kernel) (by decide +kernel) ?_
  refine y_putF (P2 := [(22, 0), (22, 3), (22, 4), (22, 5), (2, 0), (2, 1), (2, 2), (2, 3), (1, 0), (1, 1), (1, 2), (1, 3), (1, 4), (1, 5), (0, 3), (0, 4), (0, 5), (0, 6), (0, 7)]) dX3_init_17 fl_X3_15 rfl (by intro C T N h; cases h; rfl) (by decide +kernel) (by decide) (by decide +kernel) rfl (by decide) (by decide +kernel) (by decide +kernel) ?_
  refine y_of (fun _ _ h => x_aload_n dX3_init_20 rfl h) ?_
  refine y_of (fun _ _ h => x_bipush (v := 100) dX3_init_21 rfl h) ?_
  refine y_newi (kc2 := 2) (ks2 := 200) (n2 := 26) (N := 100) (P2 := [(22, 0), (22, 3), (22, 4), (22, 5), (2, 0), (2, 1), (2, 2), (2, 3), (1, 0), (1, 1), (1, 2), (1, 3), (1, 4), (1, 5), (0, 3), (0, 4), (0, 5), (0, 6), (0, 7)]) dX3_init_23 (by decide) (by decide) (by decide) (by decide) rfl rfl rfl rfl rfl (by decide +kernel) (by decide +kernel) ?_
  refine y_putF (P2 := [(22, 0), (22, 4), (22, 5), (2, 0), (2, 1), (2, 2), (2, 3), (1, 0), (1, 1), (1, 2), (1, 3), (1, 4), (1, 5), (0, 3), (0, 4), (0, 5), (0, 6), (0, 7)]) dX3_init_25 fl_X3_18 rfl (by intro C T N h; cases h; rfl) (by decide +kernel) (by decide) (by decide +kernel) rfl (by decide) (by decide +kernel) (by decide +kernel) ?_
  refine y_of (fun _ _ h => x_aload_n dX3_init_28 rfl h) ?_
  refine y_of (fun _ _ h => x_bipush (v := 100) dX3_init_29 rfl h) ?_
  refine y_newz (kc2 := 1) (ks2 := 100) (n2 := 27) (N := 100) (P2 := [(22, 0), (22, 4), (22, 5), (2, 0), (2, 1), (2, 2), (2, 3), (1, 0), (1, 1), (1, 2), (1, 3), (1, 4), (1, 5), (0, 3), (0, 4), (0, 5), (0, 6), (0, 7)]) dX3_init_31 (by decide) (by decide) (by decide) (by decide) rfl rfl rfl rfl rfl (by decide +kernel) (by decide +kernel) ?_
  refine y_putF (P2 := [(22, 0), (22, 5), (2, 0), (2, 1), (2, 2), (2, 3), (1, 0), (1, 1), (1, 2), (1, 3), (1, 4), (1, 5), (0, 3), (0, 4), (0, 5), (0, 6), (0, 7)]) dX3_init_33 fl_X3_21 rfl (by intro C T N h; cases h; rfl) (by decide +kernel) (by decide) (by decide +kernel) rfl (by decide) (by decide +kernel) (by decide +kernel) ?_
  refine y_of (fun _ _ h => x_aload_n dX3_init_36 rfl h) ?_
  refine y_of (fun _ _ h => x_bipush (v := 100) dX3_init_37 rfl h) ?_
  refine y_newz (kc2 := 0) (ks2 := 0) (n2 := 28) (N := 100) (P2 := [(22, 0), (22, 5), (2, 0), (2, 1), (2, 2), (2, 3), (1, 0), (1, 1), (1, 2), (1, 3), (1, 4), (1, 5), (0, 3), (0, 4), (0, 5), (0, 6), (0, 7)]) dX3_init_39 (by decide) (by decide) (by decide) (by decide) rfl rfl rfl rfl rfl (by decide +kernel) (by decide +kernel) ?_
  refine y_putF (P2 := [(22, 0), (2, 0), (2, 1), (2, 2), (2, 3), (1, 0), (1, 1), (1, 2), (1, 3), (1, 4), (1, 5), (0, 3), (0, 4), (0, 5), (0, 6), (0, 7)]) dX3_init_41 fl_X3_25 rfl (by intro C T N h; cases h; rfl) (by decide +kernel) (by decide) (by decide +kernel) rfl (by decide) (by decide +kernel) (by decide +kernel) ?_
  refine y_of (fun _ _ h => x_aload_n dX3_init_44 rfl h) ?_
  refine y_of (fun _ _ h => x_aload_n dX3_init_45 rfl h) ?_
  refine y_putF (P2 := [(2, 0), (2, 1), (2, 2), (2, 3), (1, 0), (1, 1), (1, 2), (1, 3), (1, 4), (1, 5), (0, 3), (0, 4), (0, 5), (0, 6), (0, 7)]) dX3_init_46 fl_X3_28 rfl (by intro C T N h; cases h; rfl) (by decide +kernel) (by decide) (by decide +kernel) rfl (by decide) (by decide +kernel) (by decide +kernel) ?_
  exact y_ret dX3_init_49 rfl rfl
set_option maxRecDepth 20000 in
theorem k_X6_init_28 {n0 : Nat} {F : zI} {g : zG} {σ : zI} (hg : zGp n0 29 [(28, 0), (28, 1), (28, 2), (28, 3), (2, 0), (2, 1), (2, 2), (2, 3), (1, 0), (1, 1), (1, 2), (1, 3), (1, 4), (1, 5), (0, 4), (0, 5), (0, 6), (0, 7)] g) (hz : zZp 29 F σ) : zCx mX6_init 59 [.ref 28, .ref 22] g σ (qP n0 38 [(2, 0), (2, 1), (2, 2), (2, 3), (1, 0), (1, 1), (1, 2), (1, 3), (1, 4), (1, 5), (0, 4), (0, 5), (0, 6), (0, 7)] (fun FX => FX = F)) := by
  refine c_of_x pn_mX6_init rfl (Nat.le_of_ble_eq_true rfl) ?_
  refine (?_ : zY n0 mX6_init 59 9 54 0 [.ref 28, .ref 22] [] 29 [(28, 0), (28, 1), (28, 2), (28, 3), (2, 0), (2, 1), (2, 2), (2, 3), (1, 0), (1, 1), (1, 2), (1, 3), (1, 4), (1, 5), (0, 4), (0, 5), (0, 6), (0, 7)] F _) g σ hg hz
  refine y_of (fun _ _ h => x_aload_n dX6_init_0 rfl h) ?_
  refine y_of (fun _ _ h => x_obj dX6_init_1 lw_X6_3 tw_obj1 tw_obj2 (Nat.le_of_ble_eq_true rfl) h) ?_
  refine y_of (fun _ _ h => x_aload_n dX6_init_4 rfl h) ?_
  refine y_of (fun _ _ h => x_bipush (v := 6) dX6_init_5 rfl h) ?_
  refine y_of (fun _ _ h => x_bipush (v := 6) dX6_init_7 rfl h) ?_
  refine y_mnew (kc2 := 2) (ks2 := 12) (n2 := 36) (N := 6) (K := 6) dX6_init_9 cl_X6_9 (by decide) (by decide) (by decide) (by decide) (by decide) (by decide) (by decide) rfl rfl rfl rfl rfl (by decide +kernel) (by decide +kernel) (by decide +kernel) (by decide +kernel) (by decide +kernel) ?_
  refine y_putF (P2 := [(28, 0), (28, 2), (28, 3), (2, 0), (2, 1), (2, 2), (2, 3), (1, 0), (1, 1), (1, 2), (1, 3), (1, 4), (1, 5), (0, 4), (0, 5), (0, 6), (0, 7)]) dX6_init_13 fl_X6_11 rfl (by intro C T N h; cases h; rfl) (by decide +kernel) (by decide) (by decide +kernel) rfl (by decide) (by decide +kernel) (by decide +kernel) ?_
  refine y_of (fun _ _ h => x_aload_n dX6_init_16 rfl h) ?_
  refine y_of (fun _ _ h => x_bipush (v := 6) dX6_init_17 rfl h) ?_
  refine y_newi (kc2 := 1) (ks2 := 6) (n2 := 37) (N := 6) (P2 := [(28, 0), (28, 2), (28, 3), (2, 0), (2, 1), (2, 2), (2, 3), (1, 0), (1, 1), (1, 2), (1, 3), (1, 4), (1, 5), (0, 4), (0, 5), (0, 6), (0, 7)]) dX6_init_19 (by decide) (by decide) (by decide) (by decide) rfl rfl rfl rfl rfl (by decide +kernel) (by decide +kernel) ?_
  refine y_putF (P2 := [(28, 0), (28, 3), (2, 0), (2, 1), (2, 2), (2, 3), (1, 0), (1, 1), (1, 2), (1, 3), (1, 4), (1, 5), (0, 4), (0, 5), (0, 6), (0, 7)]) dX6_init_21 fl_X6_16 rfl (by intro C T N h; cases h; rfl) (by decide +kernel) (by decide) (by decide +kernel) rfl (by decide) (by decide +kernel) (by decide +kernel) ?_
  refine y_of (fun _ _ h => x_aload_n dX6_init_24 rfl h) ?_
  refine y_of (fun _ _ h => x_bipush (v := 6) dX6_init_25 rfl h) ?_
  refine y_newi (kc2 := 0) (ks2 := 0) (n2 := 38) (N := 6) (P2 := [(28, 0), (28, 3), (2, 0), (2, 1), (2, 2), (2, 3), (1, 0), (1, 1), (1, 2), (1, 3), (1, 4), (1, 5), (0, 4), (0, 5), (0, 6), (0, 7)]) dX6_init_27 (by decide) (by decide) (by decide) (by decide) rfl rfl rfl rfl rfl (by decide +kernel) (by decide +kernel) ?_
  refine y_putF (P2 := [(28, 0), (2, 0), (2, 1), (2, 2), (2, 3), (1, 0), (1, 1), (1, 2), (1, 3), (1, 4), (1, 5), (0, 4), (0, 5), (0, 6), (0, 7)]) dX6_init_29 fl_X6_20 rfl (by intro C T N h; cases h; rfl) (by decide +kernel) (by decide) (by decide +kernel) rfl (by decide) (by decide +kernel) (by decide +kernel) ?_
  refine y_of (fun _ _ h => x_aload_n dX6_init_32 rfl h) ?_
  refine y_of (fun _ _ h => x_aload_n dX6_init_33 rfl h) ?_
  refine y_putF (P2 := [(2, 0), (2, 1), (2, 2), (2, 3), (1, 0), (1, 1), (1, 2), (1, 3), (1, 4), (1, 5), (0, 4), (0, 5), (0, 6), (0, 7)]) dX6_init_34 fl_X6_23 rfl (by intro C T N h; cases h; rfl) (by decide +kernel) (by decide) (by decide +kernel) rfl (by decide) (by decide +kernel) (by decide +kernel) ?_
  exact y_ret dX6_init_37 rfl rfl
set_option maxRecDepth 20000 in
theorem k_X1_init_38 {n0 : Nat} {F : zI} {g : zG} {σ : zI} (hg : zGp n0 39 [(38, 3), (38, 4), (2, 0), (2, 1), (2, 2), (2, 3), (1, 0), (1, 1), (1, 2), (1, 3), (1, 4), (1, 5), (0, 5), (0, 6), (0, 7)] g) (hz : zZp 39 F σ) : zCx mX1_init 59 [.ref 38] g σ (qP n0 41 [(2, 0), (2, 1), (2, 2), (2, 3), (1, 0), (1, 1), (1, 2), (1, 3), (1, 4), (1, 5), (0, 5), (0, 6), (0, 7)] (fun FX => FX = (zsI F 38 0 (-1)))) := by
  refine c_of_x pn_mX1_init rfl (Nat.le_of_ble_eq_true rfl) ?_
  refine (?_ : zY n0 mX1_init 59 2 12 0 [.ref 38] [] 39 [(38, 3), (38, 4), (2, 0), (2, 1), (2, 2), (2, 3), (1, 0), (1, 1), (1, 2), (1, 3), (1, 4), (1, 5), (0, 5), (0, 6), (0, 7)] F _) g σ hg hz
  refine y_of (fun _ _ h => x_aload_n dX1_init_0 rfl h) ?_
  refine y_of (fun _ _ h => x_obj dX1_init_1 lw_X1_3 tw_obj1 tw_obj2 (Nat.le_of_ble_eq_true rfl) h) ?_
  refine y_of (fun _ _ h => x_aload_n dX1_init_4 rfl h) ?_
  refine y_of (fun _ _ h => x_iconst (v := (-1)) dX1_init_5 rfl h) ?_
  refine y_putI dX1_init_6 fl_X1_9 (by decide) (by decide +kernel) rfl rfl ?_
  refine y_of (fun _ _ h => x_aload_n dX1_init_9 rfl h) ?_
  refine y_of (fun _ _ h => x_bipush (v := 6) dX1_init_10 rfl h) ?_
  refine y_newi (kc2 := 1) (ks2 := 6) (n2 := 40) (N := 6) (P2 := [(38, 3), (38, 4), (2, 0), (2, 1), (2, 2), (2, 3), (1, 0), (1, 1), (1, 2), (1, 3), (1, 4), (1, 5), (0, 5), (0, 6), (0, 7)]) dX1_init_12 (by decide) (by decide) (by decide) (by decide) rfl rfl rfl rfl rfl (by decide +kernel) (by decide +kernel) ?_
  refine y_putF (P2 := [(38, 4), (2, 0), (2, 1), (2, 2), (2, 3), (1, 0), (1, 1), (1, 2), (1, 3), (1, 4), (1, 5), (0, 5), (0, 6), (0, 7)]) dX1_init_14 fl_X1_15 rfl (by intro C T N h; cases h; rfl) (by decide +kernel) (by decide) (by decide +kernel) rfl (by decide) (by decide +kernel) (by decide +kernel) ?_
  refine y_of (fun _ _ h => x_aload_n dX1_init_17 rfl h) ?_
  refine y_of (fun _ _ h => x_bipush (v := 6) dX1_init_18 rfl h) ?_
  refine y_newi (kc2 := 0) (ks2 := 0) (n2 := 41) (N := 6) (P2 := [(38, 4), (2, 0), (2, 1), (2, 2), (2, 3), (1, 0), (1, 1), (1, 2), (1, 3), (1, 4), (1, 5), (0, 5), (0, 6), (0, 7)]) dX1_init_20 (by decide) (by decide) (by decide) (by decide) rfl rfl rfl rfl rfl (by decide +kernel) (by decide +kernel) ?_
  refine y_putF (P2 := [(2, 0), (2, 1), (2, 2), (2, 3), (1, 0), (1, 1), (1, 2), (1, 3), (1, 4), (1, 5), (0, 5), (0, 6), (0, 7)]) dX1_init_22 fl_X1_19 rfl (by intro C T N h; cases h; rfl) (by decide +kernel) (by decide) (by decide +kernel) rfl (by decide) (by decide +kernel) (by decide +kernel) ?_
  exact y_ret dX1_init_25 rfl rfl
set_option maxRecDepth 20000 in
theorem k_X0_init_41 {n0 : Nat} {F : zI} {g : zG} {σ : zI} (hg : zGp n0 42 [(2, 0), (2, 1), (2, 2), (2, 3), (1, 0), (1, 1), (1, 2), (1, 3), (1, 4), (1, 5), (0, 6), (0, 7)] g) (hz : zZp 42 F σ) : zCx mX0_init 59 [.ref 41] g σ (qP n0 42 [(2, 0), (2, 1), (2, 2), (2, 3), (1, 0), (1, 1), (1, 2), (1, 3), (1, 4), (1, 5), (0, 6), (0, 7)] (fun FX => FX = F)) := by
  refine c_of_x pn_mX0_init rfl (Nat.le_of_ble_eq_true rfl) ?_
  refine (?_ : zY n0 mX0_init 59 0 0 0 [.ref 41] [] 42 [(2, 0), (2, 1), (2, 2), (2, 3), (1, 0), (1, 1), (1, 2), (1, 3), (1, 4), (1, 5), (0, 6), (0, 7)] F _) g σ hg hz
  refine y_of (fun _ _ h => x_aload_n dX0_init_0 rfl h) ?_
  refine y_of (fun _ _ h => x_obj dX0_init_1 lw_X0_3 tw_obj1 tw_obj2 (Nat.le_of_ble_eq_true rfl) h) ?_
  exact y_ret dX0_init_4 rfl rfl
set_option maxRecDepth 20000 in
theorem k_X0_init_42 {n0 : Nat} {F : zI} {g : zG} {σ : zI} (hg : zGp n0 43 [(2, 0), (2, 1), (2, 2), (2, 3), (1, 0), (1, 1), (1, 2), (1, 3), (1, 4), (1, 5), (0, 7)] g) (hz : zZp 43 F σ) : zCx mX0_init 59 [.ref 42] g σ (qP n0 43 [(2, 0), (2, 1), (2, 2), (2, 3), (1, 0), (1, 1), (1, 2), (1, 3), (1, 4), (1, 5), (0, 7)] (fun FX => FX = F)) := by
  refine c_of_x pn_mX0_init rfl (Nat.le_of_ble_eq_true rfl) ?_
  refine (?_ : zY n0 mX0_init 59 0 0 0 [.ref 42] [] 43 [(2, 0), (2, 1), (2, 2), (2, 3), (1, 0), (1, 1), (1, 2), (1, 3), (1, 4), (1, 5), (0, 7)] F _) g σ hg hz
  refine y_of (fun _ _ h => x_aload_n dX0_init_0 rfl h) ?_
  refine y_of (fun _ _ h => x_obj dX0_init_1 lw_X0_3 tw_obj1 tw_obj2 (Nat.le_of_ble_eq_true rfl) h) ?_
  exact y_ret dX0_init_4 rfl rfl
set_option maxRecDepth 20000 in
theorem k_X0_init_43 {n0 : Nat} {F : zI} {g : zG} {σ : zI} (hg : zGp n0 44 [(2, 0), (2, 1), (2, 2), (2, 3), (1, 0), (1, 1), (1, 2), (1, 3), (1, 4), (1, 5)] g) (hz : zZp 44 F σ) : zCx mX0_init 59 [.ref 43] g σ (qP n0 44 [(2, 0), (2, 1), (2, 2), (2, 3), (1, 0), (1, 1), (1, 2), (1, 3), (1, 4), (1, 5)] (fun FX => FX = F)) := by
  refine c_of_x pn_mX0_init rfl (Nat.le_of_ble_eq_true rfl) ?_
  refine (?_ : zY n0 mX0_init 59 0 0 0 [.ref 43] [] 44 [(2, 0), (2, 1), (2, 2), (2, 3), (1, 0), (1, 1), (1, 2), (1, 3), (1, 4), (1, 5)] F _) g σ hg hz
  refine y_of (fun _ _ h => x_aload_n dX0_init_0 rfl h) ?_
  refine y_of (fun _ _ h => x_obj dX0_init_1 lw_X0_3 tw_obj1 tw_obj2 (Nat.le_of_ble_eq_true rfl) h) ?_
  exact y_ret dX0_init_4 rfl rfl
set_option maxRecDepth 20000 in
theorem k_X0_init_44 {n0 : Nat} {F : zI} {g : zG} {σ : zI} (hg : zGp n0 45 [(2, 0), (2, 1), (2, 2), (2, 3), (1, 1), (1, 2), (1, 3), (1, 4), (1, 5)] g) (hz : zZp 45 F σ) : zCx mX0_init 59 [.ref 44] g σ (qP n0 45 [(2, 0), (2, 1), (2, 2), (2, 3), (1, 1), (1, 2), (1, 3), (1, 4), (1, 5)] (fun FX => FX = F)) := by
  refine c_of_x pn_mX0_init rfl (Nat.le_of_ble_eq_true rfl) ?_
  refine (?_ : zY n0 mX0_init 59 0 0 0 [.ref 44] [] 45 [(2, 0), (2, 1), (2, 2), (2, 3), (1, 1), (1, 2), (1, 3), (1, 4), (1, 5)] F _) g σ hg hz
  refine y_of (fun _ _ h => x_aload_n dX0_init_0 rfl h) ?_
  refine y_of (fun _ _ h => x_obj dX0_init_1 lw_X0_3 tw_obj1 tw_obj2 (Nat.le_of_ble_eq_true rfl) h) ?_
  exact y_ret dX0_init_4 rfl rfl
set_option maxRecDepth 20000 in
theorem k_X0_init_45 {n0 : Nat} {F : zI} {g : zG} {σ : zI} (hg : zGp n0 46 [(2, 0), (2, 1), (2, 2), (2, 3), (1, 2), (1, 3), (1, 4), (1, 5)] g) (hz : zZp 46 F σ) : zCx mX0_init 59 [.ref 45] g σ (qP n0 46 [(2, 0), (2, 1), (2, 2), (2, 3), (1, 2), (1, 3), (1, 4), (1, 5)] (fun FX => FX = F)) := by
  refine c_of_x pn_mX0_init rfl (Nat.le_of_ble_eq_true rfl) ?_
  refine (?_ : zY n0 mX0_init 59 0 0 0 [.ref 45] [] 46 [(2, 0), (2, 1), (2, 2), (2, 3), (1, 2), (1, 3), (1, 4), (1, 5)] F _) g σ hg hz
  refine y_of (fun _ _ h => x_aload_n dX0_init_0 rfl h) ?_
  refine y_of (fun _ _ h => x_obj dX0_init_1 lw_X0_3 tw_obj1 tw_obj2 (Nat.le_of_ble_eq_true rfl) h) ?_
  exact y_ret dX0_init_4 rfl rfl
set_option maxRecDepth 20000 in
theorem k_X0_init_46 {n0 : Nat} {F : zI} {g : zG} {σ : zI} (hg : zGp n0 47 [(2, 0), (2, 1), (2, 2), (2, 3), (1, 3), (1, 4), (1, 5)] g) (hz : zZp 47 F σ) : zCx mX0_init 59 [.ref 46] g σ (qP n0 47 [(2, 0), (2, 1), (2, 2), (2, 3), (1, 3), (1, 4), (1, 5)] (fun FX => FX = F)) := by
  refine c_of_x pn_mX0_init rfl (Nat.le_of_ble_eq_true rfl) ?_
  refine (?_ : zY n0 mX0_init 59 0 0 0 [.ref 46] [] 47 [(2, 0), (2, 1), (2, 2), (2, 3), (1, 3), (1, 4), (1, 5)] F _) g σ hg hz
  refine y_of (fun _ _ h => x_aload_n dX0_init_0 rfl h) ?_
  refine y_of (fun _ _ h => x_obj dX0_init_1 lw_X0_3 tw_obj1 tw_obj2 (Nat.le_of_ble_eq_true rfl) h) ?_
  exact y_ret dX0_init_4 rfl rfl
set_option maxRecDepth 20000 in
theorem k_X0_init_47 {n0 : Nat} {F : zI} {g : zG} {σ : zI} (hg : zGp n0 48 [(2, 0), (2, 1), (2, 2), (2, 3), (1, 4), (1, 5)] g) (hz : zZp 48 F σ) : zCx mX0_init 59 [.ref 47] g σ (qP n0 48 [(2, 0), (2, 1), (2, 2), (2, 3), (1, 4), (1, 5)] (fun FX => FX = F)) := by
  refine c_of_x pn_mX0_init rfl (Nat.le_of_ble_eq_true rfl) ?_
  refine (?_ : zY n0 mX0_init 59 0 0 0 [.ref 47] [] 48 [(2, 0), (2, 1), (2, 2), (2, 3), (1, 4), (1, 5)] F _) g σ hg hz
  refine y_of (fun _ _ h => x_aload_n dX0_init_0 rfl h) ?_
  refine y_of (fun _ _ h => x_obj dX0_init_1 lw_X0_3 tw_obj1 tw_obj2 (Nat.le_of_ble_eq_true rfl) h) ?_
  exact y_ret dX0_init_4 rfl rfl
set_option maxRecDepth 20000 in
theorem k_X0_init_48 {n0 : Nat} {F : zI} {g : zG} {σ : zI} (hg : zGp n0 49 [(2, 0), (2, 1), (2, 2), (2, 3), (1, 5)] g) (hz : zZp 49 F σ) : zCx mX0_init 59 [.ref 48] g σ (qP n0 49 [(2, 0), (2, 1), (2, 2), (2, 3), (1, 5)] (fun FX => FX = F)) := by
  refine c_of_x pn_mX0_init rfl (Nat.le_of_ble_eq_true rfl) ?_
  refine (?_ : zY n0 mX0_init 59 0 0 0 [.ref 48] [] 49 [(2, 0), (2, 1), (2, 2), (2, 3), (1, 5)] F _) g σ hg hz
  refine y_of (fun _ _ h => x_aload_n dX0_init_0 rfl h) ?_
  refine y_of (fun _ _ h => x_obj dX0_init_1 lw_X0_3 tw_obj1 tw_obj2 (Nat.le_of_ble_eq_true rfl) h) ?_
  exact y_ret dX0_init_4 rfl rfl
set_option maxRecDepth 20000 in
theorem k_X5_init_49 {n0 : Nat} {F : zI} {g : zG} {σ : zI} (hg : zGp n0 50 [(49, 2), (2, 0), (2, 1), (2, 2), (2, 3)] g) (hz : zZp 50 F σ) : zCx mX5_init 59 [.ref 49] g σ (qP n0 51 [(2, 0), (2, 1), (2, 2), (2, 3)] (fun FX => FX = (zsI F 49 0 (-1)))) := by
  refine c_of_x pn_mX5_init rfl (Nat.le_of_ble_eq_true rfl) ?_
  refine (?_ : zY n0 mX5_init 59 1 40 0 [.ref 49] [] 50 [(49, 2), (2, 0), (2, 1), (2, 2), (2, 3)] F _) g σ hg hz
  refine y_of (fun _ _ h => x_aload_n dX5_init_0 rfl h) ?_
  refine y_of (fun _ _ h => x_obj dX5_init_1 lw_X5_3 tw_obj1 tw_obj2 (Nat.le_of_ble_eq_true rfl) h) ?_
  refine y_of (fun _ _ h => x_aload_n dX5_init_4 rfl h) ?_
  refine y_of (fun _ _ h => x_iconst (v := (-1)) dX5_init_5 rfl h) ?_
  refine y_putI dX5_init_6 fl_X5_9 (by decide) (by decide +kernel) rfl rfl ?_
  refine y_of (fun _ _ h => x_aload_n dX5_init_9 rfl h) ?_
  refine y_of (fun _ _ h => x_bipush (v := 40) dX5_init_10 rfl h) ?_
  refine y_newi (kc2 := 0) (ks2 := 0) (n2 := 51) (N := 40) (P2 := [(49, 2), (2, 0), (2, 1), (2, 2), (2, 3)]) dX5_init_12 (by decide) (by decide) (by decide) (by decide) rfl rfl rfl rfl rfl (by decide +kernel) (by decide +kernel) ?_
  refine y_putF (P2 := [(2, 0), (2, 1), (2, 2), (2, 3)]) dX5_init_14 fl_X5_15 rfl (by intro C T N h; cases h; rfl) (by decide +kernel) (by decide) (by decide +kernel) rfl (by decide) (by decide +kernel) (by decide +kernel) ?_
  exact y_ret dX5_init_17 rfl rfl
set_option maxRecDepth 20000 in
theorem k_X5_init_51 {n0 : Nat} {F : zI} {g : zG} {σ : zI} (hg : zGp n0 52 [(51, 2), (2, 1), (2, 2), (2, 3)] g) (hz : zZp 52 F σ) : zCx mX5_init 59 [.ref 51] g σ (qP n0 53 [(2, 1), (2, 2), (2, 3)] (fun FX => FX = (zsI F 51 0 (-1)))) := by
  refine c_of_x pn_mX5_init rfl (Nat.le_of_ble_eq_true rfl) ?_
  refine (?_ : zY n0 mX5_init 59 1 40 0 [.ref 51] [] 52 [(51, 2), (2, 1), (2, 2), (2, 3)] F _) g σ hg hz
  refine y_of (fun _ _ h => x_aload_n dX5_init_0 rfl h) ?_
  refine y_of (fun _ _ h => x_obj dX5_init_1 lw_X5_3 tw_obj1 tw_obj2 (Nat.le_of_ble_eq_true rfl) h) ?_
  refine y_of (fun _ _ h => x_aload_n dX5_init_4 rfl h) ?_
  refine y_of (fun _ _ h => x_iconst (v := (-1)) dX5_init_5 rfl h) ?_
  refine y_putI dX5_init_6 fl_X5_9 (by decide) (by decide +kernel) rfl rfl ?_
  refine y_of (fun _ _ h => x_aload_n dX5_init_9 rfl h) ?_
  refine y_of (fun _ _ h => x_bipush (v := 40) dX5_init_10 rfl h) ?_
  refine y_newi (kc2 := 0) (ks2 := 0) (n2 := 53) (N := 40) (P2 := [(51, 2), (2, 1), (2, 2), (2, 3)]) dX5_init_12 (by decide) (by decide) (by decide) (by decide) rfl rfl rfl rfl rfl (by decide +kernel) (by decide +kernel) ?_
  refine y_putF (P2 := [(2, 1), (2, 2), (2, 3)]) dX5_init_14 fl_X5_15 rfl (by intro C T N h; cases h; rfl) (by decide +kernel) (by decide) (by decide +kernel) rfl (by decide) (by decide +kernel) (by decide +kernel) ?_
  exact y_ret dX5_init_17 rfl rfl
set_option maxRecDepth 20000 in
theorem k_X5_init_53 {n0 : Nat} {F : zI} {g : zG} {σ : zI} (hg : zGp n0 54 [(53, 2), (2, 2), (2, 3)] g) (hz : zZp 54 F σ) : zCx mX5_init 59 [.ref 53] g σ (qP n0 55 [(2, 2), (2, 3)] (fun FX => FX = (zsI F 53 0 (-1)))) := by
  refine c_of_x pn_mX5_init rfl (Nat.le_of_ble_eq_true rfl) ?_
  refine (?_ : zY n0 mX5_init 59 1 40 0 [.ref 53] [] 54 [(53, 2), (2, 2), (2, 3)] F _) g σ hg hz
  refine y_of (fun _ _ h => x_aload_n dX5_init_0 rfl h) ?_
  refine y_of (fun _ _ h => x_obj dX5_init_1 lw_X5_3 tw_obj1 tw_obj2 (Nat.le_of_ble_eq_true rfl) h) ?_
  refine y_of (fun _ _ h => x_aload_n dX5_init_4 rfl h) ?_
  refine y_of (fun _ _ h => x_iconst (v := (-1)) dX5_init_5 rfl h) ?_
  refine y_putI dX5_init_6 fl_X5_9 (by decide) (by decide +kernel) rfl rfl ?_
  refine y_of (fun _ _ h => x_aload_n dX5_init_9 rfl h) ?_
  refine y_of (fun _ _ h => x_bipush (v := 40) dX5_init_10 rfl h) ?_
  refine y_newi (kc2 := 0) (ks2 := 0) (n2 := 55) (N := 40) (P2 := [(53, 2), (2, 2), (2, 3)]) dX5_init_12 (by decide) (by decide) (by decide) (by decide) rfl rfl rfl rfl rfl (by decide +kernel) (by decide +kernel) ?_
  refine y_putF (P2 := [(2, 2), (2, 3)]) dX5_init_14 fl_X5_15 rfl (by intro C T N h; cases h; rfl) (by decide +kernel) (by decide) (by decide +kernel) rfl (by decide) (by decide +kernel) (by decide +kernel) ?_
  exact y_ret dX5_init_17 rfl rfl
set_option maxRecDepth 20000 in
theorem k_X5_init_55 {n0 : Nat} {F : zI} {g : zG} {σ : zI} (hg : zGp n0 56 [(55, 2), (2, 3)] g) (hz : zZp 56 F σ) : zCx mX5_init 59 [.ref 55] g σ (qP n0 57 [(2, 3)] (fun FX => FX = (zsI F 55 0 (-1)))) := by
  refine c_of_x pn_mX5_init rfl (Nat.le_of_ble_eq_true rfl) ?_
  refine (?_ : zY n0 mX5_init 59 1 40 0 [.ref 55] [] 56 [(55, 2), (2, 3)] F _) g σ hg hz
  refine y_of (fun _ _ h => x_aload_n dX5_init_0 rfl h) ?_
  refine y_of (fun _ _ h => x_obj dX5_init_1 lw_X5_3 tw_obj1 tw_obj2 (Nat.le_of_ble_eq_true rfl) h) ?_
  refine y_of (fun _ _ h => x_aload_n dX5_init_4 rfl h) ?_
  refine y_of (fun _ _ h => x_iconst (v := (-1)) dX5_init_5 rfl h) ?_
  refine y_putI dX5_init_6 fl_X5_9 (by decide) (by decide +kernel) rfl rfl ?_
  refine y_of (fun _ _ h => x_aload_n dX5_init_9 rfl h) ?_
  refine y_of (fun _ _ h => x_bipush (v := 40) dX5_init_10 rfl h) ?_
  refine y_newi (kc2 := 0) (ks2 := 0) (n2 := 57) (N := 40) (P2 := [(55, 2), (2, 3)]) dX5_init_12 (by decide) (by decide) (by decide) (by decide) rfl rfl rfl rfl rfl (by decide +kernel) (by decide +kernel) ?_
  refine y_putF (P2 := [(2, 3)]) dX5_init_14 fl_X5_15 rfl (by intro C T N h; cases h; rfl) (by decide +kernel) (by decide) (by decide +kernel) rfl (by decide) (by decide +kernel) (by decide +kernel) ?_
  exact y_ret dX5_init_17 rfl rfl
set_option maxRecDepth 20000 in
theorem k_X7_init_0 {n0 : Nat} {g : zG} {σ : zI} (hg : zGp n0 1 [(0, 0), (0, 1), (0, 2), (0, 3), (0, 4), (0, 5), (0, 6), (0, 7)] g) (hz : zZp 1 zF0 σ) : zCx mX7_init 60 [.ref 0] g σ (qP n0 57 [] (fun FX => ∃ F0, LF F0 ∧ FX = (zsI (zsI (zsI (zsI (zsI F0 38 0 (-1)) 49 0 (-1)) 51 0 (-1)) 53 0 (-1)) 55 0 (-1)))) := by
  refine c_of_x pn_mX7_init rfl (Nat.le_of_ble_eq_true rfl) ?_
  refine (?_ : zY n0 mX7_init 60 56 1892 0 [.ref 0] [] 1 [(0, 0), (0, 1), (0, 2), (0, 3), (0, 4), (0, 5), (0, 6), (0, 7)] zF0 _) g σ hg hz
  refine y_of (fun _ _ h => x_aload_n dX7_init_0 rfl h) ?_
  refine y_of (fun _ _ h => x_obj dX7_init_1 lw_X7_3 tw_obj1 tw_obj2 (Nat.le_of_ble_eq_true rfl) h) ?_
  refine y_of (fun _ _ h => x_aload_n dX7_init_4 rfl h) ?_
  refine y_of (fun _ _ h => x_bipush (v := 6) dX7_init_5 rfl h) ?_
  refine y_anew3 (kc2 := 55) (ks2 := 1886) (n2 := 2) (N := 6) (P2 := [(1, 0), (1, 1), (1, 2), (1, 3), (1, 4), (1, 5), (0, 0), (0, 1), (0, 2), (0, 3), (0, 4), (0, 5), (0, 6), (0, 7)]) dX7_init_7 cl_X7_9 (by decide) (by decide) (by decide) (by decide) rfl rfl rfl rfl rfl (by decide +kernel) (by decide +kernel) ?_
  refine y_putF (P2 := [(1, 0), (1, 1), (1, 2), (1, 3), (1, 4), (1, 5), (0, 1), (0, 2), (0, 3), (0, 4), (0, 5), (0, 6), (0, 7)]) dX7_init_10 fl_X7_11 rfl (by intro C T N h; cases h; rfl) (by decide +kernel) (by decide) (by decide +kernel) rfl (by decide) (by decide +kernel) (by decide +kernel) ?_
  refine y_of (fun _ _ h => x_aload_n dX7_init_13 rfl h) ?_
  refine y_of (fun _ _ h => x_iconst (v := 4) dX7_init_14 rfl h) ?_
  refine y_anew4 (kc2 := 54) (ks2 := 1882) (n2 := 3) (N := 4) (P2 := [(2, 0), (2, 1), (2, 2), (2, 3), (1, 0), (1, 1), (1, 2), (1, 3), (1, 4), (1, 5), (0, 1), (0, 2), (0, 3), (0, 4), (0, 5), (0, 6), (0, 7)]) dX7_init_15 cl_X7_15 (by decide) (by decide) (by decide) (by decide) rfl rfl rfl rfl rfl (by decide +kernel) (by decide +kernel) ?_
  refine y_putF (P2 := [(2, 0), (2, 1), (2, 2), (2, 3), (1, 0), (1, 1), (1, 2), (1, 3), (1, 4), (1, 5), (0, 2), (0, 3), (0, 4), (0, 5), (0, 6), (0, 7)]) dX7_init_18 fl_X7_17 rfl (by intro C T N h; cases h; rfl) (by decide +kernel) (by decide) (by decide +kernel) rfl (by decide) (by decide +kernel) (by decide +kernel) ?_
  refine y_of (fun _ _ h => x_aload_n dX7_init_21 rfl h) ?_
  refine y_new (kc2 := 53) (ks2 := 1874) (n2 := 4) (P2 := [(3, 0), (3, 1), (3, 2), (3, 3), (3, 4), (2, 0), (2, 1), (2, 2), (2, 3), (1, 0), (1, 1), (1, 2), (1, 3), (1, 4), (1, 5), (0, 2), (0, 3), (0, 4), (0, 5), (0, 6), (0, 7)]) (ci := 2) dX7_init_22 rfl cl_X7_21 (by decide) rfl rfl rfl rfl rfl (by decide +kernel) (by decide +kernel) ?_
  refine y_of (fun _ _ h => x_dup dX7_init_25 rfl h) ?_
  refine y_callI (Y2 := mX2_init) (as := []) (S := [.ref 3, .ref 0]) (kc2 := 35) (ks2 := 646) (n2 := 22) (P2 := [(2, 0), (2, 1), (2, 2), (2, 3), (1, 0), (1, 1), (1, 2), (1, 3), (1, 4), (1, 5), (0, 2), (0, 3), (0, 4), (0, 5), (0, 6), (0, 7)]) (FP := LF) in_mX2_init dX7_init_26 lk_X7_23 mo_mX2_init rfl rfl (Nat.le_of_ble_eq_true rfl) rfl rfl rfl (fun _ _ hg hz => k_X2_init_3 hg hz) ?_
  intro F2 hF2
  refine y_putF (P2 := [(2, 0), (2, 1), (2, 2), (2, 3), (1, 0), (1, 1), (1, 2), (1, 3), (1, 4), (1, 5), (0, 3), (0, 4), (0, 5), (0, 6), (0, 7)]) dX7_init_29 fl_X7_24 rfl (by intro C T N h; cases h; rfl) (by decide +kernel) (by decide) (by decide +kernel) rfl (by decide) (by decide +kernel) (by decide +kernel) ?_
  refine y_of (fun _ _ h => x_aload_n dX7_init_32 rfl h) ?_
  refine y_new (kc2 := 34) (ks2 := 640) (n2 := 23) (P2 := [(22, 0), (22, 1), (22, 2), (22, 3), (22, 4), (22, 5), (2, 0), (2, 1), (2, 2), (2, 3), (1, 0), (1, 1), (1, 2), (1, 3), (1, 4), (1, 5), (0, 3), (0, 4), (0, 5), (0, 6), (0, 7)]) (ci := 3) dX7_init_33 rfl cl_X7_28 (by decide) rfl rfl rfl rfl rfl (by decide +kernel) (by decide +kernel) ?_
  refine y_of (fun _ _ h => x_dup dX7_init_36 rfl h) ?_
  refine y_of (fun _ _ h => x_aload_n dX7_init_37 rfl h) ?_
  refine y_getR (x := 3) dX7_init_38 fl_X7_24 (by decide) (by decide +kernel) rfl (by decide) (by decide +kernel) (by decide +kernel) ?_
  refine y_callI (Y2 := mX3_init) (as := [.ref 3]) (S := [.ref 22, .ref 0]) (kc2 := 29) (ks2 := 280) (n2 := 28) (P2 := [(2, 0), (2, 1), (2, 2), (2, 3), (1, 0), (1, 1), (1, 2), (1, 3), (1, 4), (1, 5), (0, 3), (0, 4), (0, 5), (0, 6), (0, 7)]) (FP := fun FX => FX = F2) in_mX3_init dX7_init_41 lk_X7_30 mo_mX3_init rfl rfl (Nat.le_of_ble_eq_true rfl) rfl rfl rfl (fun _ _ hg hz => k_X3_init_22 hg hz) ?_
  intro FX hFX; rw [hFX]; clear hFX FX
  refine y_putF (P2 := [(2, 0), (2, 1), (2, 2), (2, 3), (1, 0), (1, 1), (1, 2), (1, 3), (1, 4), (1, 5), (0, 4), (0, 5), (0, 6), (0, 7)]) dX7_init_44 fl_X7_33 rfl (by intro C T N h; cases h; rfl) (by decide +kernel) (by decide) (by decide +kernel) rfl (by decide) (by decide +kernel) (by decide +kernel) ?_
  refine y_of (fun _ _ h => x_aload_n dX7_init_47 rfl h) ?_
  refine y_new (kc2 := 28) (ks2 := 275) (n2 := 29) (P2 := [(28, 0), (28, 1), (28, 2), (28, 3), (2, 0), (2, 1), (2, 2), (2, 3), (1, 0), (1, 1), (1, 2), (1, 3), (1, 4), (1, 5), (0, 4), (0, 5), (0, 6), (0, 7)]) (ci := 6) dX7_init_48 rfl cl_X7_37 (by decide) rfl rfl rfl rfl rfl (by decide +kernel) (by decide +kernel) ?_
  refine y_of (fun _ _ h => x_dup dX7_init_51 rfl h) ?_
  refine y_of (fun _ _ h => x_aload_n dX7_init_52 rfl h) ?_
  refine y_getR (x := 22) dX7_init_53 fl_X7_33 (by decide) (by decide +kernel) rfl (by decide) (by decide +kernel) (by decide +kernel) ?_
  refine y_callI (Y2 := mX6_init) (as := [.ref 22]) (S := [.ref 28, .ref 0]) (kc2 := 19) (ks2 := 221) (n2 := 38) (P2 := [(2, 0), (2, 1), (2, 2), (2, 3), (1, 0), (1, 1), (1, 2), (1, 3), (1, 4), (1, 5), (0, 4), (0, 5), (0, 6), (0, 7)]) (FP := fun FX => FX = F2) in_mX6_init dX7_init_56 lk_X7_39 mo_mX6_init rfl rfl (Nat.le_of_ble_eq_true rfl) rfl rfl rfl (fun _ _ hg hz => k_X6_init_28 hg hz) ?_
  intro FX hFX; rw [hFX]; clear hFX FX
  refine y_putF (P2 := [(2, 0), (2, 1), (2, 2), (2, 3), (1, 0), (1, 1), (1, 2), (1, 3), (1, 4), (1, 5), (0, 5), (0, 6), (0, 7)]) dX7_init_59 fl_X7_42 rfl (by intro C T N h; cases h; rfl) (by decide +kernel) (by decide) (by decide +kernel) rfl (by decide) (by decide +kernel) (by decide +kernel) ?_
  refine y_of (fun _ _ h => x_aload_n dX7_init_62 rfl h) ?_
  refine y_new (kc2 := 18) (ks2 := 216) (n2 := 39) (P2 := [(38, 3), (38, 4), (2, 0), (2, 1), (2, 2), (2, 3), (1, 0), (1, 1), (1, 2), (1, 3), (1, 4), (1, 5), (0, 5), (0, 6), (0, 7)]) (ci := 1) dX7_init_63 rfl cl_X7_46 (by decide) rfl rfl rfl rfl rfl (by decide +kernel) (by decide +kernel) ?_
  refine y_of (fun _ _ h => x_dup dX7_init_66 rfl h) ?_
  refine y_callI (Y2 := mX1_init) (as := []) (S := [.ref 38, .ref 0]) (kc2 := 16) (ks2 := 204) (n2 := 41) (P2 := [(2, 0), (2, 1), (2, 2), (2, 3), (1, 0), (1, 1), (1, 2), (1, 3), (1, 4), (1, 5), (0, 5), (0, 6), (0, 7)]) (FP := fun FX => FX = (zsI F2 38 0 (-1))) in_mX1_init dX7_init_67 lk_X7_48 mo_mX1_init rfl rfl (Nat.le_of_ble_eq_true rfl) rfl rfl rfl (fun _ _ hg hz => k_X1_init_38 hg hz) ?_
  intro FX hFX; rw [hFX]; clear hFX FX
  refine y_putF (P2 := [(2, 0), (2, 1), (2, 2), (2, 3), (1, 0), (1, 1), (1, 2), (1, 3), (1, 4), (1, 5), (0, 6), (0, 7)]) dX7_init_70 fl_X7_49 rfl (by intro C T N h; cases h; rfl) (by decide +kernel) (by decide) (by decide +kernel) rfl (by decide) (by decide +kernel) (by decide +kernel) ?_
  refine y_of (fun _ _ h => x_aload_n dX7_init_73 rfl h) ?_
  refine y_new (kc2 := 15) (ks2 := 200) (n2 := 42) (P2 := [(2, 0), (2, 1), (2, 2), (2, 3), (1, 0), (1, 1), (1, 2), (1, 3), (1, 4), (1, 5), (0, 6), (0, 7)]) (ci := 0) dX7_init_74 rfl cl_X7_9 (by decide) rfl rfl rfl rfl rfl (by decide +kernel) (by decide +kernel) ?_
  refine y_of (fun _ _ h => x_dup dX7_init_77 rfl h) ?_
  refine y_callI (Y2 := mX0_init) (as := []) (S := [.ref 41, .ref 0]) (kc2 := 15) (ks2 := 200) (n2 := 42) (P2 := [(2, 0), (2, 1), (2, 2), (2, 3), (1, 0), (1, 1), (1, 2), (1, 3), (1, 4), (1, 5), (0, 6), (0, 7)]) (FP := fun FX => FX = (zsI F2 38 0 (-1))) in_mX0_init dX7_init_78 lk_X7_53 mo_mX0_init rfl rfl (Nat.le_of_ble_eq_true rfl) rfl rfl rfl (fun _ _ hg hz => k_X0_init_41 hg hz) ?_
  intro FX hFX; rw [hFX]; clear hFX FX
  refine y_putF (P2 := [(2, 0), (2, 1), (2, 2), (2, 3), (1, 0), (1, 1), (1, 2), (1, 3), (1, 4), (1, 5), (0, 7)]) dX7_init_81 fl_X7_54 rfl (by intro C T N h; cases h; rfl) (by decide +kernel) (by decide) (by decide +kernel) rfl (by decide) (by decide +kernel) (by decide +kernel) ?_
  refine y_of (fun _ _ h => x_aload_n dX7_init_84 rfl h) ?_
  refine y_new (kc2 := 14) (ks2 := 196) (n2 := 43) (P2 := [(2, 0), (2, 1), (2, 2), (2, 3), (1, 0), (1, 1), (1, 2), (1, 3), (1, 4), (1, 5), (0, 7)]) (ci := 0) dX7_init_85 rfl cl_X7_9 (by decide) rfl rfl rfl rfl rfl (by decide +kernel) (by decide +kernel) ?_
  refine y_of (fun _ _ h => x_dup dX7_init_88 rfl h) ?_
  refine y_callI (Y2 := mX0_init) (as := []) (S := [.ref 42, .ref 0]) (kc2 := 14) (ks2 := 196) (n2 := 43) (P2 := [(2, 0), (2, 1), (2, 2), (2, 3), (1, 0), (1, 1), (1, 2), (1, 3), (1, 4), (1, 5), (0, 7)]) (FP := fun FX => FX = (zsI F2 38 0 (-1))) in_mX0_init dX7_init_89 lk_X7_53 mo_mX0_init rfl rfl (Nat.le_of_ble_eq_true rfl) rfl rfl rfl (fun _ _ hg hz => k_X0_init_42 hg hz) ?_
  intro FX hFX; rw [hFX]; clear hFX FX
  refine y_putF (P2 := [(2, 0), (2, 1), (2, 2), (2, 3), (1, 0), (1, 1), (1, 2), (1, 3), (1, 4), (1, 5)]) dX7_init_92 fl_X7_58 rfl (by intro C T N h; cases h; rfl) (by decide +kernel) (by decide) (by decide +kernel) rfl (by decide) (by decide +kernel) (by decide +kernel) ?_
  refine y_of (fun _ _ h => x_iconst (v := 0) dX7_init_95 rfl h) ?_
  refine y_of (fun _ _ h => x_istore_n dX7_init_96 rfl (Nat.le_of_ble_eq_true rfl) (L2 := [_, _]) rfl h) ?_
  refine y_of (fun _ _ h => x_iload_n dX7_init_97 rfl h) ?_
  refine y_of (fun _ _ h => x_bipush (v := 6) dX7_init_98 rfl h) ?_
  refine y_of (fun _ _ h => x_icmp_ge (tgt := 122) dX7_init_100 rfl (fun q => absurd (show (6 : Int32) ≤ 0 from q) (by decide)) (fun _ => h)) ?_
  refine y_of (fun _ _ h => x_aload_n dX7_init_103 rfl h) ?_
  refine y_getR (x := 1) dX7_init_104 fl_X7_11 (by decide) (by decide +kernel) rfl (by decide) (by decide +kernel) (by decide +kernel) ?_
  refine y_of (fun _ _ h => x_iload_n dX7_init_107 rfl h) ?_
  refine y_new (kc2 := 13) (ks2 := 192) (n2 := 44) (P2 := [(2, 0), (2, 1), (2, 2), (2, 3), (1, 0), (1, 1), (1, 2), (1, 3), (1, 4), (1, 5)]) (ci := 0) dX7_init_108 rfl cl_X7_9 (by decide) rfl rfl rfl rfl rfl (by decide +kernel) (by decide +kernel) ?_
  refine y_of (fun _ _ h => x_dup dX7_init_111 rfl h) ?_
  refine y_callI (Y2 := mX0_init) (as := []) (S := [.ref 43, .int 0, .ref 1]) (kc2 := 13) (ks2 := 192) (n2 := 44) (P2 := [(2, 0), (2, 1), (2, 2), (2, 3), (1, 0), (1, 1), (1, 2), (1, 3), (1, 4), (1, 5)]) (FP := fun FX => FX = (zsI F2 38 0 (-1))) in_mX0_init dX7_init_112 lk_X7_53 mo_mX0_init rfl rfl (Nat.le_of_ble_eq_true rfl) rfl rfl rfl (fun _ _ hg hz => k_X0_init_43 hg hz) ?_
  intro FX hFX; rw [hFX]; clear hFX FX
  refine y_aast3 (m := 6) (P2 := [(2, 0), (2, 1), (2, 2), (2, 3), (1, 1), (1, 2), (1, 3), (1, 4), (1, 5)]) dX7_init_115 (by decide) (by decide +kernel) (zvp rfl) (by decide) (by decide +kernel) (by decide +kernel) (by decide +kernel) ?_
  refine y_of (fun _ _ h => x_iinc dX7_init_116 rfl (v := 1) (by decide) rfl (Nat.le_of_ble_eq_true rfl) (L2 := [_, _]) rfl h) ?_
  refine y_of (fun _ _ h => x_goto (tgt := 97) dX7_init_119 rfl h) ?_
  refine y_of (fun _ _ h => x_iload_n dX7_init_97 rfl h) ?_
  refine y_of (fun _ _ h => x_bipush (v := 6) dX7_init_98 rfl h) ?_
  refine y_of (fun _ _ h => x_icmp_ge (tgt := 122) dX7_init_100 rfl (fun q => absurd (show (6 : Int32) ≤ 1 from q) (by decide)) (fun _ => h)) ?_
  refine y_of (fun _ _ h => x_aload_n dX7_init_103 rfl h) ?_
  refine y_getR (x := 1) dX7_init_104 fl_X7_11 (by decide) (by decide +kernel) rfl (by decide) (by decide +kernel) (by decide +kernel) ?_
  refine y_of (fun _ _ h => x_iload_n dX7_init_107 rfl h) ?_
  refine y_new (kc2 := 12) (ks2 := 188) (n2 := 45) (P2 := [(2, 0), (2, 1), (2, 2), (2, 3), (1, 1), (1, 2), (1, 3), (1, 4), (1, 5)]) (ci := 0) dX7_init_108 rfl cl_X7_9 (by decide) rfl rfl rfl rfl rfl (by decide +kernel) (by decide +kernel) ?_
  refine y_of (fun _ _ h => x_dup dX7_init_111 rfl h) ?_
  refine y_callI (Y2 := mX0_init) (as := []) (S := [.ref 44, .int 1, .ref 1]) (kc2 := 12) (ks2 := 188) (n2 := 45) (P2 := [(2, 0), (2, 1), (2, 2), (2, 3), (1, 1), (1, 2), (1, 3), (1, 4), (1, 5)]) (FP := fun FX => FX = (zsI F2 38 0 (-1))) in_mX0_init dX7_init_112 lk_X7_53 mo_mX0_init rfl rfl (Nat.le_of_ble_eq_true rfl) rfl rfl rfl (fun _ _ hg hz => k_X0_init_44 hg hz) ?_
  intro FX hFX; rw [hFX]; clear hFX FX
  refine y_aast3 (m := 6) (P2 := [(2, 0), (2, 1), (2, 2), (2, 3), (1, 2), (1, 3), (1, 4), (1, 5)]) dX7_init_115 (by decide) (by decide +kernel) (zvp rfl) (by decide) (by decide +kernel) (by decide +kernel) (by decide +kernel) ?_
  refine y_of (fun _ _ h => x_iinc dX7_init_116 rfl (v := 2) (by decide) rfl (Nat.le_of_ble_eq_true rfl) (L2 := [_, _]) rfl h) ?_
  refine y_of (fun _ _ h => x_goto (tgt := 97) dX7_init_119 rfl h) ?_
  refine y_of (fun _ _ h => x_iload_n dX7_init_97 rfl h) ?_
  refine y_of (fun _ _ h => x_bipush (v := 6) dX7_init_98 rfl h) ?_
  refine y_of (fun _ _ h => x_icmp_ge (tgt := 122) dX7_init_100 rfl (fun q => absurd (show (6 : Int32) ≤ 2 from q) (by decide)) (fun _ => h)) ?_
  refine y_of (fun _ _ h => x_aload_n dX7_init_103 rfl h) ?_
  refine y_getR (x := 1) dX7_init_104 fl_X7_11 (by decide) (by decide +kernel) rfl (by decide) (by decide +kernel) (by decide +kernel) ?_
  refine y_of (fun _ _ h => x_iload_n dX7_init_107 rfl h) ?_
  refine y_new (kc2 := 11) (ks2 := 184) (n2 := 46) (P2 := [(2, 0), (2, 1), (2, 2), (2, 3), (1, 2), (1, 3), (1, 4), (1, 5)]) (ci := 0) dX7_init_108 rfl cl_X7_9 (by decide) rfl rfl rfl rfl rfl (by decide +kernel) (by decide +kernel) ?_
  refine y_of (fun _ _ h => x_dup dX7_init_111 rfl h) ?_
  refine y_callI (Y2 := mX0_init) (as := []) (S := [.ref 45, .int 2, .ref 1]) (kc2 := 11) (ks2 := 184) (n2 := 46) (P2 := [(2, 0), (2, 1), (2, 2), (2, 3), (1, 2), (1, 3), (1, 4), (1, 5)]) (FP := fun FX => FX = (zsI F2 38 0 (-1))) in_mX0_init dX7_init_112 lk_X7_53 mo_mX0_init rfl rfl (Nat.le_of_ble_eq_true rfl) rfl rfl rfl (fun _ _ hg hz => k_X0_init_45 hg hz) ?_
  intro FX hFX; rw [hFX]; clear hFX FX
  refine y_aast3 (m := 6) (P2 := [(2, 0), (2, 1), (2, 2), (2, 3), (1, 3), (1, 4), (1, 5)]) dX7_init_115 (by decide) (by decide +kernel) (zvp rfl) (by decide) (by decide +kernel) (by decide +kernel) (by decide +kernel) ?_
  refine y_of (fun _ _ h => x_iinc dX7_init_116 rfl (v := 3) (by decide) rfl (Nat.le_of_ble_eq_true rfl) (L2 := [_, _]) rfl h) ?_
  refine y_of (fun _ _ h => x_goto (tgt := 97) dX7_init_119 rfl h) ?_
  refine y_of (fun _ _ h => x_iload_n dX7_init_97 rfl h) ?_
  refine y_of (fun _ _ h => x_bipush (v := 6) dX7_init_98 rfl h) ?_
  refine y_of (fun _ _ h => x_icmp_ge (tgt := 122) dX7_init_100 rfl (fun q => absurd (show (6 : Int32) ≤ 3 from q) (by decide)) (fun _ => h)) ?_
  refine y_of (fun _ _ h => x_aload_n dX7_init_103 rfl h) ?_
  refine y_getR (x := 1) dX7_init_104 fl_X7_11 (by decide) (by decide +kernel) rfl (by decide) (by decide +kernel) (by decide +kernel) ?_
  refine y_of (fun _ _ h => x_iload_n dX7_init_107 rfl h) ?_
  refine y_new (kc2 := 10) (ks2 := 180) (n2 := 47) (P2 := [(2, 0), (2, 1), (2, 2), (2, 3), (1, 3), (1, 4), (1, 5)]) (ci := 0) dX7_init_108 rfl cl_X7_9 (by decide) rfl rfl rfl rfl rfl (by decide +kernel) (by decide +kernel) ?_
  refine y_of (fun _ _ h => x_dup dX7_init_111 rfl h) ?_
  refine y_callI (Y2 := mX0_init) (as := []) (S := [.ref 46, .int 3, .ref 1]) (kc2 := 10) (ks2 := 180) (n2 := 47) (P2 := [(2, 0), (2, 1), (2, 2), (2, 3), (1, 3), (1, 4), (1, 5)]) (FP := fun FX => FX = (zsI F2 38 0 (-1))) in_mX0_init dX7_init_112 lk_X7_53 mo_mX0_init rfl rfl (Nat.le_of_ble_eq_true rfl) rfl rfl rfl (fun _ _ hg hz => k_X0_init_46 hg hz) ?_
  intro FX hFX; rw [hFX]; clear hFX FX
  refine y_aast3 (m := 6) (P2 := [(2, 0), (2, 1), (2, 2), (2, 3), (1, 4), (1, 5)]) dX7_init_115 (by decide) (by decide +kernel) (zvp rfl) (by decide) (by decide +kernel) (by decide +kernel) (by decide +kernel) ?_
  refine y_of (fun _ _ h => x_iinc dX7_init_116 rfl (v := 4) (by decide) rfl (Nat.le_of_ble_eq_true rfl) (L2 := [_, _]) rfl h) ?_
  refine y_of (fun _ _ h => x_goto (tgt := 97) dX7_init_119 rfl h) ?_
  refine y_of (fun _ _ h => x_iload_n dX7_init_97 rfl h) ?_
  refine y_of (fun _ _ h => x_bipush (v := 6) dX7_init_98 rfl h) ?_
  refine y_of (fun _ _ h => x_icmp_ge (tgt := 122) dX7_init_100 rfl (fun q => absurd (show (6 : Int32) ≤ 4 from q) (by decide)) (fun _ => h)) ?_
  refine y_of (fun _ _ h => x_aload_n dX7_init_103 rfl h) ?_
  refine y_getR (x := 1) dX7_init_104 fl_X7_11 (by decide) (by decide +kernel) rfl (by decide) (by decide +kernel) (by decide +kernel) ?_
  refine y_of (fun _ _ h => x_iload_n dX7_init_107 rfl h) ?_
  refine y_new (kc2 := 9) (ks2 := 176) (n2 := 48) (P2 := [(2, 0), (2, 1), (2, 2), (2, 3), (1, 4), (1, 5)]) (ci := 0) dX7_init_108 rfl cl_X7_9 (by decide) rfl rfl rfl rfl rfl (by decide +kernel) (by decide +kernel) ?_
  refine y_of (fun _ _ h => x_dup dX7_init_111 rfl h) ?_
  refine y_callI (Y2 := mX0_init) (as := []) (S := [.ref 47, .int 4, .ref 1]) (kc2 := 9) (ks2 := 176) (n2 := 48) (P2 := [(2, 0), (2, 1), (2, 2), (2, 3), (1, 4), (1, 5)]) (FP := fun FX => FX = (zsI F2 38 0 (-1))) in_mX0_init dX7_init_112 lk_X7_53 mo_mX0_init rfl rfl (Nat.le_of_ble_eq_true rfl) rfl rfl rfl (fun _ _ hg hz => k_X0_init_47 hg hz) ?_
  intro FX hFX; rw [hFX]; clear hFX FX
  refine y_aast3 (m := 6) (P2 := [(2, 0), (2, 1), (2, 2), (2, 3), (1, 5)]) dX7_init_115 (by decide) (by decide +kernel) (zvp rfl) (by decide) (by decide +kernel) (by decide +kernel) (by decide +kernel) ?_
  refine y_of (fun _ _ h => x_iinc dX7_init_116 rfl (v := 5) (by decide) rfl (Nat.le_of_ble_eq_true rfl) (L2 := [_, _]) rfl h) ?_
  refine y_of (fun _ _ h => x_goto (tgt := 97) dX7_init_119 rfl h) ?_
  refine y_of (fun _ _ h => x_iload_n dX7_init_97 rfl h) ?_
  refine y_of (fun _ _ h => x_bipush (v := 6) dX7_init_98 rfl h) ?_
  refine y_of (fun _ _ h => x_icmp_ge (tgt := 122) dX7_init_100 rfl (fun q => absurd (show (6 : Int32) ≤ 5 from q) (by decide)) (fun _ => h)) ?_
  refine y_of (fun _ _ h => x_aload_n dX7_init_103 rfl h) ?_
  refine y_getR (x := 1) dX7_init_104 fl_X7_11 (by decide) (by decide +kernel) rfl (by decide) (by decide +kernel) (by decide +kernel) ?_
  refine y_of (fun _ _ h => x_iload_n dX7_init_107 rfl h) ?_
  refine y_new (kc2 := 8) (ks2 := 172) (n2 := 49) (P2 := [(2, 0), (2, 1), (2, 2), (2, 3), (1, 5)]) (ci := 0) dX7_init_108 rfl cl_X7_9 (by decide) rfl rfl rfl rfl rfl (by decide +kernel) (by decide +kernel) ?_
  refine y_of (fun _ _ h => x_dup dX7_init_111 rfl h) ?_
  refine y_callI (Y2 := mX0_init) (as := []) (S := [.ref 48, .int 5, .ref 1]) (kc2 := 8) (ks2 := 172) (n2 := 49) (P2 := [(2, 0), (2, 1), (2, 2), (2, 3), (1, 5)]) (FP := fun FX => FX = (zsI F2 38 0 (-1))) in_mX0_init dX7_init_112 lk_X7_53 mo_mX0_init rfl rfl (Nat.le_of_ble_eq_true rfl) rfl rfl rfl (fun _ _ hg hz => k_X0_init_48 hg hz) ?_
  intro FX hFX; rw [hFX]; clear hFX FX
  refine y_aast3 (m := 6) (P2 := [(2, 0), (2, 1), (2, 2), (2, 3)]) dX7_init_115 (by decide) (by decide +kernel) (zvp rfl) (by decide) (by decide +kernel) (by decide +kernel) (by decide +kernel) ?_
  refine y_of (fun _ _ h => x_iinc dX7_init_116 rfl (v := 6) (by decide) rfl (Nat.le_of_ble_eq_true rfl) (L2 := [_, _]) rfl h) ?_
  refine y_of (fun _ _ h => x_goto (tgt := 97) dX7_init_119 rfl h) ?_
  refine y_of (fun _ _ h => x_iload_n dX7_init_97 rfl h) ?_
  refine y_of (fun _ _ h => x_bipush (v := 6) dX7_init_98 rfl h) ?_
  refine y_of (fun _ _ h => x_icmp_ge (tgt := 122) dX7_init_100 rfl (fun _ => h) (fun q => absurd (show (6 : Int32) ≤ 6 by decide) q)) ?_
  refine y_of (fun _ _ h => x_iconst (v := 0) dX7_init_122 rfl h) ?_
  refine y_of (fun _ _ h => x_istore_n dX7_init_123 rfl (Nat.le_of_ble_eq_true rfl) (L2 := [_, _]) rfl h) ?_
  refine y_of (fun _ _ h => x_iload_n dX7_init_124 rfl h) ?_
  refine y_of (fun _ _ h => x_iconst (v := 4) dX7_init_125 rfl h) ?_
  refine y_of (fun _ _ h => x_icmp_ge (tgt := 148) dX7_init_126 rfl (fun q => absurd (show (4 : Int32) ≤ 0 from q) (by decide)) (fun _ => h)) ?_
  refine y_of (fun _ _ h => x_aload_n dX7_init_129 rfl h) ?_
  refine y_getR (x := 2) dX7_init_130 fl_X7_17 (by decide) (by decide +kernel) rfl (by decide) (by decide +kernel) (by decide +kernel) ?_
  refine y_of (fun _ _ h => x_iload_n dX7_init_133 rfl h) ?_
  refine y_new (kc2 := 7) (ks2 := 169) (n2 := 50) (P2 := [(49, 2), (2, 0), (2, 1), (2, 2), (2, 3)]) (ci := 5) dX7_init_134 rfl cl_X7_15 (by decide) rfl rfl rfl rfl rfl (by decide +kernel) (by decide +kernel) ?_
  refine y_of (fun _ _ h => x_dup dX7_init_137 rfl h) ?_
  refine y_callI (Y2 := mX5_init) (as := []) (S := [.ref 49, .int 0, .ref 2]) (kc2 := 6) (ks2 := 129) (n2 := 51) (P2 := [(2, 0), (2, 1), (2, 2), (2, 3)]) (FP := fun FX => FX = (zsI (zsI F2 38 0 (-1)) 49 0 (-1))) in_mX5_init dX7_init_138 lk_X7_61 mo_mX5_init rfl rfl (Nat.le_of_ble_eq_true rfl) rfl rfl rfl (fun _ _ hg hz => k_X5_init_49 hg hz) ?_
  intro FX hFX; rw [hFX]; clear hFX FX
  refine y_aast4 (m := 4) (P2 := [(2, 1), (2, 2), (2, 3)]) dX7_init_141 (by decide) (by decide +kernel) (zvp rfl) (by decide) (by decide +kernel) (by decide +kernel) (by decide +kernel) ?_
  refine y_of (fun _ _ h => x_iinc dX7_init_142 rfl (v := 1) (by decide) rfl (Nat.le_of_ble_eq_true rfl) (L2 := [_, _]) rfl h) ?_
  refine y_of (fun _ _ h => x_goto (tgt := 124) dX7_init_145 rfl h) ?_
  refine y_of (fun _ _ h => x_iload_n dX7_init_124 rfl h) ?_
  refine y_of (fun _ _ h => x_iconst (v := 4) dX7_init_125 rfl h) ?_
  refine y_of (fun _ _ h => x_icmp_ge (tgt := 148) dX7_init_126 rfl (fun q => absurd (show (4 : Int32) ≤ 1 from q) (by decide)) (fun _ => h)) ?_
  refine y_of (fun _ _ h => x_aload_n dX7_init_129 rfl h) ?_
  refine y_getR (x := 2) dX7_init_130 fl_X7_17 (by decide) (by decide +kernel) rfl (by decide) (by decide +kernel) (by decide +kernel) ?_
  refine y_of (fun _ _ h => x_iload_n dX7_init_133 rfl h) ?_
  refine y_new (kc2 := 5) (ks2 := 126) (n2 := 52) (P2 := [(51, 2), (2, 1), (2, 2), (2, 3)]) (ci := 5) dX7_init_134 rfl cl_X7_15 (by decide) rfl rfl rfl rfl rfl (by decide +kernel) (by decide +kernel) ?_
  refine y_of (fun _ _ h => x_dup dX7_init_137 rfl h) ?_
  refine y_callI (Y2 := mX5_init) (as := []) (S := [.ref 51, .int 1, .ref 2]) (kc2 := 4) (ks2 := 86) (n2 := 53) (P2 := [(2, 1), (2, 2), (2, 3)]) (FP := fun FX => FX = (zsI (zsI (zsI F2 38 0 (-1)) 49 0 (-1)) 51 0 (-1))) in_mX5_init dX7_init_138 lk_X7_61 mo_mX5_init rfl rfl (Nat.le_of_ble_eq_true rfl) rfl rfl rfl (fun _ _ hg hz => k_X5_init_51 hg hz) ?_
  intro FX hFX; rw [hFX]; clear hFX FX
  refine y_aast4 (m := 4) (P2 := [(2, 2), (2, 3)]) dX7_init_141 (by decide) (by decide +kernel) (zvp rfl) (by decide) (by decide +kernel) (by decide +kernel) (by decide +kernel) ?_
  refine y_of (fun _ _ h => x_iinc dX7_init_142 rfl (v := 2) (by decide) rfl (Nat.le_of_ble_eq_true rfl) (L2 := [_, _]) rfl h) ?_
  refine y_of (fun _ _ h => x_goto (tgt := 124) dX7_init_145 rfl h) ?_
  refine y_of (fun _ _ h => x_iload_n dX7_init_124 rfl h) ?_
  refine y_of (fun _ _ h => x_iconst (v := 4) dX7_init_125 rfl h) ?_
  refine y_of (fun _ _ h => x_icmp_ge (tgt := 148) dX7_init_126 rfl (fun q => absurd (show (4 : Int32) ≤ 2 from q) (by decide)) (fun _ => h)) ?_
  refine y_of (fun _ _ h => x_aload_n dX7_init_129 rfl h) ?_
  refine y_getR (x := 2) dX7_init_130 fl_X7_17 (by decide) (by decide +kernel) rfl (by decide) (by decide +kernel) (by decide +kernel) ?_
  refine y_of (fun _ _ h => x_iload_n dX7_init_133 rfl h) ?_
  refine y_new (kc2 := 3) (ks2 := 83) (n2 := 54) (P2 := [(53, 2), (2, 2), (2, 3)]) (ci := 5) dX7_init_134 rfl cl_X7_15 (by decide) rfl rfl rfl rfl rfl (by decide +kernel) (by decide +kernel) ?_
  refine y_of (fun _ _ h => x_dup dX7_init_137 rfl h) ?_
  refine y_callI (Y2 := mX5_init) (as := []) (S := [.ref 53, .int 2, .ref 2]) (kc2 := 2) (ks2 := 43) (n2 := 55) (P2 := [(2, 2), (2, 3)]) (FP := fun FX => FX = (zsI (zsI (zsI (zsI F2 38 0 (-1)) 49 0 (-1)) 51 0 (-1)) 53 0 (-1))) in_mX5_init dX7_init_138 lk_X7_61 mo_mX5_init rfl rfl (Nat.le_of_ble_eq_true rfl) rfl rfl rfl (fun _ _ hg hz => k_X5_init_53 hg hz) ?_
  intro FX hFX; rw [hFX]; clear hFX FX
  refine y_aast4 (m := 4) (P2 := [(2, 3)]) dX7_init_141 (by decide) (by decide +kernel) (zvp rfl) (by decide) (by decide +kernel) (by decide +kernel) (by decide +kernel) ?_
  refine y_of (fun _ _ h => x_iinc dX7_init_142 rfl (v := 3) (by decide) rfl (Nat.le_of_ble_eq_true rfl) (L2 := [_, _]) rfl h) ?_
  refine y_of (fun _ _ h => x_goto (tgt := 124) dX7_init_145 rfl h) ?_
  refine y_of (fun _ _ h => x_iload_n dX7_init_124 rfl h) ?_
  refine y_of (fun _ _ h => x_iconst (v := 4) dX7_init_125 rfl h) ?_
  refine y_of (fun _ _ h => x_icmp_ge (tgt := 148) dX7_init_126 rfl (fun q => absurd (show (4 : Int32) ≤ 3 from q) (by decide)) (fun _ => h)) ?_
  refine y_of (fun _ _ h => x_aload_n dX7_init_129 rfl h) ?_
  refine y_getR (x := 2) dX7_init_130 fl_X7_17 (by decide) (by decide +kernel) rfl (by decide) (by decide +kernel) (by decide +kernel) ?_
  refine y_of (fun _ _ h => x_iload_n dX7_init_133 rfl h) ?_
  refine y_new (kc2 := 1) (ks2 := 40) (n2 := 56) (P2 := [(55, 2), (2, 3)]) (ci := 5) dX7_init_134 rfl cl_X7_15 (by decide) rfl rfl rfl rfl rfl (by decide +kernel) (by decide +kernel) ?_
  refine y_of (fun _ _ h => x_dup dX7_init_137 rfl h) ?_
  refine y_callI (Y2 := mX5_init) (as := []) (S := [.ref 55, .int 3, .ref 2]) (kc2 := 0) (ks2 := 0) (n2 := 57) (P2 := [(2, 3)]) (FP := fun FX => FX = (zsI (zsI (zsI (zsI (zsI F2 38 0 (-1)) 49 0 (-1)) 51 0 (-1)) 53 0 (-1)) 55 0 (-1))) in_mX5_init dX7_init_138 lk_X7_61 mo_mX5_init rfl rfl (Nat.le_of_ble_eq_true rfl) rfl rfl rfl (fun _ _ hg hz => k_X5_init_55 hg hz) ?_
  intro FX hFX; rw [hFX]; clear hFX FX
  refine y_aast4 (m := 4) (P2 := []) dX7_init_141 (by decide) (by decide +kernel) (zvp rfl) (by decide) (by decide +kernel) (by decide +kernel) (by decide +kernel) ?_
  refine y_of (fun _ _ h => x_iinc dX7_init_142 rfl (v := 4) (by decide) rfl (Nat.le_of_ble_eq_true rfl) (L2 := [_, _]) rfl h) ?_
  refine y_of (fun _ _ h => x_goto (tgt := 124) dX7_init_145 rfl h) ?_
  refine y_of (fun _ _ h => x_iload_n dX7_init_124 rfl h) ?_
  refine y_of (fun _ _ h => x_iconst (v := 4) dX7_init_125 rfl h) ?_
  refine y_of (fun _ _ h => x_icmp_ge (tgt := 148) dX7_init_126 rfl (fun _ => h) (fun q => absurd (show (4 : Int32) ≤ 4 by decide) q)) ?_
  exact y_ret dX7_init_148 rfl ⟨_, hF2, rfl⟩
set_option maxRecDepth 20000 in
theorem k_X8_init_57 {n0 : Nat} {F : zI} (h57 : F 57 12 = nI 0) {g : zG} {σ : zI} (hg : zGp n0 58 [(57, 2), (57, 3), (57, 4), (57, 7), (57, 9), (57, 10), (57, 11), (57, 18), (57, 24), (57, 25), (57, 26), (57, 27), (57, 28), (57, 29), (57, 30), (57, 31), (57, 34), (57, 35), (57, 36), (57, 37), (57, 38)] g) (hz : zZp 58 F σ) : zCx mX8_init 60 [.ref 57] g σ (qP n0 79 [] (fun FX => FX = (zsI (zsI (zsI (zsI (zsI (zsI (zsI (zsI (zsI (zsI (zsI (zsI (zsI (zsI (zsI (zsI (zsI F 75 0 (-1)) 75 1 (-1)) 75 2 (-1)) 75 3 (-1)) 62 0 0) 63 0 1) 57 12 (nI 1)) 64 0 16) 62 1 1) 63 1 1) 57 12 (nI 2)) 64 1 16) 62 2 2) 63 2 1) 57 12 (nI 3)) 64 2 0) 57 8 1))) := by
  refine c_of_x pn_mX8_init rfl (Nat.le_of_ble_eq_true rfl) ?_
  refine (?_ : zY n0 mX8_init 60 21 4181 0 [.ref 57] [] 58 [(57, 2), (57, 3), (57, 4), (57, 7), (57, 9), (57, 10), (57, 11), (57, 18), (57, 24), (57, 25), (57, 26), (57, 27), (57, 28), (57, 29), (57, 30), (57, 31), (57, 34), (57, 35), (57, 36), (57, 37), (57, 38)] F _) g σ hg hz
  refine y_of (fun _ _ h => x_aload_n dX8_init_0 rfl h) ?_
  refine y_of (fun _ _ h => x_obj dX8_init_1 lw_X8_1 tw_obj1 tw_obj2 (Nat.le_of_ble_eq_true rfl) h) ?_
  refine y_of (fun _ _ h => x_aload_n dX8_init_4 rfl h) ?_
  refine y_of (fun _ _ h => x_bipush (v := 6) dX8_init_5 rfl h) ?_
  refine y_newi (kc2 := 20) (ks2 := 4175) (n2 := 59) (N := 6) (P2 := [(57, 2), (57, 3), (57, 4), (57, 7), (57, 9), (57, 10), (57, 11), (57, 18), (57, 24), (57, 25), (57, 26), (57, 27), (57, 28), (57, 29), (57, 30), (57, 31), (57, 34), (57, 35), (57, 36), (57, 37), (57, 38)]) dX8_init_7 (by decide) (by decide) (by decide) (by decide) rfl rfl rfl rfl rfl (by decide +kernel) (by decide +kernel) ?_
  refine y_putF (P2 := [(57, 3), (57, 4), (57, 7), (57, 9), (57, 10), (57, 11), (57, 18), (57, 24), (57, 25), (57, 26), (57, 27), (57, 28), (57, 29), (57, 30), (57, 31), (57, 34), (57, 35), (57, 36), (57, 37), (57, 38)]) dX8_init_9 fl_X8_7 rfl (by intro C T N h; cases h; rfl) (by decide +kernel) (by decide) (by decide +kernel) rfl (by decide) (by decide +kernel) (by decide +kernel) ?_
  refine y_of (fun _ _ h => x_aload_n dX8_init_12 rfl h) ?_
  refine y_of (fun _ _ h => x_bipush (v := 6) dX8_init_13 rfl h) ?_
  refine y_newi (kc2 := 19) (ks2 := 4169) (n2 := 60) (N := 6) (P2 := [(57, 3), (57, 4), (57, 7), (57, 9), (57, 10), (57, 11), (57, 18), (57, 24), (57, 25), (57, 26), (57, 27), (57, 28), (57, 29), (57, 30), (57, 31), (57, 34), (57, 35), (57, 36), (57, 37), (57, 38)]) dX8_init_15 (by decide) (by decide) (by decide) (by decide) rfl rfl rfl rfl rfl (by decide +kernel) (by decide +kernel) ?_
  refine y_putF (P2 := [(57, 4), (57, 7), (57, 9), (57, 10), (57, 11), (57, 18), (57, 24), (57, 25), (57, 26), (57, 27), (57, 28), (57, 29), (57, 30), (57, 31), (57, 34), (57, 35), (57, 36), (57, 37), (57, 38)]) dX8_init_17 fl_X8_13 rfl (by intro C T N h; cases h; rfl) (by decide +kernel) (by decide) (by decide +kernel) rfl (by decide) (by decide +kernel) (by decide +kernel) ?_
  refine y_of (fun _ _ h => x_aload_n dX8_init_20 rfl h) ?_
  refine y_of (fun _ _ h => x_bipush (v := 6) dX8_init_21 rfl h) ?_
  refine y_newi (kc2 := 18) (ks2 := 4163) (n2 := 61) (N := 6) (P2 := [(57, 4), (57, 7), (57, 9), (57, 10), (57, 11), (57, 18), (57, 24), (57, 25), (57, 26), (57, 27), (57, 28), (57, 29), (57, 30), (57, 31), (57, 34), (57, 35), (57, 36), (57, 37), (57, 38)]) dX8_init_23 (by decide) (by decide) (by decide) (by decide) rfl rfl rfl rfl rfl (by decide +kernel) (by decide +kernel) ?_
  refine y_putF (P2 := [(57, 7), (57, 9), (57, 10), (57, 11), (57, 18), (57, 24), (57, 25), (57, 26), (57, 27), (57, 28), (57, 29), (57, 30), (57, 31), (57, 34), (57, 35), (57, 36), (57, 37), (57, 38)]) dX8_init_25 fl_X8_16 rfl (by intro C T N h; cases h; rfl) (by decide +kernel) (by decide) (by decide +kernel) rfl (by decide) (by decide +kernel) (by decide +kernel) ?_
  refine y_of (fun _ _ h => x_aload_n dX8_init_28 rfl h) ?_
  refine y_of (fun _ _ h => x_sipush (v := 160) dX8_init_29 rfl h) ?_
  refine y_newi (kc2 := 17) (ks2 := 4003) (n2 := 62) (N := 160) (P2 := [(57, 7), (57, 9), (57, 10), (57, 11), (57, 18), (57, 24), (57, 25), (57, 26), (57, 27), (57, 28), (57, 29), (57, 30), (57, 31), (57, 34), (57, 35), (57, 36), (57, 37), (57, 38)]) dX8_init_32 (by decide) (by decide) (by decide) (by decide) rfl rfl rfl rfl rfl (by decide +kernel) (by decide +kernel) ?_
  refine y_putF (P2 := [(57, 9), (57, 10), (57, 11), (57, 18), (57, 24), (57, 25), (57, 26), (57, 27), (57, 28), (57, 29), (57, 30), (57, 31), (57, 34), (57, 35), (57, 36), (57, 37), (57, 38)]) dX8_init_34 fl_X8_19 rfl (by intro C T N h; cases h; rfl) (by decide +kernel) (by decide) (by decide +kernel) rfl (by decide) (by decide +kernel) (by decide +kernel) ?_
  refine y_of (fun _ _ h => x_aload_n dX8_init_37 rfl h) ?_
  refine y_of (fun _ _ h => x_bipush (v := 18) dX8_init_38 rfl h) ?_
  refine y_newi (kc2 := 16) (ks2 := 3985) (n2 := 63) (N := 18) (P2 := [(57, 9), (57, 10), (57, 11), (57, 18), (57, 24), (57, 25), (57, 26), (57, 27), (57, 28), (57, 29), (57, 30), (57, 31), (57, 34), (57, 35), (57, 36), (57, 37), (57, 38)]) dX8_init_40 (by decide) (by decide) (by decide) (by decide) rfl rfl rfl rfl rfl (by decide +kernel) (by decide +kernel) ?_
  refine y_putF (P2 := [(57, 10), (57, 11), (57, 18), (57, 24), (57, 25), (57, 26), (57, 27), (57, 28), (57, 29), (57, 30), (57, 31), (57, 34), (57, 35), (57, 36), (57, 37), (57, 38)]) dX8_init_42 fl_X8_22 rfl (by intro C T N h; cases h; rfl) (by decide +kernel) (by decide) (by decide +kernel) rfl (by decide) (by decide +kernel) (by decide +kernel) ?_
  refine y_of (fun _ _ h => x_aload_n dX8_init_45 rfl h) ?_
  refine y_of (fun _ _ h => x_bipush (v := 18) dX8_init_46 rfl h) ?_
  refine y_newi (kc2 := 15) (ks2 := 3967) (n2 := 64) (N := 18) (P2 := [(57, 10), (57, 11), (57, 18), (57, 24), (57, 25), (57, 26), (57, 27), (57, 28), (57, 29), (57, 30), (57, 31), (57, 34), (57, 35), (57, 36), (57, 37), (57, 38)]) dX8_init_48 (by decide) (by decide) (by decide) (by decide) rfl rfl rfl rfl rfl (by decide +kernel) (by decide +kernel) ?_
  refine y_putF (P2 := [(57, 11), (57, 18), (57, 24), (57, 25), (57, 26), (57, 27), (57, 28), (57, 29), (57, 30), (57, 31), (57, 34), (57, 35), (57, 36), (57, 37), (57, 38)]) dX8_init_50 fl_X8_25 rfl (by intro C T N h; cases h; rfl) (by decide +kernel) (by decide) (by decide +kernel) rfl (by decide) (by decide +kernel) (by decide +kernel) ?_
  refine y_of (fun _ _ h => x_aload_n dX8_init_53 rfl h) ?_
  refine y_of (fun _ _ h => x_sipush (v := 3000) dX8_init_54 rfl h) ?_
  refine y_newi (kc2 := 14) (ks2 := 967) (n2 := 65) (N := 3000) (P2 := [(57, 11), (57, 18), (57, 24), (57, 25), (57, 26), (57, 27), (57, 28), (57, 29), (57, 30), (57, 31), (57, 34), (57, 35), (57, 36), (57, 37), (57, 38)]) dX8_init_57 (by decide) (by decide) (by decide) (by decide) rfl rfl rfl rfl rfl (by decide +kernel) (by decide +kernel) ?_
  refine y_putF (P2 := [(57, 18), (57, 24), (57, 25), (57, 26), (57, 27), (57, 28), (57, 29), (57, 30), (57, 31), (57, 34), (57, 35), (57, 36), (57, 37), (57, 38)]) dX8_init_59 fl_X8_28 rfl (by intro C T N h; cases h; rfl) (by decide +kernel) (by decide) (by decide +kernel) rfl (by decide) (by decide +kernel) (by decide +kernel) ?_
  refine y_of (fun _ _ h => x_aload_n dX8_init_62 rfl h) ?_
  refine y_of (fun _ _ h => x_sipush (v := 200) dX8_init_63 rfl h) ?_
  refine y_newi (kc2 := 13) (ks2 := 767) (n2 := 66) (N := 200) (P2 := [(57, 18), (57, 24), (57, 25), (57, 26), (57, 27), (57, 28), (57, 29), (57, 30), (57, 31), (57, 34), (57, 35), (57, 36), (57, 37), (57, 38)]) dX8_init_66 (by decide) (by decide) (by decide) (by decide) rfl rfl rfl rfl rfl (by decide +kernel) (by decide +kernel) ?_
  refine y_putF (P2 := [(57, 24), (57, 25), (57, 26), (57, 27), (57, 28), (57, 29), (57, 30), (57, 31), (57, 34), (57, 35), (57, 36), (57, 37), (57, 38)]) dX8_init_68 fl_X8_31 rfl (by intro C T N h; cases h; rfl) (by decide +kernel) (by decide) (by decide +kernel) rfl (by decide) (by decide +kernel) (by decide +kernel) ?_
  refine y_of (fun _ _ h => x_aload_n dX8_init_71 rfl h) ?_
  refine y_of (fun _ _ h => x_sipush (v := 200) dX8_init_72 rfl h) ?_
  refine y_newi (kc2 := 12) (ks2 := 567) (n2 := 67) (N := 200) (P2 := [(57, 24), (57, 25), (57, 26), (57, 27), (57, 28), (57, 29), (57, 30), (57, 31), (57, 34), (57, 35), (57, 36), (57, 37), (57, 38)]) dX8_init_75 (by decide) (by decide) (by decide) (by decide) rfl rfl rfl rfl rfl (by decide +kernel) (by decide +kernel) ?_
  refine y_putF (P2 := [(57, 25), (57, 26), (57, 27), (57, 28), (57, 29), (57, 30), (57, 31), (57, 34), (57, 35), (57, 36), (57, 37), (57, 38)]) dX8_init_77 fl_X8_34 rfl (by intro C T N h; cases h; rfl) (by decide +kernel) (by decide) (by decide +kernel) rfl (by decide) (by decide +kernel) (by decide +kernel) ?_
  refine y_of (fun _ _ h => x_aload_n dX8_init_80 rfl h) ?_
  refine y_of (fun _ _ h => x_bipush (v := 31) dX8_init_81 rfl h) ?_
  refine y_newi (kc2 := 11) (ks2 := 536) (n2 := 68) (N := 31) (P2 := [(57, 25), (57, 26), (57, 27), (57, 28), (57, 29), (57, 30), (57, 31), (57, 34), (57, 35), (57, 36), (57, 37), (57, 38)]) dX8_init_83 (by decide) (by decide) (by decide) (by decide) rfl rfl rfl rfl rfl (by decide +kernel) (by decide +kernel) ?_
  refine y_putF (P2 := [(57, 26), (57, 27), (57, 28), (57, 29), (57, 30), (57, 31), (57, 34), (57, 35), (57, 36), (57, 37), (57, 38)]) dX8_init_85 fl_X8_37 rfl (by intro C T N h; cases h; rfl) (by decide +kernel) (by decide) (by decide +kernel) rfl (by decide) (by decide +kernel) (by decide +kernel) ?_
  refine y_of (fun _ _ h => x_aload_n dX8_init_88 rfl h) ?_
  refine y_of (fun _ _ h => x_bipush (v := 100) dX8_init_89 rfl h) ?_
  refine y_newi (kc2 := 10) (ks2 := 436) (n2 := 69) (N := 100) (P2 := [(57, 26), (57, 27), (57, 28), (57, 29), (57, 30), (57, 31), (57, 34), (57, 35), (57, 36), (57, 37), (57, 38)]) dX8_init_91 (by decide) (by decide) (by decide) (by decide) rfl rfl rfl rfl rfl (by decide +kernel) (by decide +kernel) ?_
  refine y_putF (P2 := [(57, 27), (57, 28), (57, 29), (57, 30), (57, 31), (57, 34), (57, 35), (57, 36), (57, 37), (57, 38)]) dX8_init_93 fl_X8_40 rfl (by intro C T N h; cases h; rfl) (by decide +kernel) (by decide) (by decide +kernel) rfl (by decide) (by decide +kernel) (by decide +kernel) ?_
  refine y_of (fun _ _ h => x_aload_n dX8_init_96 rfl h) ?_
  refine y_of (fun _ _ h => x_bipush (v := 100) dX8_init_97 rfl h) ?_
  refine y_newi (kc2 := 9) (ks2 := 336) (n2 := 70) (N := 100) (P2 := [(57, 27), (57, 28), (57, 29), (57, 30), (57, 31), (57, 34), (57, 35), (57, 36), (57, 37), (57, 38)]) dX8_init_99 (by decide) (by decide) (by decide) (by decide) rfl rfl rfl rfl rfl (by decide +kernel) (by decide +kernel) ?_
  refine y_putF (P2 := [(57, 28), (57, 29), (57, 30), (57, 31), (57, 34), (57, 35), (57, 36), (57, 37), (57, 38)]) dX8_init_101 fl_X8_43 rfl (by intro C T N h; cases h; rfl) (by decide +kernel) (by decide) (by decide +kernel) rfl (by decide) (by decide +kernel) (by decide +kernel) ?_
  refine y_of (fun _ _ h => x_aload_n dX8_init_104 rfl h) ?_
  refine y_of (fun _ _ h => x_bipush (v := 100) dX8_init_105 rfl h) ?_
  refine y_newz (kc2 := 8) (ks2 := 236) (n2 := 71) (N := 100) (P2 := [(57, 28), (57, 29), (57, 30), (57, 31), (57, 34), (57, 35), (57, 36), (57, 37), (57, 38)]) dX8_init_107 (by decide) (by decide) (by decide) (by decide) rfl rfl rfl rfl rfl (by decide +kernel) (by decide +kernel) ?_
  refine y_putF (P2 := [(57, 29), (57, 30), (57, 31), (57, 34), (57, 35), (57, 36), (57, 37), (57, 38)]) dX8_init_109 fl_X8_46 rfl (by intro C T N h; cases h; rfl) (by decide +kernel) (by decide) (by decide +kernel) rfl (by decide) (by decide +kernel) (by decide +kernel) ?_
  refine y_of (fun _ _ h => x_aload_n dX8_init_112 rfl h) ?_
  refine y_of (fun _ _ h => x_bipush (v := 36) dX8_init_113 rfl h) ?_
  refine y_newi (kc2 := 7) (ks2 := 200) (n2 := 72) (N := 36) (P2 := [(57, 29), (57, 30), (57, 31), (57, 34), (57, 35), (57, 36), (57, 37), (57, 38)]) dX8_init_115 (by decide) (by decide) (by decide) (by decide) rfl rfl rfl rfl rfl (by decide +kernel) (by decide +kernel) ?_
  refine y_putF (P2 := [(57, 30), (57, 31), (57, 34), (57, 35), (57, 36), (57, 37), (57, 38)]) dX8_init_117 fl_X8_50 rfl (by intro C T N h; cases h; rfl) (by decide +kernel) (by decide) (by decide +kernel) rfl (by decide) (by decide +kernel) (by decide +kernel) ?_
  refine y_of (fun _ _ h => x_aload_n dX8_init_120 rfl h) ?_
  refine y_of (fun _ _ h => x_bipush (v := 6) dX8_init_121 rfl h) ?_
  refine y_newi (kc2 := 6) (ks2 := 194) (n2 := 73) (N := 6) (P2 := [(57, 30), (57, 31), (57, 34), (57, 35), (57, 36), (57, 37), (57, 38)]) dX8_init_123 (by decide) (by decide) (by decide) (by decide) rfl rfl rfl rfl rfl (by decide +kernel) (by decide +kernel) ?_
  refine y_putF (P2 := [(57, 31), (57, 34), (57, 35), (57, 36), (57, 37), (57, 38)]) dX8_init_125 fl_X8_53 rfl (by intro C T N h; cases h; rfl) (by decide +kernel) (by decide) (by decide +kernel) rfl (by decide) (by decide +kernel) (by decide +kernel) ?_
  refine y_of (fun _ _ h => x_aload_n dX8_init_128 rfl h) ?_
  refine y_of (fun _ _ h => x_bipush (v := 6) dX8_init_129 rfl h) ?_
  refine y_newi (kc2 := 5) (ks2 := 188) (n2 := 74) (N := 6) (P2 := [(57, 31), (57, 34), (57, 35), (57, 36), (57, 37), (57, 38)]) dX8_init_131 (by decide) (by decide) (by decide) (by decide) rfl rfl rfl rfl rfl (by decide +kernel) (by decide +kernel) ?_
  refine y_putF (P2 := [(57, 34), (57, 35), (57, 36), (57, 37), (57, 38)]) dX8_init_133 fl_X8_56 rfl (by intro C T N h; cases h; rfl) (by decide +kernel) (by decide) (by decide +kernel) rfl (by decide) (by decide +kernel) (by decide +kernel) ?_
  refine y_of (fun _ _ h => x_aload_n dX8_init_136 rfl h) ?_
  refine y_of (fun _ _ h => x_bipush (v := 14) dX8_init_137 rfl h) ?_
  refine y_newi (kc2 := 4) (ks2 := 174) (n2 := 75) (N := 14) (P2 := [(57, 34), (57, 35), (57, 36), (57, 37), (57, 38)]) dX8_init_139 (by decide) (by decide) (by decide) (by decide) rfl rfl rfl rfl rfl (by decide +kernel) (by decide +kernel) ?_
  refine y_putF (P2 := [(57, 35), (57, 36), (57, 37), (57, 38)]) dX8_init_141 fl_X8_59 rfl (by intro C T N h; cases h; rfl) (by decide +kernel) (by decide) (by decide +kernel) rfl (by decide) (by decide +kernel) (by decide +kernel) ?_
  refine y_of (fun _ _ h => x_aload_n dX8_init_144 rfl h) ?_
  refine y_of (fun _ _ h => x_iconst (v := 4) dX8_init_145 rfl h) ?_
  refine y_newi (kc2 := 3) (ks2 := 170) (n2 := 76) (N := 4) (P2 := [(57, 35), (57, 36), (57, 37), (57, 38)]) dX8_init_146 (by decide) (by decide) (by decide) (by decide) rfl rfl rfl rfl rfl (by decide +kernel) (by decide +kernel) ?_
  refine y_putF (P2 := [(57, 36), (57, 37), (57, 38)]) dX8_init_148 fl_X8_62 rfl (by intro C T N h; cases h; rfl) (by decide +kernel) (by decide) (by decide +kernel) rfl (by decide) (by decide +kernel) (by decide +kernel) ?_
  refine y_of (fun _ _ h => x_aload_n dX8_init_151 rfl h) ?_
  refine y_of (fun _ _ h => x_iconst (v := 4) dX8_init_152 rfl h) ?_
  refine y_newi (kc2 := 2) (ks2 := 166) (n2 := 77) (N := 4) (P2 := [(57, 36), (57, 37), (57, 38)]) dX8_init_153 (by decide) (by decide) (by decide) (by decide) rfl rfl rfl rfl rfl (by decide +kernel) (by decide +kernel) ?_
  refine y_putF (P2 := [(57, 37), (57, 38)]) dX8_init_155 fl_X8_65 rfl (by intro C T N h; cases h; rfl) (by decide +kernel) (by decide) (by decide +kernel) rfl (by decide) (by decide +kernel) (by decide +kernel) ?_
  refine y_of (fun _ _ h => x_aload_n dX8_init_158 rfl h) ?_
  refine y_of (fun _ _ h => x_sipush (v := 160) dX8_init_159 rfl h) ?_
  refine y_newi (kc2 := 1) (ks2 := 6) (n2 := 78) (N := 160) (P2 := [(57, 37), (57, 38)]) dX8_init_162 (by decide) (by decide) (by decide) (by decide) rfl rfl rfl rfl rfl (by decide +kernel) (by decide +kernel) ?_
  refine y_putF (P2 := [(57, 38)]) dX8_init_164 fl_X8_68 rfl (by intro C T N h; cases h; rfl) (by decide +kernel) (by decide) (by decide +kernel) rfl (by decide) (by decide +kernel) (by decide +kernel) ?_
  refine y_of (fun _ _ h => x_aload_n dX8_init_167 rfl h) ?_
  refine y_of (fun _ _ h => x_bipush (v := 6) dX8_init_168 rfl h) ?_
  refine y_newi (kc2 := 0) (ks2 := 0) (n2 := 79) (N := 6) (P2 := [(57, 38)]) dX8_init_170 (by decide) (by decide) (by decide) (by decide) rfl rfl rfl rfl rfl (by decide +kernel) (by decide +kernel) ?_
  refine y_putF (P2 := []) dX8_init_172 fl_X8_71 rfl (by intro C T N h; cases h; rfl) (by decide +kernel) (by decide) (by decide +kernel) rfl (by decide) (by decide +kernel) (by decide +kernel) ?_
  refine y_of (fun _ _ h => x_iconst (v := 0) dX8_init_175 rfl h) ?_
  refine y_of (fun _ _ h => x_istore_n dX8_init_176 rfl (Nat.le_of_ble_eq_true rfl) (L2 := [_, _]) rfl h) ?_
  refine y_of (fun _ _ h => x_iload_n dX8_init_177 rfl h) ?_
  refine y_of (fun _ _ h => x_iconst (v := 4) dX8_init_178 rfl h) ?_
  refine y_of (fun _ _ h => x_icmp_ge (tgt := 195) dX8_init_179 rfl (fun q => absurd (show (4 : Int32) ≤ 0 from q) (by decide)) (fun _ => h)) ?_
  refine y_of (fun _ _ h => x_aload_n dX8_init_182 rfl h) ?_
  refine y_getR (x := 75) dX8_init_183 fl_X8_62 (by decide) (by decide +kernel) rfl (by decide) (by decide +kernel) (by decide +kernel) ?_
  refine y_of (fun _ _ h => x_iload_n dX8_init_186 rfl h) ?_
  refine y_of (fun _ _ h => x_iconst (v := (-1)) dX8_init_187 rfl h) ?_
  refine y_iastk (k := 0) (m := 4) dX8_init_188 (by decide) (by decide +kernel) (zvp rfl) (by decide) ?_
  refine y_of (fun _ _ h => x_iinc dX8_init_189 rfl (v := 1) (by decide) rfl (Nat.le_of_ble_eq_true rfl) (L2 := [_, _]) rfl h) ?_
  refine y_of (fun _ _ h => x_goto (tgt := 177) dX8_init_192 rfl h) ?_
  refine y_of (fun _ _ h => x_iload_n dX8_init_177 rfl h) ?_
  refine y_of (fun _ _ h => x_iconst (v := 4) dX8_init_178 rfl h) ?_
  refine y_of (fun _ _ h => x_icmp_ge (tgt := 195) dX8_init_179 rfl (fun q => absurd (show (4 : Int32) ≤ 1 from q) (by decide)) (fun _ => h)) ?_
  refine y_of (fun _ _ h => x_aload_n dX8_init_182 rfl h) ?_
  refine y_getR (x := 75) dX8_init_183 fl_X8_62 (by decide) (by decide +kernel) rfl (by decide) (by decide +kernel) (by decide +kernel) ?_
  refine y_of (fun _ _ h => x_iload_n dX8_init_186 rfl h) ?_
  refine y_of (fun _ _ h => x_iconst (v := (-1)) dX8_init_187 rfl h) ?_
  refine y_iastk (k := 1) (m := 4) dX8_init_188 (by decide) (by decide +kernel) (zvp rfl) (by decide) ?_
  refine y_of (fun _ _ h => x_iinc dX8_init_189 rfl (v := 2) (by decide) rfl (Nat.le_of_ble_eq_true rfl) (L2 := [_, _]) rfl h) ?_
  refine y_of (fun _ _ h => x_goto (tgt := 177) dX8_init_192 rfl h) ?_
  refine y_of (fun _ _ h => x_iload_n dX8_init_177 rfl h) ?_
  refine y_of (fun _ _ h => x_iconst (v := 4) dX8_init_178 rfl h) ?_
  refine y_of (fun _ _ h => x_icmp_ge (tgt := 195) dX8_init_179 rfl (fun q => absurd (show (4 : Int32) ≤ 2 from q) (by decide)) (fun _ => h)) ?_
  refine y_of (fun _ _ h => x_aload_n dX8_init_182 rfl h) ?_
  refine y_getR (x := 75) dX8_init_183 fl_X8_62 (by decide) (by decide +kernel) rfl (by decide) (by decide +kernel) (by decide +kernel) ?_
  refine y_of (fun _ _ h => x_iload_n dX8_init_186 rfl h) ?_
  refine y_of (fun _ _ h => x_iconst (v := (-1)) dX8_init_187 rfl h) ?_
  refine y_iastk (k := 2) (m := 4) dX8_init_188 (by decide) (by decide +kernel) (zvp rfl) (by decide) ?_
  refine y_of (fun _ _ h => x_iinc dX8_init_189 rfl (v := 3) (by decide) rfl (Nat.le_of_ble_eq_true rfl) (L2 := [_, _]) rfl h) ?_
  refine y_of (fun _ _ h => x_goto (tgt := 177) dX8_init_192 rfl h) ?_
  refine y_of (fun _ _ h => x_iload_n dX8_init_177 rfl h) ?_
  refine y_of (fun _ _ h => x_iconst (v := 4) dX8_init_178 rfl h) ?_
  refine y_of (fun _ _ h => x_icmp_ge (tgt := 195) dX8_init_179 rfl (fun q => absurd (show (4 : Int32) ≤ 3 from q) (by decide)) (fun _ => h)) ?_
  refine y_of (fun _ _ h => x_aload_n dX8_init_182 rfl h) ?_
  refine y_getR (x := 75) dX8_init_183 fl_X8_62 (by decide) (by decide +kernel) rfl (by decide) (by decide +kernel) (by decide +kernel) ?_
  refine y_of (fun _ _ h => x_iload_n dX8_init_186 rfl h) ?_
  refine y_of (fun _ _ h => x_iconst (v := (-1)) dX8_init_187 rfl h) ?_
  refine y_iastk (k := 3) (m := 4) dX8_init_188 (by decide) (by decide +kernel) (zvp rfl) (by decide) ?_
  refine y_of (fun _ _ h => x_iinc dX8_init_189 rfl (v := 4) (by decide) rfl (Nat.le_of_ble_eq_true rfl) (L2 := [_, _]) rfl h) ?_
  refine y_of (fun _ _ h => x_goto (tgt := 177) dX8_init_192 rfl h) ?_
  refine y_of (fun _ _ h => x_iload_n dX8_init_177 rfl h) ?_
  refine y_of (fun _ _ h => x_iconst (v := 4) dX8_init_178 rfl h) ?_
  refine y_of (fun _ _ h => x_icmp_ge (tgt := 195) dX8_init_179 rfl (fun _ => h) (fun q => absurd (show (4 : Int32) ≤ 4 by decide) q)) ?_
  refine y_of (fun _ _ h => x_iconst (v := 0) dX8_init_195 rfl h) ?_
  refine y_of (fun _ _ h => x_istore_n dX8_init_196 rfl (Nat.le_of_ble_eq_true rfl) (L2 := [_, _]) rfl h) ?_
  refine y_of (fun _ _ h => x_iload_n dX8_init_197 rfl h) ?_
  refine y_of (fun _ _ h => x_iconst (v := 3) dX8_init_198 rfl h) ?_
  refine y_of (fun _ _ h => x_icmp_ge (tgt := 237) dX8_init_199 rfl (fun q => absurd (show (3 : Int32) ≤ 0 from q) (by decide)) (fun _ => h)) ?_
  refine y_of (fun _ _ h => x_aload_n dX8_init_202 rfl h) ?_
  refine y_getR (x := 62) dX8_init_203 fl_X8_22 (by decide) (by decide +kernel) rfl (by decide) (by decide +kernel) (by decide +kernel) ?_
  refine y_of (fun _ _ h => x_iload_n dX8_init_206 rfl h) ?_
  refine y_of (fun _ _ h => x_iload_n dX8_init_207 rfl h) ?_
  refine y_iastk (k := 0) (m := 18) dX8_init_208 (by decide) (by decide +kernel) (zvp rfl) (by decide) ?_
  refine y_of (fun _ _ h => x_aload_n dX8_init_209 rfl h) ?_
  refine y_getR (x := 63) dX8_init_210 fl_X8_25 (by decide) (by decide +kernel) rfl (by decide) (by decide +kernel) (by decide +kernel) ?_
  refine y_of (fun _ _ h => x_iload_n dX8_init_213 rfl h) ?_
  refine y_of (fun _ _ h => x_iconst (v := 1) dX8_init_214 rfl h) ?_
  refine y_iastk (k := 0) (m := 18) dX8_init_215 (by decide) (by decide +kernel) (zvp rfl) (by decide) ?_
  refine y_of (fun _ _ h => x_aload_n dX8_init_216 rfl h) ?_
  refine y_of (fun _ _ h => x_iload_n dX8_init_217 rfl h) ?_
  refine y_of (fun _ _ h => x_iconst (v := 2) dX8_init_218 rfl h) ?_
  refine y_of (fun _ _ h => x_icmp_ge (tgt := 227) dX8_init_219 rfl (fun q => absurd (show (2 : Int32) ≤ 0 from q) (by decide)) (fun _ => h)) ?_
  refine y_of (fun _ _ h => x_bipush (v := 16) dX8_init_222 rfl h) ?_
  refine y_of (fun _ _ h => x_goto (tgt := 228) dX8_init_224 rfl h) ?_
  refine y_codes (c := 0) (by decide) h57 ?_
  refine y_of (fun _ _ h => x_iinc dX8_init_231 rfl (v := 1) (by decide) rfl (Nat.le_of_ble_eq_true rfl) (L2 := [_, _]) rfl h) ?_
  refine y_of (fun _ _ h => x_goto (tgt := 197) dX8_init_234 rfl h) ?_
  refine y_of (fun _ _ h => x_iload_n dX8_init_197 rfl h) ?_
  refine y_of (fun _ _ h => x_iconst (v := 3) dX8_init_198 rfl h) ?_
  refine y_of (fun _ _ h => x_icmp_ge (tgt := 237) dX8_init_199 rfl (fun q => absurd (show (3 : Int32) ≤ 1 from q) (by decide)) (fun _ => h)) ?_
  refine y_of (fun _ _ h => x_aload_n dX8_init_202 rfl h) ?_
  refine y_getR (x := 62) dX8_init_203 fl_X8_22 (by decide) (by decide +kernel) rfl (by decide) (by decide +kernel) (by decide +kernel) ?_
  refine y_of (fun _ _ h => x_iload_n dX8_init_206 rfl h) ?_
  refine y_of (fun _ _ h => x_iload_n dX8_init_207 rfl h) ?_
  refine y_iastk (k := 1) (m := 18) dX8_init_208 (by decide) (by decide +kernel) (zvp rfl) (by decide) ?_
  refine y_of (fun _ _ h => x_aload_n dX8_init_209 rfl h) ?_
  refine y_getR (x := 63) dX8_init_210 fl_X8_25 (by decide) (by decide +kernel) rfl (by decide) (by decide +kernel) (by decide +kernel) ?_
  refine y_of (fun _ _ h => x_iload_n dX8_init_213 rfl h) ?_
  refine y_of (fun _ _ h => x_iconst (v := 1) dX8_init_214 rfl h) ?_
  refine y_iastk (k := 1) (m := 18) dX8_init_215 (by decide) (by decide +kernel) (zvp rfl) (by decide) ?_
  refine y_of (fun _ _ h => x_aload_n dX8_init_216 rfl h) ?_
  refine y_of (fun _ _ h => x_iload_n dX8_init_217 rfl h) ?_
  refine y_of (fun _ _ h => x_iconst (v := 2) dX8_init_218 rfl h) ?_
  refine y_of (fun _ _ h => x_icmp_ge (tgt := 227) dX8_init_219 rfl (fun q => absurd (show (2 : Int32) ≤ 1 from q) (by decide)) (fun _ => h)) ?_
  refine y_of (fun _ _ h => x_bipush (v := 16) dX8_init_222 rfl h) ?_
  refine y_of (fun _ _ h => x_goto (tgt := 228) dX8_init_224 rfl h) ?_
  refine y_codes (c := 1) (by decide) rfl ?_
  refine y_of (fun _ _ h => x_iinc dX8_init_231 rfl (v := 2) (by decide) rfl (Nat.le_of_ble_eq_true rfl) (L2 := [_, _]) rfl h) ?_
  refine y_of (fun _ _ h => x_goto (tgt := 197) dX8_init_234 rfl h) ?_
  refine y_of (fun _ _ h => x_iload_n dX8_init_197 rfl h) ?_
  refine y_of (fun _ _ h => x_iconst (v := 3) dX8_init_198 rfl h) ?_
  refine y_of (fun _ _ h => x_icmp_ge (tgt := 237) dX8_init_199 rfl (fun q => absurd (show (3 : Int32) ≤ 2 from q) (by decide)) (fun _ => h)) ?_
  refine y_of (fun _ _ h => x_aload_n dX8_init_202 rfl h) ?_
  refine y_getR (x := 62) dX8_init_203 fl_X8_22 (by decide) (by decide +kernel) rfl (by decide) (by decide +kernel) (by decide +kernel) ?_
  refine y_of (fun _ _ h => x_iload_n dX8_init_206 rfl h) ?_
  refine y_of (fun _ _ h => x_iload_n dX8_init_207 rfl h) ?_
  refine y_iastk (k := 2) (m := 18) dX8_init_208 (by decide) (by decide +kernel) (zvp rfl) (by decide) ?_
  refine y_of (fun _ _ h => x_aload_n dX8_init_209 rfl h) ?_
  refine y_getR (x := 63) dX8_init_210 fl_X8_25 (by decide) (by decide +kernel) rfl (by decide) (by decide +kernel) (by decide +kernel) ?_
  refine y_of (fun _ _ h => x_iload_n dX8_init_213 rfl h) ?_
  refine y_of (fun _ _ h => x_iconst (v := 1) dX8_init_214 rfl h) ?_
  refine y_iastk (k := 2) (m := 18) dX8_init_215 (by decide) (by decide +kernel) (zvp rfl) (by decide) ?_
  refine y_of (fun _ _ h => x_aload_n dX8_init_216 rfl h) ?_
  refine y_of (fun _ _ h => x_iload_n dX8_init_217 rfl h) ?_
  refine y_of (fun _ _ h => x_iconst (v := 2) dX8_init_218 rfl h) ?_
  refine y_of (fun _ _ h => x_icmp_ge (tgt := 227) dX8_init_219 rfl (fun _ => h) (fun q => absurd (show (2 : Int32) ≤ 2 by decide) q)) ?_
  refine y_of (fun _ _ h => x_iconst (v := 0) dX8_init_227 rfl h) ?_
  refine y_codes (c := 2) (by decide) rfl ?_
  refine y_of (fun _ _ h => x_iinc dX8_init_231 rfl (v := 3) (by decide) rfl (Nat.le_of_ble_eq_true rfl) (L2 := [_, _]) rfl h) ?_
  refine y_of (fun _ _ h => x_goto (tgt := 197) dX8_init_234 rfl h) ?_
  refine y_of (fun _ _ h => x_iload_n dX8_init_197 rfl h) ?_
  refine y_of (fun _ _ h => x_iconst (v := 3) dX8_init_198 rfl h) ?_
  refine y_of (fun _ _ h => x_icmp_ge (tgt := 237) dX8_init_199 rfl (fun _ => h) (fun q => absurd (show (3 : Int32) ≤ 3 by decide) q)) ?_
  refine y_of (fun _ _ h => x_aload_n dX8_init_237 rfl h) ?_
  refine y_of (fun _ _ h => x_iconst (v := 1) dX8_init_238 rfl h) ?_
  refine y_putI dX8_init_239 fl_X8_78 (by decide) (by decide +kernel) rfl rfl ?_
  exact y_ret dX8_init_242 rfl rfl
