set_option maxRecDepth 20000 in
theorem s_X2_readText {d : Nat} {g : zG} {σ : zI} {K : Int32 → zI → Prop} (hg : zGL g)  (h : (if ((σ 3 5) < 0 : Prop) then K 0 σ else (if ((σ 3 5) < 6 : Prop) then vp_in (σ 3 5) 6 ∧ vp_in (σ 3 5) 6 ∧ zCI mX4_read d [.ref 4, .ref (7 + ((σ 3 5 : Int32).toNatClampNeg)), .ref (14 + ((σ 3 5 : Int32).toNatClampNeg))] g σ (fun v1 σ1 => (if (v1 = (-1) : Prop) then K v1 (zsI σ1 3 5 ((σ1 3 5) + 1)) else K v1 σ1)) else K 0 σ))) : zCI mX2_readText (d + 1) [.ref 3] g σ K := by
  refine c_of_x pn_mX2_readText rfl (Nat.le_of_ble_eq_true rfl) ?_
  change zX _ _ 0 0 0 [.ref 3] [] g σ _
  refine x_aload_n dX2_readText_0 rfl ?_
  refine x_getI dX2_readText_1 fl_X2_52 (gL_3 hg) rfl ?_
  refine x_if_lt (tgt := 16) dX2_readText_4 rfl (fun q1 => ?_) (fun q1 => ?_)
  · replace h := itT q1 h
    refine x_iconst (v := 0) dX2_readText_16 rfl ?_
    exact x_iret (S := []) dX2_readText_17 rfl rfl ⟨_, rfl, rfl, h⟩
  · replace h := itF q1 h
    refine x_aload_n dX2_readText_7 rfl ?_
    refine x_getI dX2_readText_8 fl_X2_52 (gL_3 hg) rfl ?_
    refine x_bipush (v := 6) dX2_readText_11 rfl ?_
    refine x_icmp_lt (tgt := 18) dX2_readText_13 rfl (fun q2 => ?_) (fun q2 => ?_)
    · replace h := itT q2 h
      refine x_aload_n dX2_readText_18 rfl ?_
      refine x_getR dX2_readText_19 fl_X2_12 (gL_3 hg) rfl (gL_3_0 hg) ?_
      refine x_aload_n dX2_readText_22 rfl ?_
      refine x_getR dX2_readText_23 fl_X2_20 (gL_3 hg) rfl (gL_3_1 hg) ?_
      refine x_aload_n dX2_readText_26 rfl ?_
      refine x_getI dX2_readText_27 fl_X2_52 (gL_3 hg) rfl ?_
      obtain ⟨q3, h⟩ := h
      refine x_aald (t := 2) dX2_readText_30 (gL_6 hg) (by decide) q3 (gr_codesL hg q3).1 ?_
      refine x_aload_n dX2_readText_31 rfl ?_
      refine x_getR dX2_readText_32 fl_X2_23 (gL_3 hg) rfl (gL_3_2 hg) ?_
      refine x_aload_n dX2_readText_35 rfl ?_
      refine x_getI dX2_readText_36 fl_X2_52 (gL_3 hg) rfl ?_
      obtain ⟨q4, h⟩ := h
      refine x_aald (t := 2) dX2_readText_39 (gL_13 hg) (by decide) q4 (gr_startsL hg q4).1 ?_
      refine x_callV (Y2 := mX4_read) (as := [.ref (7 + ((σ 3 5 : Int32).toNatClampNeg)), .ref (14 + ((σ 3 5 : Int32).toNatClampNeg))]) (S := []) (kc2 := 0) (ks2 := 0) mv_mX4_read (Or.inl ⟨4, _, rfl, rfl, (gL_4 hg)⟩) dX2_readText_40 lk_X2_56 mo_mX4_read rfl rfl (Nat.le_of_ble_eq_true rfl) (Or.inl rfl) rfl rfl h ?_
      rintro _ _ σ1 ⟨v1, rfl, rfl, h⟩
      change zX _ _ 0 0 43 _ [.int v1] _ _ _
      refine x_istore_n dX2_readText_43 rfl (Nat.le_of_ble_eq_true rfl) (L2 := [_, _]) rfl ?_
      refine x_iload_n dX2_readText_44 rfl ?_
      refine x_iconst (v := (-1)) dX2_readText_45 rfl ?_
      refine x_icmp_ne (tgt := 59) dX2_readText_46 rfl (fun q5 => ?_) (fun q5 => ?_)
      · replace h := itF q5 h
        refine x_iload_n dX2_readText_59 rfl ?_
        exact x_iret (S := []) dX2_readText_60 rfl rfl ⟨_, rfl, rfl, h⟩
      · replace h := itT q5 h
        refine x_aload_n dX2_readText_49 rfl ?_
        refine x_dup dX2_readText_50 rfl ?_
        refine x_getI dX2_readText_51 fl_X2_52 (gL_3 hg) rfl ?_
        refine x_iconst (v := 1) dX2_readText_54 rfl ?_
        refine x_iadd dX2_readText_55 ?_
        refine x_putI dX2_readText_56 fl_X2_52 (gL_3 hg) rfl rfl ?_
        refine x_iload_n dX2_readText_59 rfl ?_
        exact x_iret (S := []) dX2_readText_60 rfl rfl ⟨_, rfl, rfl, h⟩
    · replace h := itF q2 h
      refine x_iconst (v := 0) dX2_readText_16 rfl ?_
      exact x_iret (S := []) dX2_readText_17 rfl rfl ⟨_, rfl, rfl, h⟩
set_option maxRecDepth 20000 in
theorem s_X0_sayable {d : Nat} {g : zG} {σ : zI} {K : Int32 → zI → Prop} (hg : zGA g) {l0 : Nat} (h0 : zOb g l0 0) (h : (if ((σ l0 1) = 1 : Prop) then zCI mX0_sums d [.ref l0] g σ (fun v1 σ1 => K ((σ l0 3) ||| v1) σ1) else (if ((σ l0 1) = 2 : Prop) then zCI mX0_halves d [.ref l0] g σ (fun v1 σ1 => K ((σ l0 3) ||| v1) σ1) else (if ((σ l0 1) = 3 : Prop) then zCI mX0_sums d [.ref l0] g σ (fun v1 σ1 => zCI mX0_rests d [.ref l0] g σ1 (fun v2 σ2 => K (((σ l0 3) ||| v1) ||| v2) σ2)) else (if ((σ l0 1) = 4 : Prop) then zCI mX0_halves d [.ref l0] g σ (fun v1 σ1 => zCI mX7_isNumber d [.int (σ1 l0 2)] g σ1 (fun v2 σ2 => (if (v2 = 0 : Prop) then K (((σ l0 3) ||| v1) ||| 0) σ2 else zCI mX7_bit d [.int (σ2 l0 2)] g σ2 (fun v3 σ3 => K (((σ l0 3) ||| v1) ||| v3) σ3)))) else (if ((σ l0 1) = 5 : Prop) then zCI mX0_above d [.int (20 + (σ l0 2))] g σ (fun v1 σ1 => K ((σ l0 3) ||| v1) σ1) else K (σ l0 3) σ)))))) : zCI mX0_sayable (d + 1) [.ref l0] g σ K := by
  refine c_of_x pn_mX0_sayable rfl (Nat.le_of_ble_eq_true rfl) ?_
  change zX _ _ 0 0 0 [.ref l0] [] g σ _
  refine x_aload_n dX0_sayable_0 rfl ?_
  refine x_getI dX0_sayable_1 fl_X0_15 h0 rfl ?_
  by_cases q1 : (σ l0 1) = 1
  · refine x_tsw (tgt := 40) dX0_sayable_4 (by rw [q1]; decide) (by rw [q1]; decide) (by rw [q1]; rfl) rfl ?_
    replace h := itT q1 h
    refine x_aload_n dX0_sayable_40 rfl ?_
    refine x_getI dX0_sayable_41 fl_X0_21 h0 rfl ?_
    refine x_aload_n dX0_sayable_44 rfl ?_
    refine x_callV (Y2 := mX0_sums) (as := []) (S := [.int (σ l0 3)]) (kc2 := 0) (ks2 := 0) mv_mX0_sums (Or.inl ⟨0, _, rfl, rfl, h0⟩) dX0_sayable_45 lk_X0_24 mo_mX0_sums rfl rfl (Nat.le_of_ble_eq_true rfl) (Or.inl rfl) rfl rfl h ?_
    rintro _ _ σ1 ⟨v1, rfl, rfl, h⟩
    change zX _ _ 0 0 48 _ [.int v1, .int (σ l0 3)] _ _ _
    refine x_ior dX0_sayable_48 ?_
    exact x_iret (S := []) dX0_sayable_49 rfl rfl ⟨_, rfl, rfl, h⟩
  · replace h := itF q1 h
    by_cases q2 : (σ l0 1) = 2
    · refine x_tsw (tgt := 50) dX0_sayable_4 (by rw [q2]; decide) (by rw [q2]; decide) (by rw [q2]; rfl) rfl ?_
      replace h := itT q2 h
      refine x_aload_n dX0_sayable_50 rfl ?_
      refine x_getI dX0_sayable_51 fl_X0_21 h0 rfl ?_
      refine x_aload_n dX0_sayable_54 rfl ?_
      refine x_callV (Y2 := mX0_halves) (as := []) (S := [.int (σ l0 3)]) (kc2 := 0) (ks2 := 0) mv_mX0_halves (Or.inl ⟨0, _, rfl, rfl, h0⟩) dX0_sayable_55 lk_X0_28 mo_mX0_halves rfl rfl (Nat.le_of_ble_eq_true rfl) (Or.inl rfl) rfl rfl h ?_
      rintro _ _ σ1 ⟨v1, rfl, rfl, h⟩
      change zX _ _ 0 0 58 _ [.int v1, .int (σ l0 3)] _ _ _
      refine x_ior dX0_sayable_58 ?_
      exact x_iret (S := []) dX0_sayable_59 rfl rfl ⟨_, rfl, rfl, h⟩
    · replace h := itF q2 h
      by_cases q3 : (σ l0 1) = 3
      · refine x_tsw (tgt := 60) dX0_sayable_4 (by rw [q3]; decide) (by rw [q3]; decide) (by rw [q3]; rfl) rfl ?_
        replace h := itT q3 h
        refine x_aload_n dX0_sayable_60 rfl ?_
        refine x_getI dX0_sayable_61 fl_X0_21 h0 rfl ?_
        refine x_aload_n dX0_sayable_64 rfl ?_
        refine x_callV (Y2 := mX0_sums) (as := []) (S := [.int (σ l0 3)]) (kc2 := 0) (ks2 := 0) mv_mX0_sums (Or.inl ⟨0, _, rfl, rfl, h0⟩) dX0_sayable_65 lk_X0_24 mo_mX0_sums rfl rfl (Nat.le_of_ble_eq_true rfl) (Or.inl rfl) rfl rfl h ?_
        rintro _ _ σ1 ⟨v1, rfl, rfl, h⟩
        change zX _ _ 0 0 68 _ [.int v1, .int (σ l0 3)] _ _ _
        refine x_ior dX0_sayable_68 ?_
        refine x_aload_n dX0_sayable_69 rfl ?_
        refine x_callV (Y2 := mX0_rests) (as := []) (S := [.int ((σ l0 3) ||| v1)]) (kc2 := 0) (ks2 := 0) mv_mX0_rests (Or.inl ⟨0, _, rfl, rfl, h0⟩) dX0_sayable_70 lk_X0_31 mo_mX0_rests rfl rfl (Nat.le_of_ble_eq_true rfl) (Or.inl rfl) rfl rfl h ?_
        rintro _ _ σ2 ⟨v2, rfl, rfl, h⟩
        change zX _ _ 0 0 73 _ [.int v2, .int ((σ l0 3) ||| v1)] _ _ _
        refine x_ior dX0_sayable_73 ?_
        exact x_iret (S := []) dX0_sayable_74 rfl rfl ⟨_, rfl, rfl, h⟩
      · replace h := itF q3 h
        by_cases q4 : (σ l0 1) = 4
        · refine x_tsw (tgt := 75) dX0_sayable_4 (by rw [q4]; decide) (by rw [q4]; decide) (by rw [q4]; rfl) rfl ?_
          replace h := itT q4 h
          refine x_aload_n dX0_sayable_75 rfl ?_
          refine x_getI dX0_sayable_76 fl_X0_21 h0 rfl ?_
          refine x_aload_n dX0_sayable_79 rfl ?_
          refine x_callV (Y2 := mX0_halves) (as := []) (S := [.int (σ l0 3)]) (kc2 := 0) (ks2 := 0) mv_mX0_halves (Or.inl ⟨0, _, rfl, rfl, h0⟩) dX0_sayable_80 lk_X0_28 mo_mX0_halves rfl rfl (Nat.le_of_ble_eq_true rfl) (Or.inl rfl) rfl rfl h ?_
          rintro _ _ σ1 ⟨v1, rfl, rfl, h⟩
          change zX _ _ 0 0 83 _ [.int v1, .int (σ l0 3)] _ _ _
          refine x_ior dX0_sayable_83 ?_
          refine x_aload_n dX0_sayable_84 rfl ?_
          refine x_getI dX0_sayable_85 fl_X0_18 h0 rfl ?_
          refine x_callS (Y2 := mX7_isNumber) (as := [.int (σ1 l0 2)]) (S := [.int ((σ l0 3) ||| v1)]) (kc2 := 0) (ks2 := 0) st_mX7_isNumber dX0_sayable_88 lk_X0_34 mo_mX7_isNumber rfl rfl (Nat.le_of_ble_eq_true rfl) (Or.inl rfl) rfl rfl h ?_
          rintro _ _ σ2 ⟨v2, rfl, rfl, h⟩
          change zX _ _ 0 0 91 _ [.int v2, .int ((σ l0 3) ||| v1)] _ _ _
          refine x_if_eq (tgt := 104) dX0_sayable_91 rfl (fun q5 => ?_) (fun q5 => ?_)
          · replace h := itT q5 h
            refine x_iconst (v := 0) dX0_sayable_104 rfl ?_
            refine x_ior dX0_sayable_105 ?_
            exact x_iret (S := []) dX0_sayable_106 rfl rfl ⟨_, rfl, rfl, h⟩
          · replace h := itF q5 h
            refine x_aload_n dX0_sayable_94 rfl ?_
            refine x_getI dX0_sayable_95 fl_X0_18 h0 rfl ?_
            refine x_callS (Y2 := mX7_bit) (as := [.int (σ2 l0 2)]) (S := [.int ((σ l0 3) ||| v1)]) (kc2 := 0) (ks2 := 0) st_mX7_bit dX0_sayable_98 lk_X0_38 mo_mX7_bit rfl rfl (Nat.le_of_ble_eq_true rfl) (Or.inl rfl) rfl rfl h ?_
            rintro _ _ σ3 ⟨v3, rfl, rfl, h⟩
            change zX _ _ 0 0 101 _ [.int v3, .int ((σ l0 3) ||| v1)] _ _ _
            refine x_goto (tgt := 105) dX0_sayable_101 rfl ?_
            refine x_ior dX0_sayable_105 ?_
            exact x_iret (S := []) dX0_sayable_106 rfl rfl ⟨_, rfl, rfl, h⟩
        · replace h := itF q4 h
          by_cases q5 : (σ l0 1) = 5
          · refine x_tsw (tgt := 107) dX0_sayable_4 (by rw [q5]; decide) (by rw [q5]; decide) (by rw [q5]; rfl) rfl ?_
            replace h := itT q5 h
            refine x_aload_n dX0_sayable_107 rfl ?_
            refine x_getI dX0_sayable_108 fl_X0_21 h0 rfl ?_
            refine x_bipush (v := 20) dX0_sayable_111 rfl ?_
            refine x_aload_n dX0_sayable_113 rfl ?_
            refine x_getI dX0_sayable_114 fl_X0_18 h0 rfl ?_
            refine x_iadd dX0_sayable_117 ?_
            refine x_callS (Y2 := mX0_above) (as := [.int (20 + (σ l0 2))]) (S := [.int (σ l0 3)]) (kc2 := 0) (ks2 := 0) st_mX0_above dX0_sayable_118 lk_X0_42 mo_mX0_above rfl rfl (Nat.le_of_ble_eq_true rfl) (Or.inl rfl) rfl rfl h ?_
            rintro _ _ σ1 ⟨v1, rfl, rfl, h⟩
            change zX _ _ 0 0 121 _ [.int v1, .int (σ l0 3)] _ _ _
            refine x_ior dX0_sayable_121 ?_
            exact x_iret (S := []) dX0_sayable_122 rfl rfl ⟨_, rfl, rfl, h⟩
          · replace h := itF q5 h
            refine x_tswd (tgt := 123) dX0_sayable_4 (by have z0 := lv_neT (a := 1) q1 rfl; have z1 := lv_neT (a := 2) q2 rfl; have z2 := lv_neT (a := 3) q3 rfl; have z3 := lv_neT (a := 4) q4 rfl; have z4 := lv_neT (a := 5) q5 rfl; omega) rfl ?_
            refine x_aload_n dX0_sayable_123 rfl ?_
            refine x_getI dX0_sayable_124 fl_X0_21 h0 rfl ?_
            exact x_iret (S := []) dX0_sayable_127 rfl rfl ⟨_, rfl, rfl, h⟩
abbrev p_X0_sums_4 (d : Nat) (g : zG) (K : Int32 → zI → Prop) (σ : zI) (l0 : Nat) (l1 : Int32) (l2 : Int32) : Prop := zX mX0_sums (d + 1) 0 0 4 [.ref l0, .int l1, .int l2] [] g σ (zqI g K)
set_option maxRecDepth 20000 in
theorem s_X0_sums {d : Nat} {g : zG} {σ : zI} {K : Int32 → zI → Prop} (hg : zGA g) {l0 : Nat} (h0 : zOb g l0 0) (h : p_X0_sums_4 d g K σ l0 0 1) : zCI mX0_sums (d + 1) [.ref l0] g σ K := by
  refine c_of_x pn_mX0_sums rfl (Nat.le_of_ble_eq_true rfl) ?_
  change zX _ _ 0 0 0 [.ref l0] [] g σ _
  refine x_iconst (v := 0) dX0_sums_0 rfl ?_
  refine x_istore_n dX0_sums_1 rfl (Nat.le_of_ble_eq_true rfl) (L2 := [_, _]) rfl ?_
  refine x_iconst (v := 1) dX0_sums_2 rfl ?_
  refine x_istore_n dX0_sums_3 rfl (Nat.le_of_ble_eq_true rfl) (L2 := [_, _, _]) rfl ?_
  exact h
set_option maxRecDepth 20000 in
theorem s_X0_sums_4 {d : Nat} {g : zG} {σ : zI} {K : Int32 → zI → Prop} (hg : zGA g) {l0 : Nat} (h_l0 : zOb g l0 0) {l1 : Int32} {l2 : Int32} (h : (if (30 < l2 : Prop) then K (l1 &&& 1073741823) σ else zCI mX7_has d [.int (σ l0 3), .int l2] g σ (fun v1 σ1 => (if (v1 = 0 : Prop) then p_X0_sums_4 d g K σ1 l0 (l1 ||| 0) (l2 + 1) else p_X0_sums_4 d g K σ1 l0 (l1 ||| ((σ1 l0 3) <<< (l2 &&& 31))) (l2 + 1))))) : p_X0_sums_4 d g K σ l0 l1 l2 := by
  refine x_iload_n dX0_sums_4 rfl ?_
  refine x_bipush (v := 30) dX0_sums_5 rfl ?_
  refine x_icmp_gt (tgt := 40) dX0_sums_7 rfl (fun q1 => ?_) (fun q1 => ?_)
  · replace h := itT q1 h
    refine x_iload_n dX0_sums_40 rfl ?_
    refine x_ldc dX0_sums_41 kc_X0_49 ?_
    refine x_iand dX0_sums_43 ?_
    exact x_iret (S := []) dX0_sums_44 rfl rfl ⟨_, rfl, rfl, h⟩
  · replace h := itF q1 h
    refine x_iload_n dX0_sums_10 rfl ?_
    refine x_aload_n dX0_sums_11 rfl ?_
    refine x_getI dX0_sums_12 fl_X0_21 h_l0 rfl ?_
    refine x_iload_n dX0_sums_15 rfl ?_
    refine x_callS (Y2 := mX7_has) (as := [.int (σ l0 3), .int l2]) (S := [.int l1]) (kc2 := 0) (ks2 := 0) st_mX7_has dX0_sums_16 lk_X0_45 mo_mX7_has rfl rfl (Nat.le_of_ble_eq_true rfl) (Or.inl rfl) rfl rfl h ?_
    rintro _ _ σ1 ⟨v1, rfl, rfl, h⟩
    change zX _ _ 0 0 19 _ [.int v1, .int l1] _ _ _
    refine x_if_eq (tgt := 31) dX0_sums_19 rfl (fun q2 => ?_) (fun q2 => ?_)
    · replace h := itT q2 h
      refine x_iconst (v := 0) dX0_sums_31 rfl ?_
      refine x_ior dX0_sums_32 ?_
      refine x_istore_n dX0_sums_33 rfl (Nat.le_of_ble_eq_true rfl) (L2 := [_, _, _]) rfl ?_
      refine x_iinc dX0_sums_34 rfl (v := l2 + 1) rfl rfl (Nat.le_of_ble_eq_true rfl) (L2 := [_, _, _]) rfl ?_
      refine x_goto (tgt := 4) dX0_sums_37 rfl ?_
      exact h
    · replace h := itF q2 h
      refine x_aload_n dX0_sums_22 rfl ?_
      refine x_getI dX0_sums_23 fl_X0_21 h_l0 rfl ?_
      refine x_iload_n dX0_sums_26 rfl ?_
      refine x_ishl dX0_sums_27 ?_
      refine x_goto (tgt := 32) dX0_sums_28 rfl ?_
      refine x_ior dX0_sums_32 ?_
      refine x_istore_n dX0_sums_33 rfl (Nat.le_of_ble_eq_true rfl) (L2 := [_, _, _]) rfl ?_
      refine x_iinc dX0_sums_34 rfl (v := l2 + 1) rfl rfl (Nat.le_of_ble_eq_true rfl) (L2 := [_, _, _]) rfl ?_
      refine x_goto (tgt := 4) dX0_sums_37 rfl ?_
      exact h
abbrev p_X0_halves_4 (d : Nat) (g : zG) (K : Int32 → zI → Prop) (σ : zI) (l0 : Nat) (l1 : Int32) (l2 : Int32) : Prop := zX mX0_halves (d + 1) 0 0 4 [.ref l0, .int l1, .int l2] [] g σ (zqI g K)
set_option maxRecDepth 20000 in
theorem s_X0_halves {d : Nat} {g : zG} {σ : zI} {K : Int32 → zI → Prop} (hg : zGA g) {l0 : Nat} (h0 : zOb g l0 0) (h : p_X0_halves_4 d g K σ l0 0 1) : zCI mX0_halves (d + 1) [.ref l0] g σ K := by
  refine c_of_x pn_mX0_halves rfl (Nat.le_of_ble_eq_true rfl) ?_
  change zX _ _ 0 0 0 [.ref l0] [] g σ _
  refine x_iconst (v := 0) dX0_halves_0 rfl ?_
  refine x_istore_n dX0_halves_1 rfl (Nat.le_of_ble_eq_true rfl) (L2 := [_, _]) rfl ?_
  refine x_iconst (v := 1) dX0_halves_2 rfl ?_
  refine x_istore_n dX0_halves_3 rfl (Nat.le_of_ble_eq_true rfl) (L2 := [_, _, _]) rfl ?_
  exact h
set_option maxRecDepth 20000 in
theorem s_X0_halves_4 {d : Nat} {g : zG} {σ : zI} {K : Int32 → zI → Prop} (hg : zGA g) {l0 : Nat} (h_l0 : zOb g l0 0) {l1 : Int32} {l2 : Int32} (h : (if (30 < (2 * l2) : Prop) then K l1 σ else zCI mX7_has d [.int (σ l0 3), .int (2 * l2)] g σ (fun v1 σ1 => (if (v1 = 0 : Prop) then p_X0_halves_4 d g K σ1 l0 (l1 ||| 0) (l2 + 1) else zCI mX7_bit d [.int l2] g σ1 (fun v2 σ2 => p_X0_halves_4 d g K σ2 l0 (l1 ||| v2) (l2 + 1)))))) : p_X0_halves_4 d g K σ l0 l1 l2 := by
  refine x_iconst (v := 2) dX0_halves_4 rfl ?_
  refine x_iload_n dX0_halves_5 rfl ?_
  refine x_imul dX0_halves_6 ?_
  refine x_bipush (v := 30) dX0_halves_7 rfl ?_
  refine x_icmp_gt (tgt := 42) dX0_halves_9 rfl (fun q1 => ?_) (fun q1 => ?_)
  · replace h := itT q1 h
    refine x_iload_n dX0_halves_42 rfl ?_
    exact x_iret (S := []) dX0_halves_43 rfl rfl ⟨_, rfl, rfl, h⟩
  · replace h := itF q1 h
    refine x_iload_n dX0_halves_12 rfl ?_
    refine x_aload_n dX0_halves_13 rfl ?_
    refine x_getI dX0_halves_14 fl_X0_21 h_l0 rfl ?_
    refine x_iconst (v := 2) dX0_halves_17 rfl ?_
    refine x_iload_n dX0_halves_18 rfl ?_
    refine x_imul dX0_halves_19 ?_
    refine x_callS (Y2 := mX7_has) (as := [.int (σ l0 3), .int (2 * l2)]) (S := [.int l1]) (kc2 := 0) (ks2 := 0) st_mX7_has dX0_halves_20 lk_X0_45 mo_mX7_has rfl rfl (Nat.le_of_ble_eq_true rfl) (Or.inl rfl) rfl rfl h ?_
    rintro _ _ σ1 ⟨v1, rfl, rfl, h⟩
    change zX _ _ 0 0 23 _ [.int v1, .int l1] _ _ _
    refine x_if_eq (tgt := 33) dX0_halves_23 rfl (fun q2 => ?_) (fun q2 => ?_)
    · replace h := itT q2 h
      refine x_iconst (v := 0) dX0_halves_33 rfl ?_
      refine x_ior dX0_halves_34 ?_
      refine x_istore_n dX0_halves_35 rfl (Nat.le_of_ble_eq_true rfl) (L2 := [_, _, _]) rfl ?_
      refine x_iinc dX0_halves_36 rfl (v := l2 + 1) rfl rfl (Nat.le_of_ble_eq_true rfl) (L2 := [_, _, _]) rfl ?_
      refine x_goto (tgt := 4) dX0_halves_39 rfl ?_
      exact h
    · replace h := itF q2 h
      refine x_iload_n dX0_halves_26 rfl ?_
      refine x_callS (Y2 := mX7_bit) (as := [.int l2]) (S := [.int l1]) (kc2 := 0) (ks2 := 0) st_mX7_bit dX0_halves_27 lk_X0_38 mo_mX7_bit rfl rfl (Nat.le_of_ble_eq_true rfl) (Or.inl rfl) rfl rfl h ?_
      rintro _ _ σ2 ⟨v2, rfl, rfl, h⟩
      change zX _ _ 0 0 30 _ [.int v2, .int l1] _ _ _
      refine x_goto (tgt := 34) dX0_halves_30 rfl ?_
      refine x_ior dX0_halves_34 ?_
      refine x_istore_n dX0_halves_35 rfl (Nat.le_of_ble_eq_true rfl) (L2 := [_, _, _]) rfl ?_
      refine x_iinc dX0_halves_36 rfl (v := l2 + 1) rfl rfl (Nat.le_of_ble_eq_true rfl) (L2 := [_, _, _]) rfl ?_
      refine x_goto (tgt := 4) dX0_halves_39 rfl ?_
      exact h
abbrev p_X0_rests_4 (d : Nat) (g : zG) (K : Int32 → zI → Prop) (σ : zI) (l0 : Nat) (l1 : Int32) (l2 : Int32) : Prop := zX mX0_rests (d + 1) 0 0 4 [.ref l0, .int l1, .int l2] [] g σ (zqI g K)
set_option maxRecDepth 20000 in
theorem s_X0_rests {d : Nat} {g : zG} {σ : zI} {K : Int32 → zI → Prop} (hg : zGA g) {l0 : Nat} (h0 : zOb g l0 0) (h : p_X0_rests_4 d g K σ l0 0 1) : zCI mX0_rests (d + 1) [.ref l0] g σ K := by
  refine c_of_x pn_mX0_rests rfl (Nat.le_of_ble_eq_true rfl) ?_
  change zX _ _ 0 0 0 [.ref l0] [] g σ _
  refine x_iconst (v := 0) dX0_rests_0 rfl ?_
  refine x_istore_n dX0_rests_1 rfl (Nat.le_of_ble_eq_true rfl) (L2 := [_, _]) rfl ?_
  refine x_iconst (v := 1) dX0_rests_2 rfl ?_
  refine x_istore_n dX0_rests_3 rfl (Nat.le_of_ble_eq_true rfl) (L2 := [_, _, _]) rfl ?_
  exact h
set_option maxRecDepth 20000 in
theorem s_X0_rests_4 {d : Nat} {g : zG} {σ : zI} {K : Int32 → zI → Prop} (hg : zGA g) {l0 : Nat} (h_l0 : zOb g l0 0) {l1 : Int32} {l2 : Int32} (h : (if (30 < l2 : Prop) then K l1 σ else zCI mX7_has d [.int (σ l0 3), .int l2] g σ (fun v1 σ1 => (if (v1 = 0 : Prop) then p_X0_rests_4 d g K σ1 l0 (l1 ||| 0) (l2 + 1) else p_X0_rests_4 d g K σ1 l0 (l1 ||| ((σ1 l0 3) >>> (l2 &&& 31))) (l2 + 1))))) : p_X0_rests_4 d g K σ l0 l1 l2 := by
  refine x_iload_n dX0_rests_4 rfl ?_
  refine x_bipush (v := 30) dX0_rests_5 rfl ?_
  refine x_icmp_gt (tgt := 40) dX0_rests_7 rfl (fun q1 => ?_) (fun q1 => ?_)
  · replace h := itT q1 h
    refine x_iload_n dX0_rests_40 rfl ?_
    exact x_iret (S := []) dX0_rests_41 rfl rfl ⟨_, rfl, rfl, h⟩
  · replace h := itF q1 h
    refine x_iload_n dX0_rests_10 rfl ?_
    refine x_aload_n dX0_rests_11 rfl ?_
    refine x_getI dX0_rests_12 fl_X0_21 h_l0 rfl ?_
    refine x_iload_n dX0_rests_15 rfl ?_
    refine x_callS (Y2 := mX7_has) (as := [.int (σ l0 3), .int l2]) (S := [.int l1]) (kc2 := 0) (ks2 := 0) st_mX7_has dX0_rests_16 lk_X0_45 mo_mX7_has rfl rfl (Nat.le_of_ble_eq_true rfl) (Or.inl rfl) rfl rfl h ?_
    rintro _ _ σ1 ⟨v1, rfl, rfl, h⟩
    change zX _ _ 0 0 19 _ [.int v1, .int l1] _ _ _
    refine x_if_eq (tgt := 31) dX0_rests_19 rfl (fun q2 => ?_) (fun q2 => ?_)
    · replace h := itT q2 h
      refine x_iconst (v := 0) dX0_rests_31 rfl ?_
      refine x_ior dX0_rests_32 ?_
      refine x_istore_n dX0_rests_33 rfl (Nat.le_of_ble_eq_true rfl) (L2 := [_, _, _]) rfl ?_
      refine x_iinc dX0_rests_34 rfl (v := l2 + 1) rfl rfl (Nat.le_of_ble_eq_true rfl) (L2 := [_, _, _]) rfl ?_
      refine x_goto (tgt := 4) dX0_rests_37 rfl ?_
      exact h
    · replace h := itF q2 h
      refine x_aload_n dX0_rests_22 rfl ?_
      refine x_getI dX0_rests_23 fl_X0_21 h_l0 rfl ?_
      refine x_iload_n dX0_rests_26 rfl ?_
      refine x_ishr dX0_rests_27 ?_
      refine x_goto (tgt := 32) dX0_rests_28 rfl ?_
      refine x_ior dX0_rests_32 ?_
      refine x_istore_n dX0_rests_33 rfl (Nat.le_of_ble_eq_true rfl) (L2 := [_, _, _]) rfl ?_
      refine x_iinc dX0_rests_34 rfl (v := l2 + 1) rfl rfl (Nat.le_of_ble_eq_true rfl) (L2 := [_, _, _]) rfl ?_
      refine x_goto (tgt := 4) dX0_rests_37 rfl ?_
      exact h
abbrev p_X0_above_6 (d : Nat) (g : zG) (K : Int32 → zI → Prop) (σ : zI) (l1 : Int32) (l2 : Int32) : Prop := zX mX0_above (d + 1) 0 0 6 [.retAddr 0, .int l1, .int l2] [] g σ (zqI g K)
set_option maxRecDepth 20000 in
theorem s_X0_above {d : Nat} {g : zG} {σ : zI} {K : Int32 → zI → Prop} (hg : zGA g) {l0 : Int32} (h : p_X0_above_6 d g K σ 0 (l0 + 1)) : zCI mX0_above (d + 1) [.int l0] g σ K := by
  refine c_of_x pn_mX0_above rfl (Nat.le_of_ble_eq_true rfl) ?_
  change zX _ _ 0 0 0 [.int l0] [] g σ _
  refine x_iconst (v := 0) dX0_above_0 rfl ?_
  refine x_istore_n dX0_above_1 rfl (Nat.le_of_ble_eq_true rfl) (L2 := [_, _]) rfl ?_
  refine x_iload_n dX0_above_2 rfl ?_
  refine x_iconst (v := 1) dX0_above_3 rfl ?_
  refine x_iadd dX0_above_4 ?_
  refine x_istore_n dX0_above_5 rfl (Nat.le_of_ble_eq_true rfl) (L2 := [_, _, _]) rfl ?_
  exact x_wk (wJ (wC (wC (wN _)))) h
set_option maxRecDepth 20000 in
theorem s_X0_above_6 {d : Nat} {g : zG} {σ : zI} {K : Int32 → zI → Prop} (hg : zGA g) {l1 : Int32} {l2 : Int32} (h : (if (30 < l2 : Prop) then K l1 σ else zCI mX7_bit d [.int l2] g σ (fun v1 σ1 => p_X0_above_6 d g K σ1 (l1 ||| v1) (l2 + 1)))) : p_X0_above_6 d g K σ l1 l2 := by
  refine x_iload_n dX0_above_6 rfl ?_
  refine x_bipush (v := 30) dX0_above_7 rfl ?_
  refine x_icmp_gt (tgt := 25) dX0_above_9 rfl (fun q1 => ?_) (fun q1 => ?_)
  · replace h := itT q1 h
    refine x_iload_n dX0_above_25 rfl ?_
    exact x_iret (S := []) dX0_above_26 rfl rfl ⟨_, rfl, rfl, h⟩
  · replace h := itF q1 h
    refine x_iload_n dX0_above_12 rfl ?_
    refine x_iload_n dX0_above_13 rfl ?_
    refine x_callS (Y2 := mX7_bit) (as := [.int l2]) (S := [.int l1]) (kc2 := 0) (ks2 := 0) st_mX7_bit dX0_above_14 lk_X0_38 mo_mX7_bit rfl rfl (Nat.le_of_ble_eq_true rfl) (Or.inl rfl) rfl rfl h ?_
    rintro _ _ σ1 ⟨v1, rfl, rfl, h⟩
    change zX _ _ 0 0 17 _ [.int v1, .int l1] _ _ _
    refine x_ior dX0_above_17 ?_
    refine x_istore_n dX0_above_18 rfl (Nat.le_of_ble_eq_true rfl) (L2 := [_, _, _]) rfl ?_
    refine x_iinc dX0_above_19 rfl (v := l2 + 1) rfl rfl (Nat.le_of_ble_eq_true rfl) (L2 := [_, _, _]) rfl ?_
    refine x_goto (tgt := 6) dX0_above_22 rfl ?_
    exact h
set_option maxRecDepth 20000 in
theorem s_X2_costs {d : Nat} {g : zG} {σ : zI} {K : Int32 → zI → Prop} (hg : zGL g) {l1 : Nat} (h1 : zOb g l1 0) {l2 : Int32} (h : zCI mX7_has d [.int (σ l1 3), .int l2] g σ (fun v1 σ1 => zCI mX7_truth d [.int v1] g σ1 (fun v2 σ2 => zCV mX2_name d [.ref 3, .ref l1, .int l2, .int v2] g σ2 (fun σ3 => zCI mX2_value d [.ref 3, .int 0] g σ3 (fun v3 σ4 => zCI mX2_bounded d [.int v3] g σ4 (fun v4 σ5 => zCI mX0_costsFor d [.ref l1, .int v4] g σ5 (fun v5 σ6 => K (if 1 < v5 then v5 else 1) σ6))))))) : zCI mX2_costs (d + 1) [.ref 3, .ref l1, .int l2] g σ K := by
  refine c_of_x pn_mX2_costs rfl (Nat.le_of_ble_eq_true rfl) ?_
  change zX _ _ 0 0 0 [.ref 3, .ref l1, .int l2] [] g σ _
  refine x_aload_n dX2_costs_0 rfl ?_
  refine x_aload_n dX2_costs_1 rfl ?_
  refine x_iload_n dX2_costs_2 rfl ?_
  refine x_aload_n dX2_costs_3 rfl ?_
  refine x_getI dX2_costs_4 fl_X2_60 h1 rfl ?_
  refine x_iload_n dX2_costs_7 rfl ?_
  refine x_callS (Y2 := mX7_has) (as := [.int (σ l1 3), .int l2]) (S := [.int l2, .ref l1, .ref 3]) (kc2 := 0) (ks2 := 0) st_mX7_has dX2_costs_8 lk_X2_65 mo_mX7_has rfl rfl (Nat.le_of_ble_eq_true rfl) (Or.inl rfl) rfl rfl h ?_
  rintro _ _ σ1 ⟨v1, rfl, rfl, h⟩
  change zX _ _ 0 0 11 _ [.int v1, .int l2, .ref l1, .ref 3] _ _ _
  refine x_callS (Y2 := mX7_truth) (as := [.int v1]) (S := [.int l2, .ref l1, .ref 3]) (kc2 := 0) (ks2 := 0) st_mX7_truth dX2_costs_11 lk_X2_69 mo_mX7_truth rfl rfl (Nat.le_of_ble_eq_true rfl) (Or.inl rfl) rfl rfl h ?_
  rintro _ _ σ2 ⟨v2, rfl, rfl, h⟩
  change zX _ _ 0 0 14 _ [.int v2, .int l2, .ref l1, .ref 3] _ _ _
  refine x_callV (Y2 := mX2_name) (as := [.ref l1, .int l2, .int v2]) (S := []) (kc2 := 0) (ks2 := 0) mv_mX2_name (Or.inl ⟨2, _, rfl, rfl, (gL_3 hg)⟩) dX2_costs_14 lk_X2_73 mo_mX2_name rfl rfl (Nat.le_of_ble_eq_true rfl) (Or.inl rfl) rfl rfl h ?_
  rintro _ _ σ3 ⟨rfl, rfl, h⟩
  change zX _ _ 0 0 17 _ [] _ _ _
  refine x_iconst (v := 1) dX2_costs_17 rfl ?_
  refine x_aload_n dX2_costs_18 rfl ?_
  refine x_aload_n dX2_costs_19 rfl ?_
  refine x_iconst (v := 0) dX2_costs_20 rfl ?_
  refine x_callV (Y2 := mX2_value) (as := [.int 0]) (S := [.ref l1, .int 1]) (kc2 := 0) (ks2 := 0) mv_mX2_value (Or.inl ⟨2, _, rfl, rfl, (gL_3 hg)⟩) dX2_costs_21 lk_X2_77 mo_mX2_value rfl rfl (Nat.le_of_ble_eq_true rfl) (Or.inl rfl) rfl rfl h ?_
  rintro _ _ σ4 ⟨v3, rfl, rfl, h⟩
  change zX _ _ 0 0 24 _ [.int v3, .ref l1, .int 1] _ _ _
  refine x_callS (Y2 := mX2_bounded) (as := [.int v3]) (S := [.ref l1, .int 1]) (kc2 := 0) (ks2 := 0) st_mX2_bounded dX2_costs_24 lk_X2_81 mo_mX2_bounded rfl rfl (Nat.le_of_ble_eq_true rfl) (Or.inl rfl) rfl rfl h ?_
  rintro _ _ σ5 ⟨v4, rfl, rfl, h⟩
  change zX _ _ 0 0 27 _ [.int v4, .ref l1, .int 1] _ _ _
  refine x_callV (Y2 := mX0_costsFor) (as := [.int v4]) (S := [.int 1]) (kc2 := 0) (ks2 := 0) mv_mX0_costsFor (Or.inl ⟨0, _, rfl, rfl, h1⟩) dX2_costs_27 lk_X2_84 mo_mX0_costsFor rfl rfl (Nat.le_of_ble_eq_true rfl) (Or.inl rfl) rfl rfl h ?_
  rintro _ _ σ6 ⟨v5, rfl, rfl, h⟩
  change zX _ _ 0 0 30 _ [.int v5, .int 1] _ _ _
  refine x_mmax dX2_costs_30 lw_X2_87 tw_max1 tw_math tw_max2 (Nat.le_of_ble_eq_true rfl) ?_
  exact x_iret (S := []) dX2_costs_33 rfl rfl ⟨_, rfl, rfl, h⟩
set_option maxRecDepth 20000 in
theorem s_X2_name {d : Nat} {g : zG} {σ : zI} {K : zI → Prop} (hg : zGL g) {l1 : Nat} (h1 : zOb g l1 0) {l2 : Int32} {l3 : Int32} (h : zCI mJ6_bitCount_0f7a4 d [.int ((zsI (zsI (zsI σ 20 0 l2) 20 1 l3) 20 2 ((zsI (zsI σ 20 0 l2) 20 1 l3) l1 2)) l1 3)] g (zsI (zsI (zsI σ 20 0 l2) 20 1 l3) 20 2 ((zsI (zsI σ 20 0 l2) 20 1 l3) l1 2)) (fun v1 σ1 => K (zsI (zsI (zsI σ1 20 3 v1) 20 4 ((zsI σ1 20 3 v1) l1 0)) 20 5 (σ1 3 7)))) : zCV mX2_name (d + 1) [.ref 3, .ref l1, .int l2, .int l3] g σ K := by
  refine c_of_x pn_mX2_name rfl (Nat.le_of_ble_eq_true rfl) ?_
  change zX _ _ 0 0 0 [.ref 3, .ref l1, .int l2, .int l3] [] g σ _
  refine x_aload_n dX2_name_0 rfl ?_
  refine x_getR dX2_name_1 fl_X2_26 (gL_3 hg) rfl (gL_3_3 hg) ?_
  refine x_iconst (v := 0) dX2_name_4 rfl ?_
  refine x_iload_n dX2_name_5 rfl ?_
  refine x_iast dX2_name_6 (gL_20 hg) (zvp rfl) ?_
  refine x_aload_n dX2_name_7 rfl ?_
  refine x_getR dX2_name_8 fl_X2_26 (gL_3 hg) rfl (gL_3_3 hg) ?_
  refine x_iconst (v := 1) dX2_name_11 rfl ?_
  refine x_iload_n dX2_name_12 rfl ?_
  refine x_iast dX2_name_13 (gL_20 hg) (zvp rfl) ?_
  refine x_aload_n dX2_name_14 rfl ?_
  refine x_getR dX2_name_15 fl_X2_26 (gL_3 hg) rfl (gL_3_3 hg) ?_
  refine x_iconst (v := 2) dX2_name_18 rfl ?_
  refine x_aload_n dX2_name_19 rfl ?_
  refine x_getI dX2_name_20 fl_X2_93 h1 rfl ?_
  refine x_iast dX2_name_23 (gL_20 hg) (zvp rfl) ?_
  refine x_aload_n dX2_name_24 rfl ?_
  refine x_getR dX2_name_25 fl_X2_26 (gL_3 hg) rfl (gL_3_3 hg) ?_
  refine x_iconst (v := 3) dX2_name_28 rfl ?_
  refine x_aload_n dX2_name_29 rfl ?_
  refine x_getI dX2_name_30 fl_X2_60 h1 rfl ?_
  refine x_callS (Y2 := mJ6_bitCount_0f7a4) (as := [.int ((zsI (zsI (zsI σ 20 0 l2) 20 1 l3) 20 2 ((zsI (zsI σ 20 0 l2) 20 1 l3) l1 2)) l1 3)]) (S := [.int 3, .ref 20]) (kc2 := 0) (ks2 := 0) st_mJ6_bitCount_0f7a4 dX2_name_33 lk_X2_96 mo_mJ6_bitCount_0f7a4 rfl rfl (Nat.le_of_ble_eq_true rfl) (Or.inl rfl) rfl rfl h ?_
  rintro _ _ σ1 ⟨v1, rfl, rfl, h⟩
  change zX _ _ 0 0 36 _ [.int v1, .int 3, .ref 20] _ _ _
  refine x_iast dX2_name_36 (gL_20 hg) (zvp rfl) ?_
  refine x_aload_n dX2_name_37 rfl ?_
  refine x_getR dX2_name_38 fl_X2_26 (gL_3 hg) rfl (gL_3_3 hg) ?_
  refine x_iconst (v := 4) dX2_name_41 rfl ?_
  refine x_aload_n dX2_name_42 rfl ?_
  refine x_getI dX2_name_43 fl_X2_101 h1 rfl ?_
  refine x_iast dX2_name_46 (gL_20 hg) (zvp rfl) ?_
  refine x_aload_n dX2_name_47 rfl ?_
  refine x_getR dX2_name_48 fl_X2_26 (gL_3 hg) rfl (gL_3_3 hg) ?_
  refine x_iconst (v := 5) dX2_name_51 rfl ?_
  refine x_aload_n dX2_name_52 rfl ?_
  refine x_getI dX2_name_53 fl_X2_104 (gL_3 hg) rfl ?_
  refine x_iast dX2_name_56 (gL_20 hg) (zvp rfl) ?_
  exact x_vret (S := []) dX2_name_57 rfl ⟨rfl, rfl, h⟩
abbrev p_X2_value_43 (d : Nat) (g : zG) (K : Int32 → zI → Prop) (σ : zI) (l2 : Nat) (l3 : Int32) (l4 : Int32) : Prop := zX mX2_value (d + 1) 0 0 43 [.ref 3, .retAddr 0, .ref l2, .int l3, .int l4] [] g σ (zqI g K)
abbrev p_X2_value_110 (d : Nat) (g : zG) (K : Int32 → zI → Prop) (σ : zI) (l2 : Nat) (l3 : Int32) (l4 : Int32) (l5 : Int32) : Prop := zX mX2_value (d + 1) 0 0 110 [.ref 3, .retAddr 0, .ref l2, .int l3, .int l4, .int l5] [] g σ (zqI g K)
set_option maxRecDepth 20000 in
theorem s_X2_value {d : Nat} {g : zG} {σ : zI} {K : Int32 → zI → Prop} (hg : zGL g) {l1 : Int32} (h : (if ((σ 3 6) < 0 : Prop) then K 0 σ else (if ((σ 3 6) < 6 : Prop) then vp_in (σ 3 6) 6 ∧ vp_in (σ 3 6) 6 ∧ vp_in l1 3 ∧ p_X2_value_43 d g K σ (7 + ((σ 3 6 : Int32).toNatClampNeg)) 0 (σ (14 + ((σ 3 6 : Int32).toNatClampNeg)) l1.toNatClampNeg) else K 0 σ))) : zCI mX2_value (d + 1) [.ref 3, .int l1] g σ K := by
  refine c_of_x pn_mX2_value rfl (Nat.le_of_ble_eq_true rfl) ?_
  change zX _ _ 0 0 0 [.ref 3, .int l1] [] g σ _
  refine x_aload_n dX2_value_0 rfl ?_
  refine x_getI dX2_value_1 fl_X2_110 (gL_3 hg) rfl ?_
  refine x_if_lt (tgt := 16) dX2_value_4 rfl (fun q1 => ?_) (fun q1 => ?_)
  · replace h := itT q1 h
    refine x_iconst (v := 0) dX2_value_16 rfl ?_
    exact x_iret (S := []) dX2_value_17 rfl rfl ⟨_, rfl, rfl, h⟩
  · replace h := itF q1 h
    refine x_aload_n dX2_value_7 rfl ?_
    refine x_getI dX2_value_8 fl_X2_110 (gL_3 hg) rfl ?_
    refine x_bipush (v := 6) dX2_value_11 rfl ?_
    refine x_icmp_lt (tgt := 18) dX2_value_13 rfl (fun q2 => ?_) (fun q2 => ?_)
    · replace h := itT q2 h
      refine x_aload_n dX2_value_18 rfl ?_
      refine x_getR dX2_value_19 fl_X2_20 (gL_3 hg) rfl (gL_3_1 hg) ?_
      refine x_aload_n dX2_value_22 rfl ?_
      refine x_getI dX2_value_23 fl_X2_110 (gL_3 hg) rfl ?_
      obtain ⟨q3, h⟩ := h
      refine x_aald (t := 2) dX2_value_26 (gL_6 hg) (by decide) q3 (gr_codesL hg q3).1 ?_
      refine x_astore_n dX2_value_27 rfl (Nat.le_of_ble_eq_true rfl) (L2 := [_, _, _]) rfl ?_
      refine x_iconst (v := 0) dX2_value_28 rfl ?_
      refine x_istore_n dX2_value_29 rfl (Nat.le_of_ble_eq_true rfl) (L2 := [_, _, _, _]) rfl ?_
      refine x_aload_n dX2_value_30 rfl ?_
      refine x_getR dX2_value_31 fl_X2_23 (gL_3 hg) rfl (gL_3_2 hg) ?_
      refine x_aload_n dX2_value_34 rfl ?_
      refine x_getI dX2_value_35 fl_X2_110 (gL_3 hg) rfl ?_
      obtain ⟨q4, h⟩ := h
      refine x_aald (t := 2) dX2_value_38 (gL_13 hg) (by decide) q4 (gr_startsL hg q4).1 ?_
      refine x_iload_n dX2_value_39 rfl ?_
      obtain ⟨q5, h⟩ := h
      refine x_iald dX2_value_40 (gr_startsL hg q4).2 q5 ?_
      refine x_istore dX2_value_41 rfl (Nat.le_of_ble_eq_true rfl) (L2 := [_, _, _, _, _]) rfl ?_
      exact x_wk (wC (wJ (wC (wC (wC (wN _)))))) h
    · replace h := itF q2 h
      refine x_iconst (v := 0) dX2_value_16 rfl ?_
      exact x_iret (S := []) dX2_value_17 rfl rfl ⟨_, rfl, rfl, h⟩
set_option maxRecDepth 20000 in
theorem s_X2_value_43 {d : Nat} {g : zG} {σ : zI} {K : Int32 → zI → Prop} (hg : zGL g) {l2 : Nat} (h_l2 : zAr g l2 1 160) {l3 : Int32} {l4 : Int32} (h : (if ((nI 160) ≤ l4 : Prop) then (if (1 ≤ l3 : Prop) then vp_in (l3 - 1) 64 ∧ K (σ 21 ((l3 - 1 : Int32).toNatClampNeg)) σ else K 0 σ) else vp_in l4 160 ∧ (if ((σ l2 l4.toNatClampNeg) = (-30) : Prop) then (if (1 ≤ l3 : Prop) then vp_in (l3 - 1) 64 ∧ K (σ 21 ((l3 - 1 : Int32).toNatClampNeg)) σ else K 0 σ) else vp_in l4 160 ∧ (if ((σ l2 l4.toNatClampNeg) ≤ (-10) : Prop) then (if ((σ l2 l4.toNatClampNeg) = (-12) : Prop) then p_X2_value_110 d g K σ l2 l3 l4 (σ l2 l4.toNatClampNeg) else (if ((σ l2 l4.toNatClampNeg) = (-11) : Prop) then p_X2_value_110 d g K σ l2 l3 l4 (σ l2 l4.toNatClampNeg) else (if (l3 < 2 : Prop) then p_X2_value_43 d g K σ l2 l3 (l4 + 1) else vp_in ((l3 + (-1)) - 1) 64 ∧ vp_in (l3 + (-1)) 64 ∧ zCI mX2_joined d [.int (σ l2 l4.toNatClampNeg), .int (σ 21 (((l3 + (-1)) - 1 : Int32).toNatClampNeg)), .int (σ 21 ((l3 + (-1) : Int32).toNatClampNeg))] g σ (fun v1 σ1 => vp_in ((l3 + (-1)) - 1) 64 ∧ p_X2_value_43 d g K (zsI σ1 21 (((l3 + (-1)) - 1 : Int32).toNatClampNeg) v1) l2 (l3 + (-1)) (l4 + 1))))) else (if (64 ≤ l3 : Prop) then p_X2_value_43 d g K σ l2 l3 (l4 + 1) else zCI mX2_operand d [.ref 3, .int (σ l2 l4.toNatClampNeg)] g σ (fun v1 σ1 => vp_in l3 64 ∧ p_X2_value_43 d g K (zsI σ1 21 l3.toNatClampNeg v1) l2 (l3 + 1) (l4 + 1))))))) : p_X2_value_43 d g K σ l2 l3 l4 := by
  refine x_iload dX2_value_43 rfl ?_
  refine x_aload_n dX2_value_45 rfl ?_
  refine x_alen1 dX2_value_46 h_l2 ?_
  refine x_icmp_ge (tgt := 203) dX2_value_47 rfl (fun q1 => ?_) (fun q1 => ?_)
  · replace h := itT q1 h
    refine x_iload_n dX2_value_203 rfl ?_
    refine x_iconst (v := 1) dX2_value_204 rfl ?_
    refine x_icmp_ge (tgt := 212) dX2_value_205 rfl (fun q2 => ?_) (fun q2 => ?_)
    · replace h := itT q2 h
      refine x_aload_n dX2_value_212 rfl ?_
      refine x_getR dX2_value_213 fl_X2_30 (gL_3 hg) rfl (gL_3_4 hg) ?_
      refine x_iload_n dX2_value_216 rfl ?_
      refine x_iconst (v := 1) dX2_value_217 rfl ?_
      refine x_isub dX2_value_218 ?_
      obtain ⟨q3, h⟩ := h
      refine x_iald dX2_value_219 (gL_21 hg) q3 ?_
      exact x_iret (S := []) dX2_value_220 rfl rfl ⟨_, rfl, rfl, h⟩
    · replace h := itF q2 h
      refine x_iconst (v := 0) dX2_value_208 rfl ?_
      refine x_goto (tgt := 220) dX2_value_209 rfl ?_
      exact x_iret (S := []) dX2_value_220 rfl rfl ⟨_, rfl, rfl, h⟩
  · replace h := itF q1 h
    refine x_aload_n dX2_value_50 rfl ?_
    refine x_iload dX2_value_51 rfl ?_
    obtain ⟨q2, h⟩ := h
    refine x_iald dX2_value_53 h_l2 q2 ?_
    refine x_bipush (v := (-30)) dX2_value_54 rfl ?_
    refine x_icmp_eq (tgt := 203) dX2_value_56 rfl (fun q3 => ?_) (fun q3 => ?_)
    · replace h := itT q3 h
      refine x_iload_n dX2_value_203 rfl ?_
      refine x_iconst (v := 1) dX2_value_204 rfl ?_
      refine x_icmp_ge (tgt := 212) dX2_value_205 rfl (fun q4 => ?_) (fun q4 => ?_)
      · replace h := itT q4 h
        refine x_aload_n dX2_value_212 rfl ?_
        refine x_getR dX2_value_213 fl_X2_30 (gL_3 hg) rfl (gL_3_4 hg) ?_
        refine x_iload_n dX2_value_216 rfl ?_
        refine x_iconst (v := 1) dX2_value_217 rfl ?_
        refine x_isub dX2_value_218 ?_
        obtain ⟨q5, h⟩ := h
        refine x_iald dX2_value_219 (gL_21 hg) q5 ?_
        exact x_iret (S := []) dX2_value_220 rfl rfl ⟨_, rfl, rfl, h⟩
      · replace h := itF q4 h
        refine x_iconst (v := 0) dX2_value_208 rfl ?_
        refine x_goto (tgt := 220) dX2_value_209 rfl ?_
        exact x_iret (S := []) dX2_value_220 rfl rfl ⟨_, rfl, rfl, h⟩
    · replace h := itF q3 h
      refine x_aload_n dX2_value_59 rfl ?_
      refine x_iload dX2_value_60 rfl ?_
      obtain ⟨q4, h⟩ := h
      refine x_iald dX2_value_62 h_l2 q4 ?_
      refine x_istore dX2_value_63 rfl (Nat.le_of_ble_eq_true rfl) (L2 := [_, _, _, _, _, _]) rfl ?_
      refine x_iload dX2_value_65 rfl ?_
      refine x_bipush (v := (-10)) dX2_value_67 rfl ?_
      refine x_icmp_le (tgt := 96) dX2_value_69 rfl (fun q5 => ?_) (fun q5 => ?_)
      · replace h := itT q5 h
        refine x_iload dX2_value_96 rfl ?_
        refine x_bipush (v := (-12)) dX2_value_98 rfl ?_
        refine x_icmp_eq (tgt := 110) dX2_value_100 rfl (fun q6 => ?_) (fun q6 => ?_)
        · replace h := itT q6 h
          exact h
        · replace h := itF q6 h
          refine x_iload dX2_value_103 rfl ?_
          refine x_bipush (v := (-11)) dX2_value_105 rfl ?_
          refine x_icmp_ne (tgt := 162) dX2_value_107 rfl (fun q7 => ?_) (fun q7 => ?_)
          · replace h := itF q7 h
            refine x_iload_n dX2_value_162 rfl ?_
            refine x_iconst (v := 2) dX2_value_163 rfl ?_
            refine x_icmp_lt (tgt := 197) dX2_value_164 rfl (fun q8 => ?_) (fun q8 => ?_)
            · replace h := itT q8 h
              refine x_iinc dX2_value_197 rfl (v := l4 + 1) rfl rfl (Nat.le_of_ble_eq_true rfl) (L2 := [_, _, _, _, _, _]) rfl ?_
              refine x_goto (tgt := 43) dX2_value_200 rfl ?_
              exact x_wk (wC (wJ (wC (wC (wC (wN _)))))) h
            · replace h := itF q8 h
              refine x_iinc dX2_value_167 rfl (v := l3 + (-1)) rfl rfl (Nat.le_of_ble_eq_true rfl) (L2 := [_, _, _, _, _, _]) rfl ?_
              refine x_aload_n dX2_value_170 rfl ?_
              refine x_getR dX2_value_171 fl_X2_30 (gL_3 hg) rfl (gL_3_4 hg) ?_
              refine x_iload_n dX2_value_174 rfl ?_
              refine x_iconst (v := 1) dX2_value_175 rfl ?_
              refine x_isub dX2_value_176 ?_
              refine x_iload dX2_value_177 rfl ?_
              refine x_aload_n dX2_value_179 rfl ?_
              refine x_getR dX2_value_180 fl_X2_30 (gL_3 hg) rfl (gL_3_4 hg) ?_
              refine x_iload_n dX2_value_183 rfl ?_
              refine x_iconst (v := 1) dX2_value_184 rfl ?_
              refine x_isub dX2_value_185 ?_
              obtain ⟨q9, h⟩ := h
              refine x_iald dX2_value_186 (gL_21 hg) q9 ?_
              refine x_aload_n dX2_value_187 rfl ?_
              refine x_getR dX2_value_188 fl_X2_30 (gL_3 hg) rfl (gL_3_4 hg) ?_
              refine x_iload_n dX2_value_191 rfl ?_
              obtain ⟨q10, h⟩ := h
              refine x_iald dX2_value_192 (gL_21 hg) q10 ?_
              refine x_callS (Y2 := mX2_joined) (as := [.int (σ l2 l4.toNatClampNeg), .int (σ 21 (((l3 + (-1)) - 1 : Int32).toNatClampNeg)), .int (σ 21 ((l3 + (-1) : Int32).toNatClampNeg))]) (S := [.int ((l3 + (-1)) - 1), .ref 21]) (kc2 := 0) (ks2 := 0) st_mX2_joined dX2_value_193 lk_X2_116 mo_mX2_joined rfl rfl (Nat.le_of_ble_eq_true rfl) (Or.inl rfl) rfl rfl h ?_
              rintro _ _ σ1 ⟨v1, rfl, rfl, h⟩
              change zX _ _ 0 0 196 _ [.int v1, .int ((l3 + (-1)) - 1), .ref 21] _ _ _
              obtain ⟨q11, h⟩ := h
              refine x_iast dX2_value_196 (gL_21 hg) q11 ?_
              refine x_iinc dX2_value_197 rfl (v := l4 + 1) rfl rfl (Nat.le_of_ble_eq_true rfl) (L2 := [_, _, _, _, _, _]) rfl ?_
              refine x_goto (tgt := 43) dX2_value_200 rfl ?_
              exact x_wk (wC (wJ (wC (wC (wC (wN _)))))) h
          · replace h := itT q7 h
            exact h
      · replace h := itF q5 h
        refine x_iload_n dX2_value_72 rfl ?_
        refine x_bipush (v := 64) dX2_value_73 rfl ?_
        refine x_icmp_ge (tgt := 197) dX2_value_75 rfl (fun q6 => ?_) (fun q6 => ?_)
        · replace h := itT q6 h
          refine x_iinc dX2_value_197 rfl (v := l4 + 1) rfl rfl (Nat.le_of_ble_eq_true rfl) (L2 := [_, _, _, _, _, _]) rfl ?_
          refine x_goto (tgt := 43) dX2_value_200 rfl ?_
          exact x_wk (wC (wJ (wC (wC (wC (wN _)))))) h
        · replace h := itF q6 h
          refine x_aload_n dX2_value_78 rfl ?_
          refine x_getR dX2_value_79 fl_X2_30 (gL_3 hg) rfl (gL_3_4 hg) ?_
          refine x_iload_n dX2_value_82 rfl ?_
          refine x_aload_n dX2_value_83 rfl ?_
          refine x_iload dX2_value_84 rfl ?_
          refine x_callV (Y2 := mX2_operand) (as := [.int (σ l2 l4.toNatClampNeg)]) (S := [.int l3, .ref 21]) (kc2 := 0) (ks2 := 0) mv_mX2_operand (Or.inl ⟨2, _, rfl, rfl, (gL_3 hg)⟩) dX2_value_86 lk_X2_113 mo_mX2_operand rfl rfl (Nat.le_of_ble_eq_true rfl) (Or.inl rfl) rfl rfl h ?_
          rintro _ _ σ1 ⟨v1, rfl, rfl, h⟩
          change zX _ _ 0 0 89 _ [.int v1, .int l3, .ref 21] _ _ _
          obtain ⟨q7, h⟩ := h
          refine x_iast dX2_value_89 (gL_21 hg) q7 ?_
          refine x_iinc dX2_value_90 rfl (v := l3 + 1) rfl rfl (Nat.le_of_ble_eq_true rfl) (L2 := [_, _, _, _, _, _]) rfl ?_
          refine x_goto (tgt := 197) dX2_value_93 rfl ?_
          refine x_iinc dX2_value_197 rfl (v := l4 + 1) rfl rfl (Nat.le_of_ble_eq_true rfl) (L2 := [_, _, _, _, _, _]) rfl ?_
          refine x_goto (tgt := 43) dX2_value_200 rfl ?_
          exact x_wk (wC (wJ (wC (wC (wC (wN _)))))) h
set_option maxRecDepth 20000 in
theorem s_X2_value_110 {d : Nat} {g : zG} {σ : zI} {K : Int32 → zI → Prop} (hg : zGL g) {l2 : Nat} (h_l2 : zAr g l2 1 160) {l3 : Int32} {l4 : Int32} {l5 : Int32} (h : (if (l3 < 1 : Prop) then p_X2_value_43 d g K σ l2 l3 (l4 + 1) else vp_in (l3 - 1) 64 ∧ (if (l5 = (-11) : Prop) then (if ((σ 21 ((l3 - 1 : Int32).toNatClampNeg)) = 0 : Prop) then zCI mX7_truth d [.int 1] g σ (fun v1 σ1 => vp_in (l3 - 1) 64 ∧ p_X2_value_43 d g K (zsI σ1 21 ((l3 - 1 : Int32).toNatClampNeg) v1) l2 l3 (l4 + 1)) else zCI mX7_truth d [.int 0] g σ (fun v1 σ1 => vp_in (l3 - 1) 64 ∧ p_X2_value_43 d g K (zsI σ1 21 ((l3 - 1 : Int32).toNatClampNeg) v1) l2 l3 (l4 + 1))) else vp_in (l3 - 1) 64 ∧ p_X2_value_43 d g K (zsI σ 21 ((l3 - 1 : Int32).toNatClampNeg) (-(σ 21 ((l3 - 1 : Int32).toNatClampNeg)))) l2 l3 (l4 + 1)))) : p_X2_value_110 d g K σ l2 l3 l4 l5 := by
  refine x_iload_n dX2_value_110 rfl ?_
  refine x_iconst (v := 1) dX2_value_111 rfl ?_
  refine x_icmp_lt (tgt := 197) dX2_value_112 rfl (fun q1 => ?_) (fun q1 => ?_)
  · replace h := itT q1 h
    refine x_iinc dX2_value_197 rfl (v := l4 + 1) rfl rfl (Nat.le_of_ble_eq_true rfl) (L2 := [_, _, _, _, _, _]) rfl ?_
    refine x_goto (tgt := 43) dX2_value_200 rfl ?_
    exact x_wk (wC (wJ (wC (wC (wC (wN _)))))) h
  · replace h := itF q1 h
    refine x_aload_n dX2_value_115 rfl ?_
    refine x_getR dX2_value_116 fl_X2_30 (gL_3 hg) rfl (gL_3_4 hg) ?_
    refine x_iload_n dX2_value_119 rfl ?_
    refine x_iconst (v := 1) dX2_value_120 rfl ?_
    refine x_isub dX2_value_121 ?_
    obtain ⟨q2, h⟩ := h
    refine x_iald dX2_value_122 (gL_21 hg) q2 ?_
    refine x_istore dX2_value_123 rfl (Nat.le_of_ble_eq_true rfl) (L2 := [_, _, _, _, _, _, _]) rfl ?_
    refine x_aload_n dX2_value_125 rfl ?_
    refine x_getR dX2_value_126 fl_X2_30 (gL_3 hg) rfl (gL_3_4 hg) ?_
    refine x_iload_n dX2_value_129 rfl ?_
    refine x_iconst (v := 1) dX2_value_130 rfl ?_
    refine x_isub dX2_value_131 ?_
    refine x_iload dX2_value_132 rfl ?_
    refine x_bipush (v := (-11)) dX2_value_134 rfl ?_
    refine x_icmp_ne (tgt := 155) dX2_value_136 rfl (fun q3 => ?_) (fun q3 => ?_)
    · replace h := itF q3 h
      refine x_iload dX2_value_155 rfl ?_
      refine x_ineg dX2_value_157 ?_
      obtain ⟨q4, h⟩ := h
      refine x_iast dX2_value_158 (gL_21 hg) q4 ?_
      refine x_goto (tgt := 197) dX2_value_159 rfl ?_
      refine x_iinc dX2_value_197 rfl (v := l4 + 1) rfl rfl (Nat.le_of_ble_eq_true rfl) (L2 := [_, _, _, _, _, _, _]) rfl ?_
      refine x_goto (tgt := 43) dX2_value_200 rfl ?_
      exact x_wk (wC (wJ (wC (wC (wC (wN _)))))) h
    · replace h := itT q3 h
      refine x_iload dX2_value_139 rfl ?_
      refine x_if_ne (tgt := 148) dX2_value_141 rfl (fun q4 => ?_) (fun q4 => ?_)
      · replace h := itF q4 h
        refine x_iconst (v := 0) dX2_value_148 rfl ?_
        refine x_callS (Y2 := mX7_truth) (as := [.int 0]) (S := [.int (l3 - 1), .ref 21]) (kc2 := 0) (ks2 := 0) st_mX7_truth dX2_value_149 lk_X2_69 mo_mX7_truth rfl rfl (Nat.le_of_ble_eq_true rfl) (Or.inl rfl) rfl rfl h ?_
        rintro _ _ σ1 ⟨v1, rfl, rfl, h⟩
        change zX _ _ 0 0 152 _ [.int v1, .int (l3 - 1), .ref 21] _ _ _
        refine x_goto (tgt := 158) dX2_value_152 rfl ?_
        obtain ⟨q5, h⟩ := h
        refine x_iast dX2_value_158 (gL_21 hg) q5 ?_
        refine x_goto (tgt := 197) dX2_value_159 rfl ?_
        refine x_iinc dX2_value_197 rfl (v := l4 + 1) rfl rfl (Nat.le_of_ble_eq_true rfl) (L2 := [_, _, _, _, _, _, _]) rfl ?_
        refine x_goto (tgt := 43) dX2_value_200 rfl ?_
        exact x_wk (wC (wJ (wC (wC (wC (wN _)))))) h
      · replace h := itT q4 h
        refine x_iconst (v := 1) dX2_value_144 rfl ?_
        refine x_goto (tgt := 149) dX2_value_145 rfl ?_
        refine x_callS (Y2 := mX7_truth) (as := [.int 1]) (S := [.int (l3 - 1), .ref 21]) (kc2 := 0) (ks2 := 0) st_mX7_truth dX2_value_149 lk_X2_69 mo_mX7_truth rfl rfl (Nat.le_of_ble_eq_true rfl) (Or.inl rfl) rfl rfl h ?_
        rintro _ _ σ1 ⟨v1, rfl, rfl, h⟩
        change zX _ _ 0 0 152 _ [.int v1, .int (l3 - 1), .ref 21] _ _ _
        refine x_goto (tgt := 158) dX2_value_152 rfl ?_
        obtain ⟨q5, h⟩ := h
        refine x_iast dX2_value_158 (gL_21 hg) q5 ?_
        refine x_goto (tgt := 197) dX2_value_159 rfl ?_
        refine x_iinc dX2_value_197 rfl (v := l4 + 1) rfl rfl (Nat.le_of_ble_eq_true rfl) (L2 := [_, _, _, _, _, _, _]) rfl ?_
        refine x_goto (tgt := 43) dX2_value_200 rfl ?_
        exact x_wk (wC (wJ (wC (wC (wC (wN _)))))) h
set_option maxRecDepth 20000 in
theorem s_X2_operand {d : Nat} {g : zG} {σ : zI} {K : Int32 → zI → Prop} (hg : zGL g) {l1 : Int32} (h : (if (l1 < 0 : Prop) then (if (6 ≤ ((-1) - l1) : Prop) then K 0 σ else vp_in ((-1) - l1) 6 ∧ K (σ 20 (((-1) - l1 : Int32).toNatClampNeg)) σ) else K l1 σ)) : zCI mX2_operand d [.ref 3, .int l1] g σ K := by
  refine c_of_x pn_mX2_operand rfl (Nat.le_of_ble_eq_true rfl) ?_
  change zX _ _ 0 0 0 [.ref 3, .int l1] [] g σ _
  refine x_iload_n dX2_operand_0 rfl ?_
  refine x_if_lt (tgt := 6) dX2_operand_1 rfl (fun q1 => ?_) (fun q1 => ?_)
  · rw [if_pos q1] at h
    refine x_iconst (v := (-1)) dX2_operand_6 rfl ?_
    refine x_iload_n dX2_operand_7 rfl ?_
    refine x_isub dX2_operand_8 ?_
    refine x_istore_n dX2_operand_9 rfl (Nat.le_of_ble_eq_true rfl) (L2 := [_, _, _]) rfl ?_
    refine x_iload_n dX2_operand_10 rfl ?_
    refine x_bipush (v := 6) dX2_operand_11 rfl ?_
    refine x_icmp_ge (tgt := 25) dX2_operand_13 rfl (fun q2 => ?_) (fun q2 => ?_)
    · rw [if_pos q2] at h
      refine x_iconst (v := 0) dX2_operand_25 rfl ?_
      exact x_iret (S := []) dX2_operand_26 rfl rfl ⟨_, rfl, rfl, h⟩
    · rw [if_neg q2] at h
      refine x_aload_n dX2_operand_16 rfl ?_
      refine x_getR dX2_operand_17 fl_X2_26 (gL_3 hg) rfl (gL_3_3 hg) ?_
      refine x_iload_n dX2_operand_20 rfl ?_
      obtain ⟨q3, h⟩ := h
      refine x_iald dX2_operand_21 (gL_20 hg) q3 ?_
      refine x_goto (tgt := 26) dX2_operand_22 rfl ?_
      exact x_iret (S := []) dX2_operand_26 rfl rfl ⟨_, rfl, rfl, h⟩
  · rw [if_neg q1] at h
    refine x_iload_n dX2_operand_4 rfl ?_
    exact x_iret (S := []) dX2_operand_5 rfl rfl ⟨_, rfl, rfl, h⟩
set_option maxRecDepth 20000 in
theorem s_X2_joined {d : Nat} {g : zG} {σ : zI} {K : Int32 → zI → Prop} (hg : zGL g) {l0 : Int32} {l1 : Int32} {l2 : Int32} (h : (if (l0 = (-25) : Prop) then (if (l1 = 0 : Prop) then zCI mX7_truth d [.int 0] g σ (fun v1 σ1 => K v1 σ1) else (if (l2 = 0 : Prop) then zCI mX7_truth d [.int 0] g σ (fun v1 σ1 => K v1 σ1) else zCI mX7_truth d [.int 1] g σ (fun v1 σ1 => K v1 σ1))) else (if (l0 = (-24) : Prop) then (if (l1 = l2 : Prop) then zCI mX7_truth d [.int 1] g σ (fun v1 σ1 => K v1 σ1) else zCI mX7_truth d [.int 0] g σ (fun v1 σ1 => K v1 σ1)) else (if (l0 = (-23) : Prop) then (if (l2 ≤ l1 : Prop) then zCI mX7_truth d [.int 0] g σ (fun v1 σ1 => K v1 σ1) else zCI mX7_truth d [.int 1] g σ (fun v1 σ1 => K v1 σ1)) else (if (l0 = (-22) : Prop) then K (l1 - l2) σ else (if (l0 = (-21) : Prop) then K (l1 + l2) σ else (if (l0 = (-20) : Prop) then K (l1 * l2) σ else (if (l1 = 0 : Prop) then (if (l2 = 0 : Prop) then zCI mX7_truth d [.int 0] g σ (fun v1 σ1 => K v1 σ1) else zCI mX7_truth d [.int 1] g σ (fun v1 σ1 => K v1 σ1)) else zCI mX7_truth d [.int 1] g σ (fun v1 σ1 => K v1 σ1))))))))) : zCI mX2_joined (d + 1) [.int l0, .int l1, .int l2] g σ K := by
  refine c_of_x pn_mX2_joined rfl (Nat.le_of_ble_eq_true rfl) ?_
  change zX _ _ 0 0 0 [.int l0, .int l1, .int l2] [] g σ _
  refine x_iload_n dX2_joined_0 rfl ?_
  by_cases q1 : l0 = (-25)
  · refine x_tsw (tgt := 80) dX2_joined_1 (by rw [q1]; decide) (by rw [q1]; decide) (by rw [q1]; rfl) rfl ?_
    replace h := itT q1 h
    refine x_iload_n dX2_joined_80 rfl ?_
    refine x_if_eq (tgt := 92) dX2_joined_81 rfl (fun q2 => ?_) (fun q2 => ?_)
    · replace h := itT q2 h
      refine x_iconst (v := 0) dX2_joined_92 rfl ?_
      refine x_callS (Y2 := mX7_truth) (as := [.int 0]) (S := []) (kc2 := 0) (ks2 := 0) st_mX7_truth dX2_joined_93 lk_X2_69 mo_mX7_truth rfl rfl (Nat.le_of_ble_eq_true rfl) (Or.inl rfl) rfl rfl h ?_
      rintro _ _ σ1 ⟨v1, rfl, rfl, h⟩
      change zX _ _ 0 0 96 _ [.int v1] _ _ _
      exact x_iret (S := []) dX2_joined_96 rfl rfl ⟨_, rfl, rfl, h⟩
    · replace h := itF q2 h
      refine x_iload_n dX2_joined_84 rfl ?_
      refine x_if_eq (tgt := 92) dX2_joined_85 rfl (fun q3 => ?_) (fun q3 => ?_)
      · replace h := itT q3 h
        refine x_iconst (v := 0) dX2_joined_92 rfl ?_
        refine x_callS (Y2 := mX7_truth) (as := [.int 0]) (S := []) (kc2 := 0) (ks2 := 0) st_mX7_truth dX2_joined_93 lk_X2_69 mo_mX7_truth rfl rfl (Nat.le_of_ble_eq_true rfl) (Or.inl rfl) rfl rfl h ?_
        rintro _ _ σ1 ⟨v1, rfl, rfl, h⟩
        change zX _ _ 0 0 96 _ [.int v1] _ _ _
        exact x_iret (S := []) dX2_joined_96 rfl rfl ⟨_, rfl, rfl, h⟩
      · replace h := itF q3 h
        refine x_iconst (v := 1) dX2_joined_88 rfl ?_
        refine x_goto (tgt := 93) dX2_joined_89 rfl ?_
        refine x_callS (Y2 := mX7_truth) (as := [.int 1]) (S := []) (kc2 := 0) (ks2 := 0) st_mX7_truth dX2_joined_93 lk_X2_69 mo_mX7_truth rfl rfl (Nat.le_of_ble_eq_true rfl) (Or.inl rfl) rfl rfl h ?_
        rintro _ _ σ1 ⟨v1, rfl, rfl, h⟩
        change zX _ _ 0 0 96 _ [.int v1] _ _ _
        exact x_iret (S := []) dX2_joined_96 rfl rfl ⟨_, rfl, rfl, h⟩
  · replace h := itF q1 h
    by_cases q2 : l0 = (-24)
    · refine x_tsw (tgt := 66) dX2_joined_1 (by rw [q2]; decide) (by rw [q2]; decide) (by rw [q2]; rfl) rfl ?_
      replace h := itT q2 h
      refine x_iload_n dX2_joined_66 rfl ?_
      refine x_iload_n dX2_joined_67 rfl ?_
      refine x_icmp_ne (tgt := 75) dX2_joined_68 rfl (fun q3 => ?_) (fun q3 => ?_)
      · replace h := itF q3 h
        refine x_iconst (v := 0) dX2_joined_75 rfl ?_
        refine x_callS (Y2 := mX7_truth) (as := [.int 0]) (S := []) (kc2 := 0) (ks2 := 0) st_mX7_truth dX2_joined_76 lk_X2_69 mo_mX7_truth rfl rfl (Nat.le_of_ble_eq_true rfl) (Or.inl rfl) rfl rfl h ?_
        rintro _ _ σ1 ⟨v1, rfl, rfl, h⟩
        change zX _ _ 0 0 79 _ [.int v1] _ _ _
        exact x_iret (S := []) dX2_joined_79 rfl rfl ⟨_, rfl, rfl, h⟩
      · replace h := itT q3 h
        refine x_iconst (v := 1) dX2_joined_71 rfl ?_
        refine x_goto (tgt := 76) dX2_joined_72 rfl ?_
        refine x_callS (Y2 := mX7_truth) (as := [.int 1]) (S := []) (kc2 := 0) (ks2 := 0) st_mX7_truth dX2_joined_76 lk_X2_69 mo_mX7_truth rfl rfl (Nat.le_of_ble_eq_true rfl) (Or.inl rfl) rfl rfl h ?_
        rintro _ _ σ1 ⟨v1, rfl, rfl, h⟩
        change zX _ _ 0 0 79 _ [.int v1] _ _ _
        exact x_iret (S := []) dX2_joined_79 rfl rfl ⟨_, rfl, rfl, h⟩
    · replace h := itF q2 h
      by_cases q3 : l0 = (-23)
      · refine x_tsw (tgt := 52) dX2_joined_1 (by rw [q3]; decide) (by rw [q3]; decide) (by rw [q3]; rfl) rfl ?_
        replace h := itT q3 h
        refine x_iload_n dX2_joined_52 rfl ?_
        refine x_iload_n dX2_joined_53 rfl ?_
        refine x_icmp_ge (tgt := 61) dX2_joined_54 rfl (fun q4 => ?_) (fun q4 => ?_)
        · replace h := itT q4 h
          refine x_iconst (v := 0) dX2_joined_61 rfl ?_
          refine x_callS (Y2 := mX7_truth) (as := [.int 0]) (S := []) (kc2 := 0) (ks2 := 0) st_mX7_truth dX2_joined_62 lk_X2_69 mo_mX7_truth rfl rfl (Nat.le_of_ble_eq_true rfl) (Or.inl rfl) rfl rfl h ?_
          rintro _ _ σ1 ⟨v1, rfl, rfl, h⟩
          change zX _ _ 0 0 65 _ [.int v1] _ _ _
          exact x_iret (S := []) dX2_joined_65 rfl rfl ⟨_, rfl, rfl, h⟩
        · replace h := itF q4 h
          refine x_iconst (v := 1) dX2_joined_57 rfl ?_
          refine x_goto (tgt := 62) dX2_joined_58 rfl ?_
          refine x_callS (Y2 := mX7_truth) (as := [.int 1]) (S := []) (kc2 := 0) (ks2 := 0) st_mX7_truth dX2_joined_62 lk_X2_69 mo_mX7_truth rfl rfl (Nat.le_of_ble_eq_true rfl) (Or.inl rfl) rfl rfl h ?_
          rintro _ _ σ1 ⟨v1, rfl, rfl, h⟩
          change zX _ _ 0 0 65 _ [.int v1] _ _ _
          exact x_iret (S := []) dX2_joined_65 rfl rfl ⟨_, rfl, rfl, h⟩
      · replace h := itF q3 h
        by_cases q4 : l0 = (-22)
        · refine x_tsw (tgt := 48) dX2_joined_1 (by rw [q4]; decide) (by rw [q4]; decide) (by rw [q4]; rfl) rfl ?_
          replace h := itT q4 h
          refine x_iload_n dX2_joined_48 rfl ?_
          refine x_iload_n dX2_joined_49 rfl ?_
          refine x_isub dX2_joined_50 ?_
          exact x_iret (S := []) dX2_joined_51 rfl rfl ⟨_, rfl, rfl, h⟩
        · replace h := itF q4 h
          by_cases q5 : l0 = (-21)
          · refine x_tsw (tgt := 44) dX2_joined_1 (by rw [q5]; decide) (by rw [q5]; decide) (by rw [q5]; rfl) rfl ?_
            replace h := itT q5 h
            refine x_iload_n dX2_joined_44 rfl ?_
            refine x_iload_n dX2_joined_45 rfl ?_
            refine x_iadd dX2_joined_46 ?_
            exact x_iret (S := []) dX2_joined_47 rfl rfl ⟨_, rfl, rfl, h⟩
          · replace h := itF q5 h
            by_cases q6 : l0 = (-20)
            · refine x_tsw (tgt := 40) dX2_joined_1 (by rw [q6]; decide) (by rw [q6]; decide) (by rw [q6]; rfl) rfl ?_
              replace h := itT q6 h
              refine x_iload_n dX2_joined_40 rfl ?_
              refine x_iload_n dX2_joined_41 rfl ?_
              refine x_imul dX2_joined_42 ?_
              exact x_iret (S := []) dX2_joined_43 rfl rfl ⟨_, rfl, rfl, h⟩
            · replace h := itF q6 h
              refine x_tswd (tgt := 97) dX2_joined_1 (by have z0 := lv_neT (a := (-25)) q1 rfl; have z1 := lv_neT (a := (-24)) q2 rfl; have z2 := lv_neT (a := (-23)) q3 rfl; have z3 := lv_neT (a := (-22)) q4 rfl; have z4 := lv_neT (a := (-21)) q5 rfl; have z5 := lv_neT (a := (-20)) q6 rfl; omega) rfl ?_
              refine x_iload_n dX2_joined_97 rfl ?_
              refine x_if_ne (tgt := 105) dX2_joined_98 rfl (fun q7 => ?_) (fun q7 => ?_)
              · replace h := itF q7 h
                refine x_iconst (v := 1) dX2_joined_105 rfl ?_
                refine x_goto (tgt := 110) dX2_joined_106 rfl ?_
                refine x_callS (Y2 := mX7_truth) (as := [.int 1]) (S := []) (kc2 := 0) (ks2 := 0) st_mX7_truth dX2_joined_110 lk_X2_69 mo_mX7_truth rfl rfl (Nat.le_of_ble_eq_true rfl) (Or.inl rfl) rfl rfl h ?_
                rintro _ _ σ1 ⟨v1, rfl, rfl, h⟩
                change zX _ _ 0 0 113 _ [.int v1] _ _ _
                exact x_iret (S := []) dX2_joined_113 rfl rfl ⟨_, rfl, rfl, h⟩
              · replace h := itT q7 h
                refine x_iload_n dX2_joined_101 rfl ?_
                refine x_if_eq (tgt := 109) dX2_joined_102 rfl (fun q8 => ?_) (fun q8 => ?_)
                · replace h := itT q8 h
                  refine x_iconst (v := 0) dX2_joined_109 rfl ?_
                  refine x_callS (Y2 := mX7_truth) (as := [.int 0]) (S := []) (kc2 := 0) (ks2 := 0) st_mX7_truth dX2_joined_110 lk_X2_69 mo_mX7_truth rfl rfl (Nat.le_of_ble_eq_true rfl) (Or.inl rfl) rfl rfl h ?_
                  rintro _ _ σ1 ⟨v1, rfl, rfl, h⟩
                  change zX _ _ 0 0 113 _ [.int v1] _ _ _
                  exact x_iret (S := []) dX2_joined_113 rfl rfl ⟨_, rfl, rfl, h⟩
                · replace h := itF q8 h
                  refine x_iconst (v := 1) dX2_joined_105 rfl ?_
                  refine x_goto (tgt := 110) dX2_joined_106 rfl ?_
                  refine x_callS (Y2 := mX7_truth) (as := [.int 1]) (S := []) (kc2 := 0) (ks2 := 0) st_mX7_truth dX2_joined_110 lk_X2_69 mo_mX7_truth rfl rfl (Nat.le_of_ble_eq_true rfl) (Or.inl rfl) rfl rfl h ?_
                  rintro _ _ σ1 ⟨v1, rfl, rfl, h⟩
                  change zX _ _ 0 0 113 _ [.int v1] _ _ _
                  exact x_iret (S := []) dX2_joined_113 rfl rfl ⟨_, rfl, rfl, h⟩
set_option maxRecDepth 20000 in
theorem s_X2_bounded {d : Nat} {g : zG} {σ : zI} {K : Int32 → zI → Prop} (hg : zGL g) {l0 : Int32} (h : K (if 0 < (if l0 < 99 then l0 else 99) then (if l0 < 99 then l0 else 99) else 0) σ) : zCI mX2_bounded (d + 1) [.int l0] g σ K := by
  refine c_of_x pn_mX2_bounded rfl (Nat.le_of_ble_eq_true rfl) ?_
  change zX _ _ 0 0 0 [.int l0] [] g σ _
  refine x_iconst (v := 0) dX2_bounded_0 rfl ?_
  refine x_bipush (v := 99) dX2_bounded_1 rfl ?_
  refine x_iload_n dX2_bounded_3 rfl ?_
  refine x_mmin dX2_bounded_4 lw_X2_107 tw_min1 tw_math tw_min2 (Nat.le_of_ble_eq_true rfl) ?_
  refine x_mmax dX2_bounded_7 lw_X2_87 tw_max1 tw_math tw_max2 (Nat.le_of_ble_eq_true rfl) ?_
  exact x_iret (S := []) dX2_bounded_10 rfl rfl ⟨_, rfl, rfl, h⟩
set_option maxRecDepth 20000 in
theorem s_X0_costsFor {d : Nat} {g : zG} {σ : zI} {K : Int32 → zI → Prop} (hg : zGA g) {l0 : Nat} (h0 : zOb g l0 0) {l1 : Int32} (h : (if ((σ l0 1) = 1 : Prop) then K (l1 + 1) σ else (if ((σ l0 1) = 2 : Prop) then K (l1 + (σ l0 2)) σ else (if ((σ l0 1) = 3 : Prop) then K ((l1 + 1) / 2) σ else (if ((σ l0 1) = 4 : Prop) then K (l1 + (σ l0 2)) σ else (if ((σ l0 1) = 5 : Prop) then K (2 * l1) σ else K l1 σ)))))) : zCI mX0_costsFor d [.ref l0, .int l1] g σ K := by
  refine c_of_x pn_mX0_costsFor rfl (Nat.le_of_ble_eq_true rfl) ?_
  change zX _ _ 0 0 0 [.ref l0, .int l1] [] g σ _
  refine x_aload_n dX0_costsFor_0 rfl ?_
  refine x_getI dX0_costsFor_1 fl_X0_15 h0 rfl ?_
  by_cases q1 : (σ l0 1) = 1
  · refine x_tsw (tgt := 40) dX0_costsFor_4 (by rw [q1]; decide) (by rw [q1]; decide) (by rw [q1]; rfl) rfl ?_
    replace h := itT q1 h
    refine x_iload_n dX0_costsFor_40 rfl ?_
    refine x_iconst (v := 1) dX0_costsFor_41 rfl ?_
    refine x_iadd dX0_costsFor_42 ?_
    exact x_iret (S := []) dX0_costsFor_43 rfl rfl ⟨_, rfl, rfl, h⟩
  · replace h := itF q1 h
    by_cases q2 : (σ l0 1) = 2
    · refine x_tsw (tgt := 44) dX0_costsFor_4 (by rw [q2]; decide) (by rw [q2]; decide) (by rw [q2]; rfl) rfl ?_
      replace h := itT q2 h
      refine x_iload_n dX0_costsFor_44 rfl ?_
      refine x_aload_n dX0_costsFor_45 rfl ?_
      refine x_getI dX0_costsFor_46 fl_X0_18 h0 rfl ?_
      refine x_iadd dX0_costsFor_49 ?_
      exact x_iret (S := []) dX0_costsFor_50 rfl rfl ⟨_, rfl, rfl, h⟩
    · replace h := itF q2 h
      by_cases q3 : (σ l0 1) = 3
      · refine x_tsw (tgt := 51) dX0_costsFor_4 (by rw [q3]; decide) (by rw [q3]; decide) (by rw [q3]; rfl) rfl ?_
        replace h := itT q3 h
        refine x_iload_n dX0_costsFor_51 rfl ?_
        refine x_iconst (v := 1) dX0_costsFor_52 rfl ?_
        refine x_iadd dX0_costsFor_53 ?_
        refine x_iconst (v := 2) dX0_costsFor_54 rfl ?_
        refine x_idiv dX0_costsFor_55 (by decide) ?_
        exact x_iret (S := []) dX0_costsFor_56 rfl rfl ⟨_, rfl, rfl, h⟩
      · replace h := itF q3 h
        by_cases q4 : (σ l0 1) = 4
        · refine x_tsw (tgt := 44) dX0_costsFor_4 (by rw [q4]; decide) (by rw [q4]; decide) (by rw [q4]; rfl) rfl ?_
          replace h := itT q4 h
          refine x_iload_n dX0_costsFor_44 rfl ?_
          refine x_aload_n dX0_costsFor_45 rfl ?_
          refine x_getI dX0_costsFor_46 fl_X0_18 h0 rfl ?_
          refine x_iadd dX0_costsFor_49 ?_
          exact x_iret (S := []) dX0_costsFor_50 rfl rfl ⟨_, rfl, rfl, h⟩
        · replace h := itF q4 h
          by_cases q5 : (σ l0 1) = 5
          · refine x_tsw (tgt := 57) dX0_costsFor_4 (by rw [q5]; decide) (by rw [q5]; decide) (by rw [q5]; rfl) rfl ?_
            replace h := itT q5 h
            refine x_iconst (v := 2) dX0_costsFor_57 rfl ?_
            refine x_iload_n dX0_costsFor_58 rfl ?_
            refine x_imul dX0_costsFor_59 ?_
            exact x_iret (S := []) dX0_costsFor_60 rfl rfl ⟨_, rfl, rfl, h⟩
          · replace h := itF q5 h
            refine x_tswd (tgt := 61) dX0_costsFor_4 (by have z0 := lv_neT (a := 1) q1 rfl; have z1 := lv_neT (a := 2) q2 rfl; have z2 := lv_neT (a := 3) q3 rfl; have z3 := lv_neT (a := 4) q4 rfl; have z4 := lv_neT (a := 5) q5 rfl; omega) rfl ?_
            refine x_iload_n dX0_costsFor_61 rfl ?_
            exact x_iret (S := []) dX0_costsFor_62 rfl rfl ⟨_, rfl, rfl, h⟩
set_option maxRecDepth 20000 in
theorem s_X2_isMeant {d : Nat} {g : zG} {σ : zI} {K : Int32 → zI → Prop} (hg : zGL g) {l1 : Nat} (h1 : zOb g l1 0) {l2 : Int32} (h : zCV mX2_name d [.ref 3, .ref l1, .int l2, .int 0] g σ (fun σ1 => zCI mX2_value d [.ref 3, .int 1] g σ1 (fun v1 σ2 => (if (v1 = 0 : Prop) then K 0 σ2 else K 1 σ2)))) : zCI mX2_isMeant (d + 1) [.ref 3, .ref l1, .int l2] g σ K := by
  refine c_of_x pn_mX2_isMeant rfl (Nat.le_of_ble_eq_true rfl) ?_
  change zX _ _ 0 0 0 [.ref 3, .ref l1, .int l2] [] g σ _
  refine x_aload_n dX2_isMeant_0 rfl ?_
  refine x_aload_n dX2_isMeant_1 rfl ?_
  refine x_iload_n dX2_isMeant_2 rfl ?_
  refine x_iconst (v := 0) dX2_isMeant_3 rfl ?_
  refine x_callV (Y2 := mX2_name) (as := [.ref l1, .int l2, .int 0]) (S := []) (kc2 := 0) (ks2 := 0) mv_mX2_name (Or.inl ⟨2, _, rfl, rfl, (gL_3 hg)⟩) dX2_isMeant_4 lk_X2_73 mo_mX2_name rfl rfl (Nat.le_of_ble_eq_true rfl) (Or.inl rfl) rfl rfl h ?_
  rintro _ _ σ1 ⟨rfl, rfl, h⟩
  change zX _ _ 0 0 7 _ [] _ _ _
  refine x_aload_n dX2_isMeant_7 rfl ?_
  refine x_iconst (v := 1) dX2_isMeant_8 rfl ?_
  refine x_callV (Y2 := mX2_value) (as := [.int 1]) (S := []) (kc2 := 0) (ks2 := 0) mv_mX2_value (Or.inl ⟨2, _, rfl, rfl, (gL_3 hg)⟩) dX2_isMeant_9 lk_X2_77 mo_mX2_value rfl rfl (Nat.le_of_ble_eq_true rfl) (Or.inl rfl) rfl rfl h ?_
  rintro _ _ σ2 ⟨v1, rfl, rfl, h⟩
  change zX _ _ 0 0 12 _ [.int v1] _ _ _
  refine x_if_eq (tgt := 19) dX2_isMeant_12 rfl (fun q1 => ?_) (fun q1 => ?_)
  · replace h := itT q1 h
    refine x_iconst (v := 0) dX2_isMeant_19 rfl ?_
    exact x_iret (S := []) dX2_isMeant_20 rfl rfl ⟨_, rfl, rfl, h⟩
  · replace h := itF q1 h
    refine x_iconst (v := 1) dX2_isMeant_15 rfl ?_
    refine x_goto (tgt := 20) dX2_isMeant_16 rfl ?_
    exact x_iret (S := []) dX2_isMeant_20 rfl rfl ⟨_, rfl, rfl, h⟩
set_option maxRecDepth 20000 in
theorem s_X2_worthOf {d : Nat} {g : zG} {σ : zI} {K : Int32 → zI → Prop} (hg : zGL g) {l1 : Nat} (h1 : zOb g l1 0) {l2 : Int32} (h : zCV mX2_name d [.ref 3, .ref l1, .int l2, .int 0] g σ (fun σ1 => zCI mX2_value d [.ref 3, .int 2] g σ1 (fun v1 σ2 => zCI mX2_bounded d [.int v1] g σ2 (fun v2 σ3 => K v2 σ3)))) : zCI mX2_worthOf (d + 1) [.ref 3, .ref l1, .int l2] g σ K := by
  refine c_of_x pn_mX2_worthOf rfl (Nat.le_of_ble_eq_true rfl) ?_
  change zX _ _ 0 0 0 [.ref 3, .ref l1, .int l2] [] g σ _
  refine x_aload_n dX2_worthOf_0 rfl ?_
  refine x_aload_n dX2_worthOf_1 rfl ?_
  refine x_iload_n dX2_worthOf_2 rfl ?_
  refine x_iconst (v := 0) dX2_worthOf_3 rfl ?_
  refine x_callV (Y2 := mX2_name) (as := [.ref l1, .int l2, .int 0]) (S := []) (kc2 := 0) (ks2 := 0) mv_mX2_name (Or.inl ⟨2, _, rfl, rfl, (gL_3 hg)⟩) dX2_worthOf_4 lk_X2_73 mo_mX2_name rfl rfl (Nat.le_of_ble_eq_true rfl) (Or.inl rfl) rfl rfl h ?_
  rintro _ _ σ1 ⟨rfl, rfl, h⟩
  change zX _ _ 0 0 7 _ [] _ _ _
  refine x_aload_n dX2_worthOf_7 rfl ?_
  refine x_iconst (v := 2) dX2_worthOf_8 rfl ?_
  refine x_callV (Y2 := mX2_value) (as := [.int 2]) (S := []) (kc2 := 0) (ks2 := 0) mv_mX2_value (Or.inl ⟨2, _, rfl, rfl, (gL_3 hg)⟩) dX2_worthOf_9 lk_X2_77 mo_mX2_value rfl rfl (Nat.le_of_ble_eq_true rfl) (Or.inl rfl) rfl rfl h ?_
  rintro _ _ σ2 ⟨v1, rfl, rfl, h⟩
  change zX _ _ 0 0 12 _ [.int v1] _ _ _
  refine x_callS (Y2 := mX2_bounded) (as := [.int v1]) (S := []) (kc2 := 0) (ks2 := 0) st_mX2_bounded dX2_worthOf_12 lk_X2_81 mo_mX2_bounded rfl rfl (Nat.le_of_ble_eq_true rfl) (Or.inl rfl) rfl rfl h ?_
  rintro _ _ σ3 ⟨v2, rfl, rfl, h⟩
  change zX _ _ 0 0 15 _ [.int v2] _ _ _
  exact x_iret (S := []) dX2_worthOf_15 rfl rfl ⟨_, rfl, rfl, h⟩
abbrev p_X3_fillLeast_18 (d : Nat) (g : zG) (K : zI → Prop) (σ : zI) (l1 : Nat) (l2 : Nat) (l3 : Int32) (l4 : Int32) (l5 : Int32) (l6 : Int32) : Prop := zX mX3_fillLeast (d + 1) 0 0 18 [.ref 22, .ref l1, .ref l2, .int l3, .int l4, .int l5, .int l6] [] g σ (zqV g K)
abbrev p_X3_fillLeast_88 (d : Nat) (g : zG) (K : zI → Prop) (σ : zI) (l3 : Int32) (l5 : Int32) (l6 : Int32) : Prop := zX mX3_fillLeast (d + 1) 0 0 88 [.ref 22, .retAddr 0, .retAddr 0, .int l3, .retAddr 0, .int l5, .int l6] [] g σ (zqV g K)
set_option maxRecDepth 20000 in
theorem s_X3_fillLeast {d : Nat} {g : zG} {σ : zI} {K : zI → Prop} (hg : zGA g) {l1 : Nat} (h1 : zOb g l1 0) {l2 : Nat} (h2 : zOb g l2 0) {l3 : Int32} {l4 : Int32} (h : zCI mX0_sayable d [.ref l1] g σ (fun v1 σ1 => zCI mX0_sayable d [.ref l2] g σ1 (fun v2 σ2 => zCI mX3_fillParts d [.ref 22, .int (v1 &&& v2)] g σ2 (fun v3 σ3 => p_X3_fillLeast_18 d g K σ3 l1 l2 l3 l4 v3 0)))) : zCV mX3_fillLeast (d + 1) [.ref 22, .ref l1, .ref l2, .int l3, .int l4] g σ K := by
  refine c_of_x pn_mX3_fillLeast rfl (Nat.le_of_ble_eq_true rfl) ?_
  change zX _ _ 0 0 0 [.ref 22, .ref l1, .ref l2, .int l3, .int l4] [] g σ _
  refine x_aload_n dX3_fillLeast_0 rfl ?_
  refine x_aload_n dX3_fillLeast_1 rfl ?_
  refine x_callV (Y2 := mX0_sayable) (as := []) (S := [.ref 22]) (kc2 := 0) (ks2 := 0) mv_mX0_sayable (Or.inl ⟨0, _, rfl, rfl, h1⟩) dX3_fillLeast_2 lk_X3_32 mo_mX0_sayable rfl rfl (Nat.le_of_ble_eq_true rfl) (Or.inl rfl) rfl rfl h ?_
  rintro _ _ σ1 ⟨v1, rfl, rfl, h⟩
  change zX _ _ 0 0 5 _ [.int v1, .ref 22] _ _ _
  refine x_aload_n dX3_fillLeast_5 rfl ?_
  refine x_callV (Y2 := mX0_sayable) (as := []) (S := [.int v1, .ref 22]) (kc2 := 0) (ks2 := 0) mv_mX0_sayable (Or.inl ⟨0, _, rfl, rfl, h2⟩) dX3_fillLeast_6 lk_X3_32 mo_mX0_sayable rfl rfl (Nat.le_of_ble_eq_true rfl) (Or.inl rfl) rfl rfl h ?_
  rintro _ _ σ2 ⟨v2, rfl, rfl, h⟩
  change zX _ _ 0 0 9 _ [.int v2, .int v1, .ref 22] _ _ _
  refine x_iand dX3_fillLeast_9 ?_
  refine x_callV (Y2 := mX3_fillParts) (as := [.int (v1 &&& v2)]) (S := []) (kc2 := 0) (ks2 := 0) mv_mX3_fillParts (Or.inl ⟨3, _, rfl, rfl, (gA_22 hg)⟩) dX3_fillLeast_10 lk_X3_38 mo_mX3_fillParts rfl rfl (Nat.le_of_ble_eq_true rfl) (Or.inl rfl) rfl rfl h ?_
  rintro _ _ σ3 ⟨v3, rfl, rfl, h⟩
  change zX _ _ 0 0 13 _ [.int v3] _ _ _
  refine x_istore dX3_fillLeast_13 rfl (Nat.le_of_ble_eq_true rfl) (L2 := [_, _, _, _, _, _]) rfl ?_
  refine x_iconst (v := 0) dX3_fillLeast_15 rfl ?_
  refine x_istore dX3_fillLeast_16 rfl (Nat.le_of_ble_eq_true rfl) (L2 := [_, _, _, _, _, _, _]) rfl ?_
  exact h
set_option maxRecDepth 20000 in
theorem s_X3_fillLeast_18 {d : Nat} {g : zG} {σ : zI} {K : zI → Prop} (hg : zGA g) {l1 : Nat} (h_l1 : zOb g l1 0) {l2 : Nat} (h_l2 : zOb g l2 0) {l3 : Int32} {l4 : Int32} {l5 : Int32} {l6 : Int32} (h : (if (l5 ≤ l6 : Prop) then p_X3_fillLeast_88 d g K (zsI σ 25 0 0) l3 l5 1 else (if (l4 = 0 : Prop) then vp_in l6 30 ∧ zCI mX2_costs d [.ref 3, .ref l1, .int (σ 23 l6.toNatClampNeg)] g σ (fun v1 σ1 => vp_in l6 30 ∧ zCI mX2_costs d [.ref 3, .ref l2, .int (σ1 23 l6.toNatClampNeg)] g σ1 (fun v2 σ2 => vp_in l6 30 ∧ p_X3_fillLeast_18 d g K (zsI σ2 24 l6.toNatClampNeg (v1 + v2)) l1 l2 l3 l4 l5 (l6 + 1))) else vp_in l6 30 ∧ p_X3_fillLeast_18 d g K (zsI σ 24 l6.toNatClampNeg 1) l1 l2 l3 l4 l5 (l6 + 1)))) : p_X3_fillLeast_18 d g K σ l1 l2 l3 l4 l5 l6 := by
  refine x_iload dX3_fillLeast_18 rfl ?_
  refine x_iload dX3_fillLeast_20 rfl ?_
  refine x_icmp_ge (tgt := 78) dX3_fillLeast_22 rfl (fun q1 => ?_) (fun q1 => ?_)
  · replace h := itT q1 h
    refine x_aload_n dX3_fillLeast_78 rfl ?_
    refine x_getR dX3_fillLeast_79 fl_X3_18 (gA_22 hg) rfl (gA_22_3 hg) ?_
    refine x_iconst (v := 0) dX3_fillLeast_82 rfl ?_
    refine x_iconst (v := 0) dX3_fillLeast_83 rfl ?_
    refine x_iast dX3_fillLeast_84 (gA_25 hg) (zvp rfl) ?_
    refine x_iconst (v := 1) dX3_fillLeast_85 rfl ?_
    refine x_istore dX3_fillLeast_86 rfl (Nat.le_of_ble_eq_true rfl) (L2 := [_, _, _, _, _, _, _]) rfl ?_
    exact x_wk (wC (wJ (wJ (wC (wJ (wC (wC (wN _)))))))) h
  · replace h := itF q1 h
    refine x_aload_n dX3_fillLeast_25 rfl ?_
    refine x_getR dX3_fillLeast_26 fl_X3_15 (gA_22 hg) rfl (gA_22_2 hg) ?_
    refine x_iload dX3_fillLeast_29 rfl ?_
    refine x_iload dX3_fillLeast_31 rfl ?_
    refine x_if_eq (tgt := 40) dX3_fillLeast_33 rfl (fun q2 => ?_) (fun q2 => ?_)
    · replace h := itT q2 h
      refine x_aload_n dX3_fillLeast_40 rfl ?_
      refine x_getR dX3_fillLeast_41 fl_X3_28 (gA_22 hg) rfl (gA_22_0 hg) ?_
      refine x_aload_n dX3_fillLeast_44 rfl ?_
      refine x_aload_n dX3_fillLeast_45 rfl ?_
      refine x_getR dX3_fillLeast_46 fl_X3_9 (gA_22 hg) rfl (gA_22_1 hg) ?_
      refine x_iload dX3_fillLeast_49 rfl ?_
      obtain ⟨q3, h⟩ := h
      refine x_iald dX3_fillLeast_51 (gA_23 hg) q3 ?_
      refine x_callV (Y2 := mX2_costs) (as := [.ref l1, .int (σ 23 l6.toNatClampNeg)]) (S := [.int l6, .ref 24]) (kc2 := 0) (ks2 := 0) mv_mX2_costs (Or.inl ⟨2, _, rfl, rfl, (gA_3 hg)⟩) dX3_fillLeast_52 lk_X3_42 mo_mX2_costs rfl rfl (Nat.le_of_ble_eq_true rfl) (Or.inl rfl) rfl rfl h ?_
      rintro _ _ σ1 ⟨v1, rfl, rfl, h⟩
      change zX _ _ 0 0 55 _ [.int v1, .int l6, .ref 24] _ _ _
      refine x_aload_n dX3_fillLeast_55 rfl ?_
      refine x_getR dX3_fillLeast_56 fl_X3_28 (gA_22 hg) rfl (gA_22_0 hg) ?_
      refine x_aload_n dX3_fillLeast_59 rfl ?_
      refine x_aload_n dX3_fillLeast_60 rfl ?_
      refine x_getR dX3_fillLeast_61 fl_X3_9 (gA_22 hg) rfl (gA_22_1 hg) ?_
      refine x_iload dX3_fillLeast_64 rfl ?_
      obtain ⟨q4, h⟩ := h
      refine x_iald dX3_fillLeast_66 (gA_23 hg) q4 ?_
      refine x_callV (Y2 := mX2_costs) (as := [.ref l2, .int (σ1 23 l6.toNatClampNeg)]) (S := [.int v1, .int l6, .ref 24]) (kc2 := 0) (ks2 := 0) mv_mX2_costs (Or.inl ⟨2, _, rfl, rfl, (gA_3 hg)⟩) dX3_fillLeast_67 lk_X3_42 mo_mX2_costs rfl rfl (Nat.le_of_ble_eq_true rfl) (Or.inl rfl) rfl rfl h ?_
      rintro _ _ σ2 ⟨v2, rfl, rfl, h⟩
      change zX _ _ 0 0 70 _ [.int v2, .int v1, .int l6, .ref 24] _ _ _
      refine x_iadd dX3_fillLeast_70 ?_
      obtain ⟨q5, h⟩ := h
      refine x_iast dX3_fillLeast_71 (gA_24 hg) q5 ?_
      refine x_iinc dX3_fillLeast_72 rfl (v := l6 + 1) rfl rfl (Nat.le_of_ble_eq_true rfl) (L2 := [_, _, _, _, _, _, _]) rfl ?_
      refine x_goto (tgt := 18) dX3_fillLeast_75 rfl ?_
      exact h
    · replace h := itF q2 h
      refine x_iconst (v := 1) dX3_fillLeast_36 rfl ?_
      refine x_goto (tgt := 71) dX3_fillLeast_37 rfl ?_
      obtain ⟨q3, h⟩ := h
      refine x_iast dX3_fillLeast_71 (gA_24 hg) q3 ?_
      refine x_iinc dX3_fillLeast_72 rfl (v := l6 + 1) rfl rfl (Nat.le_of_ble_eq_true rfl) (L2 := [_, _, _, _, _, _, _]) rfl ?_
      refine x_goto (tgt := 18) dX3_fillLeast_75 rfl ?_
      exact h
set_option maxRecDepth 20000 in
theorem s_X3_fillLeast_88 {d : Nat} {g : zG} {σ : zI} {K : zI → Prop} (hg : zGA g) {l3 : Int32} {l5 : Int32} {l6 : Int32} (h : (if (l3 < l6 : Prop) then K σ else (if (99 < l6 : Prop) then K σ else zCI mX3_leastAt d [.ref 22, .int l6, .int l5] g σ (fun v1 σ1 => vp_in l6 100 ∧ p_X3_fillLeast_88 d g K (zsI σ1 25 l6.toNatClampNeg v1) l3 l5 (l6 + 1))))) : p_X3_fillLeast_88 d g K σ l3 l5 l6 := by
  refine x_iload dX3_fillLeast_88 rfl ?_
  refine x_iload_n dX3_fillLeast_90 rfl ?_
  refine x_icmp_gt (tgt := 122) dX3_fillLeast_91 rfl (fun q1 => ?_) (fun q1 => ?_)
  · replace h := itT q1 h
    exact x_vret (S := []) dX3_fillLeast_122 rfl ⟨rfl, rfl, h⟩
  · replace h := itF q1 h
    refine x_iload dX3_fillLeast_94 rfl ?_
    refine x_bipush (v := 99) dX3_fillLeast_96 rfl ?_
    refine x_icmp_gt (tgt := 122) dX3_fillLeast_98 rfl (fun q2 => ?_) (fun q2 => ?_)
    · replace h := itT q2 h
      exact x_vret (S := []) dX3_fillLeast_122 rfl ⟨rfl, rfl, h⟩
    · replace h := itF q2 h
      refine x_aload_n dX3_fillLeast_101 rfl ?_
      refine x_getR dX3_fillLeast_102 fl_X3_18 (gA_22 hg) rfl (gA_22_3 hg) ?_
      refine x_iload dX3_fillLeast_105 rfl ?_
      refine x_aload_n dX3_fillLeast_107 rfl ?_
      refine x_iload dX3_fillLeast_108 rfl ?_
      refine x_iload dX3_fillLeast_110 rfl ?_
      refine x_callV (Y2 := mX3_leastAt) (as := [.int l6, .int l5]) (S := [.int l6, .ref 25]) (kc2 := 0) (ks2 := 0) mv_mX3_leastAt (Or.inl ⟨3, _, rfl, rfl, (gA_22 hg)⟩) dX3_fillLeast_112 lk_X3_48 mo_mX3_leastAt rfl rfl (Nat.le_of_ble_eq_true rfl) (Or.inl rfl) rfl rfl h ?_
      rintro _ _ σ1 ⟨v1, rfl, rfl, h⟩
      change zX _ _ 0 0 115 _ [.int v1, .int l6, .ref 25] _ _ _
      obtain ⟨q3, h⟩ := h
      refine x_iast dX3_fillLeast_115 (gA_25 hg) q3 ?_
      refine x_iinc dX3_fillLeast_116 rfl (v := l6 + 1) rfl rfl (Nat.le_of_ble_eq_true rfl) (L2 := [_, _, _, _, _, _, _]) rfl ?_
      refine x_goto (tgt := 88) dX3_fillLeast_119 rfl ?_
      exact h
abbrev p_X3_fillParts_4 (d : Nat) (g : zG) (K : Int32 → zI → Prop) (σ : zI) (l1 : Int32) (l2 : Int32) (l3 : Int32) : Prop := zX mX3_fillParts (d + 1) 0 0 4 [.ref 22, .int l1, .int l2, .int l3] [] g σ (zqI g K)
set_option maxRecDepth 20000 in
theorem s_X3_fillParts {d : Nat} {g : zG} {σ : zI} {K : Int32 → zI → Prop} (hg : zGA g) {l1 : Int32} (h : p_X3_fillParts_4 d g K σ l1 0 1) : zCI mX3_fillParts (d + 1) [.ref 22, .int l1] g σ K := by
  refine c_of_x pn_mX3_fillParts rfl (Nat.le_of_ble_eq_true rfl) ?_
  change zX _ _ 0 0 0 [.ref 22, .int l1] [] g σ _
  refine x_iconst (v := 0) dX3_fillParts_0 rfl ?_
  refine x_istore_n dX3_fillParts_1 rfl (Nat.le_of_ble_eq_true rfl) (L2 := [_, _, _]) rfl ?_
  refine x_iconst (v := 1) dX3_fillParts_2 rfl ?_
  refine x_istore_n dX3_fillParts_3 rfl (Nat.le_of_ble_eq_true rfl) (L2 := [_, _, _, _]) rfl ?_
  exact h
set_option maxRecDepth 20000 in
theorem s_X3_fillParts_4 {d : Nat} {g : zG} {σ : zI} {K : Int32 → zI → Prop} (hg : zGA g) {l1 : Int32} {l2 : Int32} {l3 : Int32} (h : (if (30 < l3 : Prop) then K l2 σ else zCI mX7_has d [.int l1, .int l3] g σ (fun v1 σ1 => (if (v1 = 0 : Prop) then p_X3_fillParts_4 d g K σ1 l1 l2 (l3 + 1) else vp_in l2 30 ∧ p_X3_fillParts_4 d g K (zsI σ1 23 l2.toNatClampNeg l3) l1 (l2 + 1) (l3 + 1))))) : p_X3_fillParts_4 d g K σ l1 l2 l3 := by
  refine x_iload_n dX3_fillParts_4 rfl ?_
  refine x_bipush (v := 30) dX3_fillParts_5 rfl ?_
  refine x_icmp_gt (tgt := 34) dX3_fillParts_7 rfl (fun q1 => ?_) (fun q1 => ?_)
  · replace h := itT q1 h
    refine x_iload_n dX3_fillParts_34 rfl ?_
    exact x_iret (S := []) dX3_fillParts_35 rfl rfl ⟨_, rfl, rfl, h⟩
  · replace h := itF q1 h
    refine x_iload_n dX3_fillParts_10 rfl ?_
    refine x_iload_n dX3_fillParts_11 rfl ?_
    refine x_callS (Y2 := mX7_has) (as := [.int l1, .int l3]) (S := []) (kc2 := 0) (ks2 := 0) st_mX7_has dX3_fillParts_12 lk_X3_56 mo_mX7_has rfl rfl (Nat.le_of_ble_eq_true rfl) (Or.inl rfl) rfl rfl h ?_
    rintro _ _ σ1 ⟨v1, rfl, rfl, h⟩
    change zX _ _ 0 0 15 _ [.int v1] _ _ _
    refine x_if_eq (tgt := 28) dX3_fillParts_15 rfl (fun q2 => ?_) (fun q2 => ?_)
    · replace h := itT q2 h
      refine x_iinc dX3_fillParts_28 rfl (v := l3 + 1) rfl rfl (Nat.le_of_ble_eq_true rfl) (L2 := [_, _, _, _]) rfl ?_
      refine x_goto (tgt := 4) dX3_fillParts_31 rfl ?_
      exact h
    · replace h := itF q2 h
      refine x_aload_n dX3_fillParts_18 rfl ?_
      refine x_getR dX3_fillParts_19 fl_X3_9 (gA_22 hg) rfl (gA_22_1 hg) ?_
      refine x_iload_n dX3_fillParts_22 rfl ?_
      refine x_iload_n dX3_fillParts_23 rfl ?_
      obtain ⟨q3, h⟩ := h
      refine x_iast dX3_fillParts_24 (gA_23 hg) q3 ?_
      refine x_iinc dX3_fillParts_25 rfl (v := l2 + 1) rfl rfl (Nat.le_of_ble_eq_true rfl) (L2 := [_, _, _, _]) rfl ?_
      refine x_iinc dX3_fillParts_28 rfl (v := l3 + 1) rfl rfl (Nat.le_of_ble_eq_true rfl) (L2 := [_, _, _, _]) rfl ?_
      refine x_goto (tgt := 4) dX3_fillParts_31 rfl ?_
      exact h
abbrev p_X3_leastAt_5 (d : Nat) (g : zG) (K : Int32 → zI → Prop) (σ : zI) (l1 : Int32) (l2 : Int32) (l3 : Int32) (l4 : Int32) : Prop := zX mX3_leastAt d 0 0 5 [.ref 22, .int l1, .int l2, .int l3, .int l4] [] g σ (zqI g K)
set_option maxRecDepth 20000 in
theorem s_X3_leastAt {d : Nat} {g : zG} {σ : zI} {K : Int32 → zI → Prop} (hg : zGA g) {l1 : Int32} {l2 : Int32} (h : p_X3_leastAt_5 d g K σ l1 l2 (-1) 0) : zCI mX3_leastAt d [.ref 22, .int l1, .int l2] g σ K := by
  refine c_of_x pn_mX3_leastAt rfl (Nat.le_of_ble_eq_true rfl) ?_
  change zX _ _ 0 0 0 [.ref 22, .int l1, .int l2] [] g σ _
  refine x_iconst (v := (-1)) dX3_leastAt_0 rfl ?_
  refine x_istore_n dX3_leastAt_1 rfl (Nat.le_of_ble_eq_true rfl) (L2 := [_, _, _, _]) rfl ?_
  refine x_iconst (v := 0) dX3_leastAt_2 rfl ?_
  refine x_istore dX3_leastAt_3 rfl (Nat.le_of_ble_eq_true rfl) (L2 := [_, _, _, _, _]) rfl ?_
  exact h
set_option maxRecDepth 20000 in
theorem s_X3_leastAt_5 {d : Nat} {g : zG} {σ : zI} {K : Int32 → zI → Prop} (hg : zGA g) {l1 : Int32} {l2 : Int32} {l3 : Int32} {l4 : Int32} (h : (if (l2 ≤ l4 : Prop) then K l3 σ else vp_in l4 30 ∧ (if (l1 < (σ 23 l4.toNatClampNeg) : Prop) then K l3 σ else vp_in l4 30 ∧ vp_in (l1 - (σ 23 l4.toNatClampNeg)) 100 ∧ (if ((σ 25 ((l1 - (σ 23 l4.toNatClampNeg) : Int32).toNatClampNeg)) = (-1) : Prop) then p_X3_leastAt_5 d g K σ l1 l2 l3 (l4 + 1) else (if (l3 = (-1) : Prop) then vp_in l4 30 ∧ p_X3_leastAt_5 d g K σ l1 l2 ((σ 25 ((l1 - (σ 23 l4.toNatClampNeg) : Int32).toNatClampNeg)) + (σ 24 l4.toNatClampNeg)) (l4 + 1) else vp_in l4 30 ∧ (if (l3 ≤ ((σ 25 ((l1 - (σ 23 l4.toNatClampNeg) : Int32).toNatClampNeg)) + (σ 24 l4.toNatClampNeg)) : Prop) then p_X3_leastAt_5 d g K σ l1 l2 l3 (l4 + 1) else vp_in l4 30 ∧ p_X3_leastAt_5 d g K σ l1 l2 ((σ 25 ((l1 - (σ 23 l4.toNatClampNeg) : Int32).toNatClampNeg)) + (σ 24 l4.toNatClampNeg)) (l4 + 1))))))) : p_X3_leastAt_5 d g K σ l1 l2 l3 l4 := by
  refine x_iload dX3_leastAt_5 rfl ?_
  refine x_iload_n dX3_leastAt_7 rfl ?_
  refine x_icmp_ge (tgt := 80) dX3_leastAt_8 rfl (fun q1 => ?_) (fun q1 => ?_)
  · replace h := itT q1 h
    refine x_iload_n dX3_leastAt_80 rfl ?_
    exact x_iret (S := []) dX3_leastAt_81 rfl rfl ⟨_, rfl, rfl, h⟩
  · replace h := itF q1 h
    refine x_aload_n dX3_leastAt_11 rfl ?_
    refine x_getR dX3_leastAt_12 fl_X3_9 (gA_22 hg) rfl (gA_22_1 hg) ?_
    refine x_iload dX3_leastAt_15 rfl ?_
    obtain ⟨q2, h⟩ := h
    refine x_iald dX3_leastAt_17 (gA_23 hg) q2 ?_
    refine x_iload_n dX3_leastAt_18 rfl ?_
    refine x_icmp_gt (tgt := 80) dX3_leastAt_19 rfl (fun q3 => ?_) (fun q3 => ?_)
    · replace h := itT q3 h
      refine x_iload_n dX3_leastAt_80 rfl ?_
      exact x_iret (S := []) dX3_leastAt_81 rfl rfl ⟨_, rfl, rfl, h⟩
    · replace h := itF q3 h
      refine x_aload_n dX3_leastAt_22 rfl ?_
      refine x_getR dX3_leastAt_23 fl_X3_18 (gA_22 hg) rfl (gA_22_3 hg) ?_
      refine x_iload_n dX3_leastAt_26 rfl ?_
      refine x_aload_n dX3_leastAt_27 rfl ?_
      refine x_getR dX3_leastAt_28 fl_X3_9 (gA_22 hg) rfl (gA_22_1 hg) ?_
      refine x_iload dX3_leastAt_31 rfl ?_
      obtain ⟨q4, h⟩ := h
      refine x_iald dX3_leastAt_33 (gA_23 hg) q4 ?_
      refine x_isub dX3_leastAt_34 ?_
      obtain ⟨q5, h⟩ := h
      refine x_iald dX3_leastAt_35 (gA_25 hg) q5 ?_
      refine x_istore dX3_leastAt_36 rfl (Nat.le_of_ble_eq_true rfl) (L2 := [_, _, _, _, _, _]) rfl ?_
      refine x_iload dX3_leastAt_38 rfl ?_
      refine x_iconst (v := (-1)) dX3_leastAt_40 rfl ?_
      refine x_icmp_eq (tgt := 74) dX3_leastAt_41 rfl (fun q6 => ?_) (fun q6 => ?_)
      · replace h := itT q6 h
        refine x_iinc dX3_leastAt_74 rfl (v := l4 + 1) rfl rfl (Nat.le_of_ble_eq_true rfl) (L2 := [_, _, _, _, _, _]) rfl ?_
        refine x_goto (tgt := 5) dX3_leastAt_77 rfl ?_
        exact x_wk (wC (wC (wC (wC (wC (wN _)))))) h
      · replace h := itF q6 h
        refine x_iload_n dX3_leastAt_44 rfl ?_
        refine x_iconst (v := (-1)) dX3_leastAt_45 rfl ?_
        refine x_icmp_eq (tgt := 63) dX3_leastAt_46 rfl (fun q7 => ?_) (fun q7 => ?_)
        · replace h := itT q7 h
          refine x_iload dX3_leastAt_63 rfl ?_
          refine x_aload_n dX3_leastAt_65 rfl ?_
          refine x_getR dX3_leastAt_66 fl_X3_15 (gA_22 hg) rfl (gA_22_2 hg) ?_
          refine x_iload dX3_leastAt_69 rfl ?_
          obtain ⟨q8, h⟩ := h
          refine x_iald dX3_leastAt_71 (gA_24 hg) q8 ?_
          refine x_iadd dX3_leastAt_72 ?_
          refine x_istore_n dX3_leastAt_73 rfl (Nat.le_of_ble_eq_true rfl) (L2 := [_, _, _, _, _, _]) rfl ?_
          refine x_iinc dX3_leastAt_74 rfl (v := l4 + 1) rfl rfl (Nat.le_of_ble_eq_true rfl) (L2 := [_, _, _, _, _, _]) rfl ?_
          refine x_goto (tgt := 5) dX3_leastAt_77 rfl ?_
          exact x_wk (wC (wC (wC (wC (wC (wN _)))))) h
        · replace h := itF q7 h
          refine x_iload dX3_leastAt_49 rfl ?_
          refine x_aload_n dX3_leastAt_51 rfl ?_
          refine x_getR dX3_leastAt_52 fl_X3_15 (gA_22 hg) rfl (gA_22_2 hg) ?_
          refine x_iload dX3_leastAt_55 rfl ?_
          obtain ⟨q8, h⟩ := h
          refine x_iald dX3_leastAt_57 (gA_24 hg) q8 ?_
          refine x_iadd dX3_leastAt_58 ?_
          refine x_iload_n dX3_leastAt_59 rfl ?_
          refine x_icmp_ge (tgt := 74) dX3_leastAt_60 rfl (fun q9 => ?_) (fun q9 => ?_)
          · replace h := itT q9 h
            refine x_iinc dX3_leastAt_74 rfl (v := l4 + 1) rfl rfl (Nat.le_of_ble_eq_true rfl) (L2 := [_, _, _, _, _, _]) rfl ?_
            refine x_goto (tgt := 5) dX3_leastAt_77 rfl ?_
            exact x_wk (wC (wC (wC (wC (wC (wN _)))))) h
          · replace h := itF q9 h
            refine x_iload dX3_leastAt_63 rfl ?_
            refine x_aload_n dX3_leastAt_65 rfl ?_
            refine x_getR dX3_leastAt_66 fl_X3_15 (gA_22 hg) rfl (gA_22_2 hg) ?_
            refine x_iload dX3_leastAt_69 rfl ?_
            obtain ⟨q10, h⟩ := h
            refine x_iald dX3_leastAt_71 (gA_24 hg) q10 ?_
            refine x_iadd dX3_leastAt_72 ?_
            refine x_istore_n dX3_leastAt_73 rfl (Nat.le_of_ble_eq_true rfl) (L2 := [_, _, _, _, _, _]) rfl ?_
            refine x_iinc dX3_leastAt_74 rfl (v := l4 + 1) rfl rfl (Nat.le_of_ble_eq_true rfl) (L2 := [_, _, _, _, _, _]) rfl ?_
            refine x_goto (tgt := 5) dX3_leastAt_77 rfl ?_
            exact x_wk (wC (wC (wC (wC (wC (wN _)))))) h
set_option maxRecDepth 20000 in
theorem s_X3_leastOf {d : Nat} {g : zG} {σ : zI} {K : Int32 → zI → Prop} (hg : zGA g) {l1 : Int32} (h : zCI mX7_isSum d [.int l1] g σ (fun v1 σ1 => (if (v1 = 0 : Prop) then K (-1) σ1 else vp_in l1 100 ∧ K (σ1 25 l1.toNatClampNeg) σ1))) : zCI mX3_leastOf (d + 1) [.ref 22, .int l1] g σ K := by
  refine c_of_x pn_mX3_leastOf rfl (Nat.le_of_ble_eq_true rfl) ?_
  change zX _ _ 0 0 0 [.ref 22, .int l1] [] g σ _
  refine x_iload_n dX3_leastOf_0 rfl ?_
  refine x_callS (Y2 := mX7_isSum) (as := [.int l1]) (S := []) (kc2 := 0) (ks2 := 0) st_mX7_isSum dX3_leastOf_1 lk_X3_52 mo_mX7_isSum rfl rfl (Nat.le_of_ble_eq_true rfl) (Or.inl rfl) rfl rfl h ?_
  rintro _ _ σ1 ⟨v1, rfl, rfl, h⟩
  change zX _ _ 0 0 4 _ [.int v1] _ _ _
  refine x_if_eq (tgt := 16) dX3_leastOf_4 rfl (fun q1 => ?_) (fun q1 => ?_)
  · replace h := itT q1 h
    refine x_iconst (v := (-1)) dX3_leastOf_16 rfl ?_
    exact x_iret (S := []) dX3_leastOf_17 rfl rfl ⟨_, rfl, rfl, h⟩
  · replace h := itF q1 h
    refine x_aload_n dX3_leastOf_7 rfl ?_
    refine x_getR dX3_leastOf_8 fl_X3_18 (gA_22 hg) rfl (gA_22_3 hg) ?_
    refine x_iload_n dX3_leastOf_11 rfl ?_
    obtain ⟨q2, h⟩ := h
    refine x_iald dX3_leastOf_12 (gA_25 hg) q2 ?_
    refine x_goto (tgt := 17) dX3_leastOf_13 rfl ?_
    exact x_iret (S := []) dX3_leastOf_17 rfl rfl ⟨_, rfl, rfl, h⟩
abbrev p_X6_lay_22 (d : Nat) (g : zG) (K : zI → Prop) (σ : zI) (l3 : Int32) (l4 : Int32) : Prop := zX mX6_lay (d + 1) 0 0 22 [.ref 28, .ref 1, .retAddr 0, .int l3, .int l4] [] g σ (zqV g K)
abbrev p_X6_lay_48 (d : Nat) (g : zG) (K : zI → Prop) (σ : zI) (l3 : Int32) (l4 : Int32) (l5 : Int32) : Prop := zX mX6_lay (d + 1) 0 0 48 [.ref 28, .ref 1, .retAddr 0, .int l3, .int l4, .int l5] [] g σ (zqV g K)
set_option maxRecDepth 20000 in
theorem s_X6_lay {d : Nat} {g : zG} {σ : zI} {K : zI → Prop} (hg : zGA g) {l2 : Int32} {l3 : Int32} (h : p_X6_lay_22 d g K (zsI σ 28 4 (if 0 < (if (if (nI 6) < 6 then (nI 6) else 6) < l2 then (if (nI 6) < 6 then (nI 6) else 6) else l2) then (if (if (nI 6) < 6 then (nI 6) else 6) < l2 then (if (nI 6) < 6 then (nI 6) else 6) else l2) else 0)) l3 0) : zCV mX6_lay (d + 1) [.ref 28, .ref 1, .int l2, .int l3] g σ K := by
  refine c_of_x pn_mX6_lay rfl (Nat.le_of_ble_eq_true rfl) ?_
  change zX _ _ 0 0 0 [.ref 28, .ref 1, .int l2, .int l3] [] g σ _
  refine x_aload_n dX6_lay_0 rfl ?_
  refine x_iconst (v := 0) dX6_lay_1 rfl ?_
  refine x_iload_n dX6_lay_2 rfl ?_
  refine x_bipush (v := 6) dX6_lay_3 rfl ?_
  refine x_aload_n dX6_lay_5 rfl ?_
  refine x_alenq (t := 0) dX6_lay_6 (gA_1 hg) (by decide) ?_
  refine x_mmin dX6_lay_7 lw_X6_27 tw_min1 tw_math tw_min2 (Nat.le_of_ble_eq_true rfl) ?_
  refine x_mmin dX6_lay_10 lw_X6_27 tw_min1 tw_math tw_min2 (Nat.le_of_ble_eq_true rfl) ?_
  refine x_mmax dX6_lay_13 lw_X6_33 tw_max1 tw_math tw_max2 (Nat.le_of_ble_eq_true rfl) ?_
  refine x_putI dX6_lay_16 fl_X6_36 (gA_28 hg) rfl rfl ?_
  refine x_iconst (v := 0) dX6_lay_19 rfl ?_
  refine x_istore dX6_lay_20 rfl (Nat.le_of_ble_eq_true rfl) (L2 := [_, _, _, _, _]) rfl ?_
  exact x_wk (wC (wC (wJ (wC (wC (wN _)))))) h
set_option maxRecDepth 20000 in
theorem s_X6_lay_22 {d : Nat} {g : zG} {σ : zI} {K : zI → Prop} (hg : zGA g) {l3 : Int32} {l4 : Int32} (h : (if ((σ 28 4) ≤ l4 : Prop) then K σ else vp_in l4 6 ∧ vp_in l4 6 ∧ p_X6_lay_48 d g K (zsI σ (30 + l4.toNatClampNeg) l4.toNatClampNeg (-1)) l3 l4 (l4 + 1))) : p_X6_lay_22 d g K σ l3 l4 := by
  refine x_iload dX6_lay_22 rfl ?_
  refine x_aload_n dX6_lay_24 rfl ?_
  refine x_getI dX6_lay_25 fl_X6_36 (gA_28 hg) rfl ?_
  refine x_icmp_ge (tgt := 124) dX6_lay_28 rfl (fun q1 => ?_) (fun q1 => ?_)
  · replace h := itT q1 h
    exact x_vret (S := []) dX6_lay_124 rfl ⟨rfl, rfl, h⟩
  · replace h := itF q1 h
    refine x_aload_n dX6_lay_31 rfl ?_
    refine x_getR dX6_lay_32 fl_X6_11 (gA_28 hg) rfl (gA_28_1 hg) ?_
    refine x_iload dX6_lay_35 rfl ?_
    obtain ⟨q2, h⟩ := h
    refine x_aald (t := 2) dX6_lay_37 (gA_29 hg) (by decide) q2 (gr_toll hg q2).1 ?_
    refine x_iload dX6_lay_38 rfl ?_
    refine x_iconst (v := (-1)) dX6_lay_40 rfl ?_
    obtain ⟨q3, h⟩ := h
    refine x_iast dX6_lay_41 (gr_toll hg q2).2 q3 ?_
    refine x_iload dX6_lay_42 rfl ?_
    refine x_iconst (v := 1) dX6_lay_44 rfl ?_
    refine x_iadd dX6_lay_45 ?_
    refine x_istore dX6_lay_46 rfl (Nat.le_of_ble_eq_true rfl) (L2 := [_, _, _, _, _, _]) rfl ?_
    exact h
set_option maxRecDepth 20000 in
theorem s_X6_lay_48 {d : Nat} {g : zG} {σ : zI} {K : zI → Prop} (hg : zGA g) {l3 : Int32} {l4 : Int32} {l5 : Int32} (h : (if ((σ 28 4) ≤ l5 : Prop) then p_X6_lay_22 d g K σ l3 (l4 + 1) else vp_in l4 6 ∧ vp_in l5 6 ∧ zCV mX3_fillLeast d [.ref 22, .ref (43 + l4.toNatClampNeg), .ref (43 + l5.toNatClampNeg), .int l3, .int 0] g σ (fun σ1 => vp_in l4 6 ∧ zCI mX3_leastOf d [.ref 22, .int l3] g σ1 (fun v1 σ2 => vp_in l5 6 ∧ vp_in l5 6 ∧ vp_in l4 6 ∧ vp_in l5 6 ∧ vp_in l4 6 ∧ p_X6_lay_48 d g K (zsI (zsI σ2 (30 + l4.toNatClampNeg) l5.toNatClampNeg v1) (30 + l5.toNatClampNeg) l4.toNatClampNeg ((zsI σ2 (30 + l4.toNatClampNeg) l5.toNatClampNeg v1) (30 + l4.toNatClampNeg) l5.toNatClampNeg)) l3 l4 (l5 + 1))))) : p_X6_lay_48 d g K σ l3 l4 l5 := by
  refine x_iload dX6_lay_48 rfl ?_
  refine x_aload_n dX6_lay_50 rfl ?_
  refine x_getI dX6_lay_51 fl_X6_36 (gA_28 hg) rfl ?_
  refine x_icmp_ge (tgt := 118) dX6_lay_54 rfl (fun q1 => ?_) (fun q1 => ?_)
  · replace h := itT q1 h
    refine x_iinc dX6_lay_118 rfl (v := l4 + 1) rfl rfl (Nat.le_of_ble_eq_true rfl) (L2 := [_, _, _, _, _, _]) rfl ?_
    refine x_goto (tgt := 22) dX6_lay_121 rfl ?_
    exact x_wk (wC (wC (wJ (wC (wC (wN _)))))) h
  · replace h := itF q1 h
    refine x_aload_n dX6_lay_57 rfl ?_
    refine x_getR dX6_lay_58 fl_X6_23 (gA_28 hg) rfl (gA_28_0 hg) ?_
    refine x_aload_n dX6_lay_61 rfl ?_
    refine x_iload dX6_lay_62 rfl ?_
    obtain ⟨q2, h⟩ := h
    refine x_aald (t := 0) dX6_lay_64 (gA_1 hg) (by decide) q2 (gr_family hg q2).1 ?_
    refine x_aload_n dX6_lay_65 rfl ?_
    refine x_iload dX6_lay_66 rfl ?_
    obtain ⟨q3, h⟩ := h
    refine x_aald (t := 0) dX6_lay_68 (gA_1 hg) (by decide) q3 (gr_family hg q3).1 ?_
    refine x_iload_n dX6_lay_69 rfl ?_
    refine x_iconst (v := 0) dX6_lay_70 rfl ?_
    refine x_callV (Y2 := mX3_fillLeast) (as := [.ref (43 + l4.toNatClampNeg), .ref (43 + l5.toNatClampNeg), .int l3, .int 0]) (S := []) (kc2 := 0) (ks2 := 0) mv_mX3_fillLeast (Or.inl ⟨3, _, rfl, rfl, (gA_22 hg)⟩) dX6_lay_71 lk_X6_40 mo_mX3_fillLeast rfl rfl (Nat.le_of_ble_eq_true rfl) (Or.inl rfl) rfl rfl h ?_
    rintro _ _ σ1 ⟨rfl, rfl, h⟩
    change zX _ _ 0 0 74 _ [] _ _ _
    refine x_aload_n dX6_lay_74 rfl ?_
    refine x_getR dX6_lay_75 fl_X6_11 (gA_28 hg) rfl (gA_28_1 hg) ?_
    refine x_iload dX6_lay_78 rfl ?_
    obtain ⟨q4, h⟩ := h
    refine x_aald (t := 2) dX6_lay_80 (gA_29 hg) (by decide) q4 (gr_toll hg q4).1 ?_
    refine x_iload dX6_lay_81 rfl ?_
    refine x_aload_n dX6_lay_83 rfl ?_
    refine x_getR dX6_lay_84 fl_X6_23 (gA_28 hg) rfl (gA_28_0 hg) ?_
    refine x_iload_n dX6_lay_87 rfl ?_
    refine x_callV (Y2 := mX3_leastOf) (as := [.int l3]) (S := [.int l5, .ref (30 + l4.toNatClampNeg)]) (kc2 := 0) (ks2 := 0) mv_mX3_leastOf (Or.inl ⟨3, _, rfl, rfl, (gA_22 hg)⟩) dX6_lay_88 lk_X6_46 mo_mX3_leastOf rfl rfl (Nat.le_of_ble_eq_true rfl) (Or.inl rfl) rfl rfl h ?_
    rintro _ _ σ2 ⟨v1, rfl, rfl, h⟩
    change zX _ _ 0 0 91 _ [.int v1, .int l5, .ref (30 + l4.toNatClampNeg)] _ _ _
    obtain ⟨q5, h⟩ := h
    refine x_iast dX6_lay_91 (gr_toll hg q4).2 q5 ?_
    refine x_aload_n dX6_lay_92 rfl ?_
    refine x_getR dX6_lay_93 fl_X6_11 (gA_28 hg) rfl (gA_28_1 hg) ?_
    refine x_iload dX6_lay_96 rfl ?_
    obtain ⟨q6, h⟩ := h
    refine x_aald (t := 2) dX6_lay_98 (gA_29 hg) (by decide) q6 (gr_toll hg q6).1 ?_
    refine x_iload dX6_lay_99 rfl ?_
    refine x_aload_n dX6_lay_101 rfl ?_
    refine x_getR dX6_lay_102 fl_X6_11 (gA_28 hg) rfl (gA_28_1 hg) ?_
    refine x_iload dX6_lay_105 rfl ?_
    obtain ⟨q7, h⟩ := h
    refine x_aald (t := 2) dX6_lay_107 (gA_29 hg) (by decide) q7 (gr_toll hg q7).1 ?_
    refine x_iload dX6_lay_108 rfl ?_
    obtain ⟨q8, h⟩ := h
    refine x_iald dX6_lay_110 (gr_toll hg q7).2 q8 ?_
    obtain ⟨q9, h⟩ := h
    refine x_iast dX6_lay_111 (gr_toll hg q6).2 q9 ?_
    refine x_iinc dX6_lay_112 rfl (v := l5 + 1) rfl rfl (Nat.le_of_ble_eq_true rfl) (L2 := [_, _, _, _, _, _]) rfl ?_
    refine x_goto (tgt := 48) dX6_lay_115 rfl ?_
    exact h
abbrev p_X6_walk_2 (d : Nat) (g : zG) (K : zI → Prop) (σ : zI) (l1 : Int32) (l2 : Int32) : Prop := zX mX6_walk (d + 1) 0 0 2 [.ref 28, .int l1, .int l2] [] g σ (zqV g K)
abbrev p_X6_walk_50 (d : Nat) (g : zG) (K : zI → Prop) (σ : zI) (l2 : Int32) : Prop := zX mX6_walk (d + 1) 0 0 50 [.ref 28, .retAddr 0, .int l2] [] g σ (zqV g K)
abbrev p_X6_walk_60 (d : Nat) (g : zG) (K : zI → Prop) (σ : zI) (l2 : Int32) (l3 : Int32) : Prop := zX mX6_walk (d + 1) 0 0 60 [.ref 28, .retAddr 0, .int l2, .int l3] [] g σ (zqV g K)
set_option maxRecDepth 20000 in
theorem s_X6_walk {d : Nat} {g : zG} {σ : zI} {K : zI → Prop} (hg : zGA g) {l1 : Int32} (h : p_X6_walk_2 d g K σ l1 0) : zCV mX6_walk (d + 1) [.ref 28, .int l1] g σ K := by
  refine c_of_x pn_mX6_walk rfl (Nat.le_of_ble_eq_true rfl) ?_
  change zX _ _ 0 0 0 [.ref 28, .int l1] [] g σ _
  refine x_iconst (v := 0) dX6_walk_0 rfl ?_
  refine x_istore_n dX6_walk_1 rfl (Nat.le_of_ble_eq_true rfl) (L2 := [_, _, _]) rfl ?_
  exact h
set_option maxRecDepth 20000 in
theorem s_X6_walk_2 {d : Nat} {g : zG} {σ : zI} {K : zI → Prop} (hg : zGA g) {l1 : Int32} {l2 : Int32} (h : (if ((σ 28 4) ≤ l2 : Prop) then p_X6_walk_50 d g K σ 1 else (if (l2 = l1 : Prop) then vp_in l2 6 ∧ (if (l2 = l1 : Prop) then vp_in l2 6 ∧ p_X6_walk_2 d g K (zsI (zsI σ 36 l2.toNatClampNeg 0) 37 l2.toNatClampNeg 0) l1 (l2 + 1) else vp_in l2 6 ∧ p_X6_walk_2 d g K (zsI (zsI σ 36 l2.toNatClampNeg 0) 37 l2.toNatClampNeg (-1)) l1 (l2 + 1)) else vp_in l2 6 ∧ (if (l2 = l1 : Prop) then vp_in l2 6 ∧ p_X6_walk_2 d g K (zsI (zsI σ 36 l2.toNatClampNeg (-1)) 37 l2.toNatClampNeg 0) l1 (l2 + 1) else vp_in l2 6 ∧ p_X6_walk_2 d g K (zsI (zsI σ 36 l2.toNatClampNeg (-1)) 37 l2.toNatClampNeg (-1)) l1 (l2 + 1))))) : p_X6_walk_2 d g K σ l1 l2 := by
  refine x_iload_n dX6_walk_2 rfl ?_
  refine x_aload_n dX6_walk_3 rfl ?_
  refine x_getI dX6_walk_4 fl_X6_36 (gA_28 hg) rfl ?_
  refine x_icmp_ge (tgt := 48) dX6_walk_7 rfl (fun q1 => ?_) (fun q1 => ?_)
  · replace h := itT q1 h
    refine x_iconst (v := 1) dX6_walk_48 rfl ?_
    refine x_istore_n dX6_walk_49 rfl (Nat.le_of_ble_eq_true rfl) (L2 := [_, _, _]) rfl ?_
    exact x_wk (wC (wJ (wC (wN _)))) h
  · replace h := itF q1 h
    refine x_aload_n dX6_walk_10 rfl ?_
    refine x_getR dX6_walk_11 fl_X6_16 (gA_28 hg) rfl (gA_28_2 hg) ?_
    refine x_iload_n dX6_walk_14 rfl ?_
    refine x_iload_n dX6_walk_15 rfl ?_
    refine x_iload_n dX6_walk_16 rfl ?_
    refine x_icmp_ne (tgt := 24) dX6_walk_17 rfl (fun q2 => ?_) (fun q2 => ?_)
    · replace h := itF q2 h
      refine x_iconst (v := (-1)) dX6_walk_24 rfl ?_
      obtain ⟨q3, h⟩ := h
      refine x_iast dX6_walk_25 (gA_36 hg) q3 ?_
      refine x_aload_n dX6_walk_26 rfl ?_
      refine x_getR dX6_walk_27 fl_X6_20 (gA_28 hg) rfl (gA_28_3 hg) ?_
      refine x_iload_n dX6_walk_30 rfl ?_
      refine x_iload_n dX6_walk_31 rfl ?_
      refine x_iload_n dX6_walk_32 rfl ?_
      refine x_icmp_ne (tgt := 40) dX6_walk_33 rfl (fun q4 => ?_) (fun q4 => ?_)
      · replace h := itF q4 h
        refine x_iconst (v := (-1)) dX6_walk_40 rfl ?_
        obtain ⟨q5, h⟩ := h
        refine x_iast dX6_walk_41 (gA_37 hg) q5 ?_
        refine x_iinc dX6_walk_42 rfl (v := l2 + 1) rfl rfl (Nat.le_of_ble_eq_true rfl) (L2 := [_, _, _]) rfl ?_
        refine x_goto (tgt := 2) dX6_walk_45 rfl ?_
        exact h
      · replace h := itT q4 h
        refine x_iconst (v := 0) dX6_walk_36 rfl ?_
        refine x_goto (tgt := 41) dX6_walk_37 rfl ?_
        obtain ⟨q5, h⟩ := h
        refine x_iast dX6_walk_41 (gA_37 hg) q5 ?_
        refine x_iinc dX6_walk_42 rfl (v := l2 + 1) rfl rfl (Nat.le_of_ble_eq_true rfl) (L2 := [_, _, _]) rfl ?_
        refine x_goto (tgt := 2) dX6_walk_45 rfl ?_
        exact h
    · replace h := itT q2 h
      refine x_iconst (v := 0) dX6_walk_20 rfl ?_
      refine x_goto (tgt := 25) dX6_walk_21 rfl ?_
      obtain ⟨q3, h⟩ := h
      refine x_iast dX6_walk_25 (gA_36 hg) q3 ?_
      refine x_aload_n dX6_walk_26 rfl ?_
      refine x_getR dX6_walk_27 fl_X6_20 (gA_28 hg) rfl (gA_28_3 hg) ?_
      refine x_iload_n dX6_walk_30 rfl ?_
      refine x_iload_n dX6_walk_31 rfl ?_
      refine x_iload_n dX6_walk_32 rfl ?_
      refine x_icmp_ne (tgt := 40) dX6_walk_33 rfl (fun q4 => ?_) (fun q4 => ?_)
      · replace h := itF q4 h
        refine x_iconst (v := (-1)) dX6_walk_40 rfl ?_
        obtain ⟨q5, h⟩ := h
        refine x_iast dX6_walk_41 (gA_37 hg) q5 ?_
        refine x_iinc dX6_walk_42 rfl (v := l2 + 1) rfl rfl (Nat.le_of_ble_eq_true rfl) (L2 := [_, _, _]) rfl ?_
        refine x_goto (tgt := 2) dX6_walk_45 rfl ?_
        exact h
      · replace h := itT q4 h
        refine x_iconst (v := 0) dX6_walk_36 rfl ?_
        refine x_goto (tgt := 41) dX6_walk_37 rfl ?_
        obtain ⟨q5, h⟩ := h
        refine x_iast dX6_walk_41 (gA_37 hg) q5 ?_
        refine x_iinc dX6_walk_42 rfl (v := l2 + 1) rfl rfl (Nat.le_of_ble_eq_true rfl) (L2 := [_, _, _]) rfl ?_
        refine x_goto (tgt := 2) dX6_walk_45 rfl ?_
        exact h
set_option maxRecDepth 20000 in
theorem s_X6_walk_50 {d : Nat} {g : zG} {σ : zI} {K : zI → Prop} (hg : zGA g) {l2 : Int32} (h : (if ((σ 28 4) ≤ l2 : Prop) then K σ else p_X6_walk_60 d g K σ l2 0)) : p_X6_walk_50 d g K σ l2 := by
  refine x_iload_n dX6_walk_50 rfl ?_
  refine x_aload_n dX6_walk_51 rfl ?_
  refine x_getI dX6_walk_52 fl_X6_36 (gA_28 hg) rfl ?_
  refine x_icmp_ge (tgt := 85) dX6_walk_55 rfl (fun q1 => ?_) (fun q1 => ?_)
  · replace h := itT q1 h
    exact x_vret (S := []) dX6_walk_85 rfl ⟨rfl, rfl, h⟩
  · replace h := itF q1 h
    refine x_iconst (v := 0) dX6_walk_58 rfl ?_
    refine x_istore_n dX6_walk_59 rfl (Nat.le_of_ble_eq_true rfl) (L2 := [_, _, _, _]) rfl ?_
    exact h
set_option maxRecDepth 20000 in
theorem s_X6_walk_60 {d : Nat} {g : zG} {σ : zI} {K : zI → Prop} (hg : zGA g) {l2 : Int32} {l3 : Int32} (h : (if ((σ 28 4) ≤ l3 : Prop) then p_X6_walk_50 d g K σ (l2 + 1) else zCV mX6_walkOn d [.ref 28, .int l3] g σ (fun σ1 => p_X6_walk_60 d g K σ1 l2 (l3 + 1)))) : p_X6_walk_60 d g K σ l2 l3 := by
  refine x_iload_n dX6_walk_60 rfl ?_
  refine x_aload_n dX6_walk_61 rfl ?_
  refine x_getI dX6_walk_62 fl_X6_36 (gA_28 hg) rfl ?_
  refine x_icmp_ge (tgt := 79) dX6_walk_65 rfl (fun q1 => ?_) (fun q1 => ?_)
  · replace h := itT q1 h
    refine x_iinc dX6_walk_79 rfl (v := l2 + 1) rfl rfl (Nat.le_of_ble_eq_true rfl) (L2 := [_, _, _, _]) rfl ?_
    refine x_goto (tgt := 50) dX6_walk_82 rfl ?_
    exact x_wk (wC (wJ (wC (wN _)))) h
  · replace h := itF q1 h
    refine x_aload_n dX6_walk_68 rfl ?_
    refine x_iload_n dX6_walk_69 rfl ?_
    refine x_callV (Y2 := mX6_walkOn) (as := [.int l3]) (S := []) (kc2 := 0) (ks2 := 0) mv_mX6_walkOn (Or.inl ⟨6, _, rfl, rfl, (gA_28 hg)⟩) dX6_walk_70 lk_X6_50 mo_mX6_walkOn rfl rfl (Nat.le_of_ble_eq_true rfl) (Or.inl rfl) rfl rfl h ?_
    rintro _ _ σ1 ⟨rfl, rfl, h⟩
    change zX _ _ 0 0 73 _ [] _ _ _
    refine x_iinc dX6_walk_73 rfl (v := l3 + 1) rfl rfl (Nat.le_of_ble_eq_true rfl) (L2 := [_, _, _, _]) rfl ?_
    refine x_goto (tgt := 60) dX6_walk_76 rfl ?_
    exact h
abbrev p_X6_walkOn_13 (d : Nat) (g : zG) (K : zI → Prop) (σ : zI) (l1 : Int32) (l2 : Int32) : Prop := zX mX6_walkOn (d + 1) 0 0 13 [.ref 28, .int l1, .int l2] [] g σ (zqV g K)
set_option maxRecDepth 20000 in
theorem s_X6_walkOn {d : Nat} {g : zG} {σ : zI} {K : zI → Prop} (hg : zGA g) {l1 : Int32} (h : vp_in l1 6 ∧ (if ((σ 36 l1.toNatClampNeg) = (-1) : Prop) then K σ else p_X6_walkOn_13 d g K σ l1 0)) : zCV mX6_walkOn (d + 1) [.ref 28, .int l1] g σ K := by
  refine c_of_x pn_mX6_walkOn rfl (Nat.le_of_ble_eq_true rfl) ?_
  change zX _ _ 0 0 0 [.ref 28, .int l1] [] g σ _
  refine x_aload_n dX6_walkOn_0 rfl ?_
  refine x_getR dX6_walkOn_1 fl_X6_16 (gA_28 hg) rfl (gA_28_2 hg) ?_
  refine x_iload_n dX6_walkOn_4 rfl ?_
  obtain ⟨q1, h⟩ := h
  refine x_iald dX6_walkOn_5 (gA_36 hg) q1 ?_
  refine x_iconst (v := (-1)) dX6_walkOn_6 rfl ?_
  refine x_icmp_ne (tgt := 11) dX6_walkOn_7 rfl (fun q2 => ?_) (fun q2 => ?_)
  · replace h := itF q2 h
    refine x_iconst (v := 0) dX6_walkOn_11 rfl ?_
    refine x_istore_n dX6_walkOn_12 rfl (Nat.le_of_ble_eq_true rfl) (L2 := [_, _, _]) rfl ?_
    exact h
  · replace h := itT q2 h
    exact x_vret (S := []) dX6_walkOn_10 rfl ⟨rfl, rfl, h⟩
set_option maxRecDepth 20000 in
theorem s_X6_walkOn_13 {d : Nat} {g : zG} {σ : zI} {K : zI → Prop} (hg : zGA g) {l1 : Int32} {l2 : Int32} (h : (if ((σ 28 4) ≤ l2 : Prop) then K σ else vp_in l1 6 ∧ vp_in l1 6 ∧ vp_in l2 6 ∧ vp_in l1 6 ∧ vp_in l2 6 ∧ (if ((σ (30 + l1.toNatClampNeg) l2.toNatClampNeg) = (-1) : Prop) then p_X6_walkOn_13 d g K σ l1 (l2 + 1) else vp_in l1 6 ∧ zCI mX6_isBetter d [.ref 28, .int ((σ 36 l1.toNatClampNeg) + (σ (30 + l1.toNatClampNeg) l2.toNatClampNeg)), .int ((σ 37 l1.toNatClampNeg) + 1), .int l2] g σ (fun v1 σ1 => (if (v1 = 0 : Prop) then p_X6_walkOn_13 d g K σ1 l1 (l2 + 1) else vp_in l2 6 ∧ vp_in l1 6 ∧ vp_in l2 6 ∧ p_X6_walkOn_13 d g K (zsI (zsI σ1 36 l2.toNatClampNeg ((σ 36 l1.toNatClampNeg) + (σ (30 + l1.toNatClampNeg) l2.toNatClampNeg))) 37 l2.toNatClampNeg ((σ1 37 l1.toNatClampNeg) + 1)) l1 (l2 + 1)))))) : p_X6_walkOn_13 d g K σ l1 l2 := by
  refine x_iload_n dX6_walkOn_13 rfl ?_
  refine x_aload_n dX6_walkOn_14 rfl ?_
  refine x_getI dX6_walkOn_15 fl_X6_36 (gA_28 hg) rfl ?_
  refine x_icmp_ge (tgt := 93) dX6_walkOn_18 rfl (fun q1 => ?_) (fun q1 => ?_)
  · replace h := itT q1 h
    exact x_vret (S := []) dX6_walkOn_93 rfl ⟨rfl, rfl, h⟩
  · replace h := itF q1 h
    refine x_aload_n dX6_walkOn_21 rfl ?_
    refine x_getR dX6_walkOn_22 fl_X6_16 (gA_28 hg) rfl (gA_28_2 hg) ?_
    refine x_iload_n dX6_walkOn_25 rfl ?_
    obtain ⟨q2, h⟩ := h
    refine x_iald dX6_walkOn_26 (gA_36 hg) q2 ?_
    refine x_aload_n dX6_walkOn_27 rfl ?_
    refine x_getR dX6_walkOn_28 fl_X6_11 (gA_28 hg) rfl (gA_28_1 hg) ?_
    refine x_iload_n dX6_walkOn_31 rfl ?_
    obtain ⟨q3, h⟩ := h
    refine x_aald (t := 2) dX6_walkOn_32 (gA_29 hg) (by decide) q3 (gr_toll hg q3).1 ?_
    refine x_iload_n dX6_walkOn_33 rfl ?_
    obtain ⟨q4, h⟩ := h
    refine x_iald dX6_walkOn_34 (gr_toll hg q3).2 q4 ?_
    refine x_iadd dX6_walkOn_35 ?_
    refine x_istore_n dX6_walkOn_36 rfl (Nat.le_of_ble_eq_true rfl) (L2 := [_, _, _, _]) rfl ?_
    refine x_aload_n dX6_walkOn_37 rfl ?_
    refine x_getR dX6_walkOn_38 fl_X6_11 (gA_28 hg) rfl (gA_28_1 hg) ?_
    refine x_iload_n dX6_walkOn_41 rfl ?_
    obtain ⟨q5, h⟩ := h
    refine x_aald (t := 2) dX6_walkOn_42 (gA_29 hg) (by decide) q5 (gr_toll hg q5).1 ?_
    refine x_iload_n dX6_walkOn_43 rfl ?_
    obtain ⟨q6, h⟩ := h
    refine x_iald dX6_walkOn_44 (gr_toll hg q5).2 q6 ?_
    refine x_iconst (v := (-1)) dX6_walkOn_45 rfl ?_
    refine x_icmp_eq (tgt := 87) dX6_walkOn_46 rfl (fun q7 => ?_) (fun q7 => ?_)
    · replace h := itT q7 h
      refine x_iinc dX6_walkOn_87 rfl (v := l2 + 1) rfl rfl (Nat.le_of_ble_eq_true rfl) (L2 := [_, _, _, _]) rfl ?_
      refine x_goto (tgt := 13) dX6_walkOn_90 rfl ?_
      exact x_wk (wC (wC (wC (wN _)))) h
    · replace h := itF q7 h
      refine x_aload_n dX6_walkOn_49 rfl ?_
      refine x_iload_n dX6_walkOn_50 rfl ?_
      refine x_aload_n dX6_walkOn_51 rfl ?_
      refine x_getR dX6_walkOn_52 fl_X6_20 (gA_28 hg) rfl (gA_28_3 hg) ?_
      refine x_iload_n dX6_walkOn_55 rfl ?_
      obtain ⟨q8, h⟩ := h
      refine x_iald dX6_walkOn_56 (gA_37 hg) q8 ?_
      refine x_iconst (v := 1) dX6_walkOn_57 rfl ?_
      refine x_iadd dX6_walkOn_58 ?_
      refine x_iload_n dX6_walkOn_59 rfl ?_
      refine x_callV (Y2 := mX6_isBetter) (as := [.int ((σ 36 l1.toNatClampNeg) + (σ (30 + l1.toNatClampNeg) l2.toNatClampNeg)), .int ((σ 37 l1.toNatClampNeg) + 1), .int l2]) (S := []) (kc2 := 0) (ks2 := 0) mv_mX6_isBetter (Or.inl ⟨6, _, rfl, rfl, (gA_28 hg)⟩) dX6_walkOn_60 lk_X6_54 mo_mX6_isBetter rfl rfl (Nat.le_of_ble_eq_true rfl) (Or.inl rfl) rfl rfl h ?_
      rintro _ _ σ1 ⟨v1, rfl, rfl, h⟩
      change zX _ _ 0 0 63 _ [.int v1] _ _ _
      refine x_if_eq (tgt := 87) dX6_walkOn_63 rfl (fun q9 => ?_) (fun q9 => ?_)
      · replace h := itT q9 h
        refine x_iinc dX6_walkOn_87 rfl (v := l2 + 1) rfl rfl (Nat.le_of_ble_eq_true rfl) (L2 := [_, _, _, _]) rfl ?_
        refine x_goto (tgt := 13) dX6_walkOn_90 rfl ?_
        exact x_wk (wC (wC (wC (wN _)))) h
      · replace h := itF q9 h
        refine x_aload_n dX6_walkOn_66 rfl ?_
        refine x_getR dX6_walkOn_67 fl_X6_16 (gA_28 hg) rfl (gA_28_2 hg) ?_
        refine x_iload_n dX6_walkOn_70 rfl ?_
        refine x_iload_n dX6_walkOn_71 rfl ?_
        obtain ⟨q10, h⟩ := h
        refine x_iast dX6_walkOn_72 (gA_36 hg) q10 ?_
        refine x_aload_n dX6_walkOn_73 rfl ?_
        refine x_getR dX6_walkOn_74 fl_X6_20 (gA_28 hg) rfl (gA_28_3 hg) ?_
        refine x_iload_n dX6_walkOn_77 rfl ?_
        refine x_aload_n dX6_walkOn_78 rfl ?_
        refine x_getR dX6_walkOn_79 fl_X6_20 (gA_28 hg) rfl (gA_28_3 hg) ?_
        refine x_iload_n dX6_walkOn_82 rfl ?_
        obtain ⟨q11, h⟩ := h
        refine x_iald dX6_walkOn_83 (gA_37 hg) q11 ?_
        refine x_iconst (v := 1) dX6_walkOn_84 rfl ?_
        refine x_iadd dX6_walkOn_85 ?_
        obtain ⟨q12, h⟩ := h
        refine x_iast dX6_walkOn_86 (gA_37 hg) q12 ?_
        refine x_iinc dX6_walkOn_87 rfl (v := l2 + 1) rfl rfl (Nat.le_of_ble_eq_true rfl) (L2 := [_, _, _, _]) rfl ?_
        refine x_goto (tgt := 13) dX6_walkOn_90 rfl ?_
        exact x_wk (wC (wC (wC (wN _)))) h
set_option maxRecDepth 20000 in
theorem s_X6_isBetter {d : Nat} {g : zG} {σ : zI} {K : Int32 → zI → Prop} (hg : zGA g) {l1 : Int32} {l2 : Int32} {l3 : Int32} (h : vp_in l3 6 ∧ (if ((σ 36 l3.toNatClampNeg) = (-1) : Prop) then K 1 σ else vp_in l3 6 ∧ (if (l1 < (σ 36 l3.toNatClampNeg) : Prop) then K 1 σ else vp_in l3 6 ∧ (if (l1 = (σ 36 l3.toNatClampNeg) : Prop) then vp_in l3 6 ∧ (if ((σ 37 l3.toNatClampNeg) ≤ l2 : Prop) then K 0 σ else K 1 σ) else K 0 σ)))) : zCI mX6_isBetter d [.ref 28, .int l1, .int l2, .int l3] g σ K := by
  refine c_of_x pn_mX6_isBetter rfl (Nat.le_of_ble_eq_true rfl) ?_
  change zX _ _ 0 0 0 [.ref 28, .int l1, .int l2, .int l3] [] g σ _
  refine x_aload_n dX6_isBetter_0 rfl ?_
  refine x_getR dX6_isBetter_1 fl_X6_16 (gA_28 hg) rfl (gA_28_2 hg) ?_
  refine x_iload_n dX6_isBetter_4 rfl ?_
  obtain ⟨q1, h⟩ := h
  refine x_iald dX6_isBetter_5 (gA_36 hg) q1 ?_
  refine x_iconst (v := (-1)) dX6_isBetter_6 rfl ?_
  refine x_icmp_eq (tgt := 40) dX6_isBetter_7 rfl (fun q2 => ?_) (fun q2 => ?_)
  · replace h := itT q2 h
    refine x_iconst (v := 1) dX6_isBetter_40 rfl ?_
    refine x_goto (tgt := 45) dX6_isBetter_41 rfl ?_
    exact x_iret (S := []) dX6_isBetter_45 rfl rfl ⟨_, rfl, rfl, h⟩
  · replace h := itF q2 h
    refine x_iload_n dX6_isBetter_10 rfl ?_
    refine x_aload_n dX6_isBetter_11 rfl ?_
    refine x_getR dX6_isBetter_12 fl_X6_16 (gA_28 hg) rfl (gA_28_2 hg) ?_
    refine x_iload_n dX6_isBetter_15 rfl ?_
    obtain ⟨q3, h⟩ := h
    refine x_iald dX6_isBetter_16 (gA_36 hg) q3 ?_
    refine x_icmp_lt (tgt := 40) dX6_isBetter_17 rfl (fun q4 => ?_) (fun q4 => ?_)
    · replace h := itT q4 h
      refine x_iconst (v := 1) dX6_isBetter_40 rfl ?_
      refine x_goto (tgt := 45) dX6_isBetter_41 rfl ?_
      exact x_iret (S := []) dX6_isBetter_45 rfl rfl ⟨_, rfl, rfl, h⟩
    · replace h := itF q4 h
      refine x_iload_n dX6_isBetter_20 rfl ?_
      refine x_aload_n dX6_isBetter_21 rfl ?_
      refine x_getR dX6_isBetter_22 fl_X6_16 (gA_28 hg) rfl (gA_28_2 hg) ?_
      refine x_iload_n dX6_isBetter_25 rfl ?_
      obtain ⟨q5, h⟩ := h
      refine x_iald dX6_isBetter_26 (gA_36 hg) q5 ?_
      refine x_icmp_ne (tgt := 44) dX6_isBetter_27 rfl (fun q6 => ?_) (fun q6 => ?_)
      · replace h := itF q6 h
        refine x_iconst (v := 0) dX6_isBetter_44 rfl ?_
        exact x_iret (S := []) dX6_isBetter_45 rfl rfl ⟨_, rfl, rfl, h⟩
      · replace h := itT q6 h
        refine x_iload_n dX6_isBetter_30 rfl ?_
        refine x_aload_n dX6_isBetter_31 rfl ?_
        refine x_getR dX6_isBetter_32 fl_X6_20 (gA_28 hg) rfl (gA_28_3 hg) ?_
        refine x_iload_n dX6_isBetter_35 rfl ?_
        obtain ⟨q7, h⟩ := h
        refine x_iald dX6_isBetter_36 (gA_37 hg) q7 ?_
        refine x_icmp_ge (tgt := 44) dX6_isBetter_37 rfl (fun q8 => ?_) (fun q8 => ?_)
        · replace h := itT q8 h
          refine x_iconst (v := 0) dX6_isBetter_44 rfl ?_
          exact x_iret (S := []) dX6_isBetter_45 rfl rfl ⟨_, rfl, rfl, h⟩
        · replace h := itF q8 h
          refine x_iconst (v := 1) dX6_isBetter_40 rfl ?_
          refine x_goto (tgt := 45) dX6_isBetter_41 rfl ?_
          exact x_iret (S := []) dX6_isBetter_45 rfl rfl ⟨_, rfl, rfl, h⟩
set_option maxRecDepth 20000 in
theorem s_X6_costTo {d : Nat} {g : zG} {σ : zI} {K : Int32 → zI → Prop} (hg : zGA g) {l1 : Int32} (h : (if (l1 < 0 : Prop) then K (-1) σ else (if (l1 < (σ 28 4) : Prop) then vp_in l1 6 ∧ K (σ 36 l1.toNatClampNeg) σ else K (-1) σ))) : zCI mX6_costTo d [.ref 28, .int l1] g σ K := by
  refine c_of_x pn_mX6_costTo rfl (Nat.le_of_ble_eq_true rfl) ?_
  change zX _ _ 0 0 0 [.ref 28, .int l1] [] g σ _
  refine x_iload_n dX6_costTo_0 rfl ?_
  refine x_if_lt (tgt := 12) dX6_costTo_1 rfl (fun q1 => ?_) (fun q1 => ?_)
  · replace h := itT q1 h
    refine x_iconst (v := (-1)) dX6_costTo_12 rfl ?_
    refine x_goto (tgt := 22) dX6_costTo_13 rfl ?_
    exact x_iret (S := []) dX6_costTo_22 rfl rfl ⟨_, rfl, rfl, h⟩
  · replace h := itF q1 h
    refine x_iload_n dX6_costTo_4 rfl ?_
    refine x_aload_n dX6_costTo_5 rfl ?_
    refine x_getI dX6_costTo_6 fl_X6_36 (gA_28 hg) rfl ?_
    refine x_icmp_lt (tgt := 16) dX6_costTo_9 rfl (fun q2 => ?_) (fun q2 => ?_)
    · replace h := itT q2 h
      refine x_aload_n dX6_costTo_16 rfl ?_
      refine x_getR dX6_costTo_17 fl_X6_16 (gA_28 hg) rfl (gA_28_2 hg) ?_
      refine x_iload_n dX6_costTo_20 rfl ?_
      obtain ⟨q3, h⟩ := h
      refine x_iald dX6_costTo_21 (gA_36 hg) q3 ?_
      exact x_iret (S := []) dX6_costTo_22 rfl rfl ⟨_, rfl, rfl, h⟩
    · replace h := itF q2 h
      refine x_iconst (v := (-1)) dX6_costTo_12 rfl ?_
      refine x_goto (tgt := 22) dX6_costTo_13 rfl ?_
      exact x_iret (S := []) dX6_costTo_22 rfl rfl ⟨_, rfl, rfl, h⟩
set_option maxRecDepth 20000 in
theorem s_X6_stepsTo {d : Nat} {g : zG} {σ : zI} {K : Int32 → zI → Prop} (hg : zGA g) {l1 : Int32} (h : (if (l1 < 0 : Prop) then K (-1) σ else (if (l1 < (σ 28 4) : Prop) then vp_in l1 6 ∧ K (σ 37 l1.toNatClampNeg) σ else K (-1) σ))) : zCI mX6_stepsTo d [.ref 28, .int l1] g σ K := by
  refine c_of_x pn_mX6_stepsTo rfl (Nat.le_of_ble_eq_true rfl) ?_
  change zX _ _ 0 0 0 [.ref 28, .int l1] [] g σ _
  refine x_iload_n dX6_stepsTo_0 rfl ?_
  refine x_if_lt (tgt := 12) dX6_stepsTo_1 rfl (fun q1 => ?_) (fun q1 => ?_)
  · replace h := itT q1 h
    refine x_iconst (v := (-1)) dX6_stepsTo_12 rfl ?_
    refine x_goto (tgt := 22) dX6_stepsTo_13 rfl ?_
    exact x_iret (S := []) dX6_stepsTo_22 rfl rfl ⟨_, rfl, rfl, h⟩
  · replace h := itF q1 h
    refine x_iload_n dX6_stepsTo_4 rfl ?_
    refine x_aload_n dX6_stepsTo_5 rfl ?_
    refine x_getI dX6_stepsTo_6 fl_X6_36 (gA_28 hg) rfl ?_
    refine x_icmp_lt (tgt := 16) dX6_stepsTo_9 rfl (fun q2 => ?_) (fun q2 => ?_)
    · replace h := itT q2 h
      refine x_aload_n dX6_stepsTo_16 rfl ?_
      refine x_getR dX6_stepsTo_17 fl_X6_20 (gA_28 hg) rfl (gA_28_3 hg) ?_
      refine x_iload_n dX6_stepsTo_20 rfl ?_
      obtain ⟨q3, h⟩ := h
      refine x_iald dX6_stepsTo_21 (gA_37 hg) q3 ?_
      exact x_iret (S := []) dX6_stepsTo_22 rfl rfl ⟨_, rfl, rfl, h⟩
    · replace h := itF q2 h
      refine x_iconst (v := (-1)) dX6_stepsTo_12 rfl ?_
      refine x_goto (tgt := 22) dX6_stepsTo_13 rfl ?_
      exact x_iret (S := []) dX6_stepsTo_22 rfl rfl ⟨_, rfl, rfl, h⟩
abbrev p_X3_hindered_18 (d : Nat) (g : zG) (K : Int32 → zI → Prop) (σ : zI) (l1 : Nat) (l3 : Int32) (l4 : Int32) (l5 : Int32) (l6 : Int32) (l7 : Int32) : Prop := zX mX3_hindered (d + 1) 0 0 18 [.ref 22, .ref l1, .retAddr 0, .int l3, .int l4, .int l5, .int l6, .int l7] [] g σ (zqI g K)
set_option maxRecDepth 20000 in
theorem s_X3_hindered {d : Nat} {g : zG} {σ : zI} {K : Int32 → zI → Prop} (hg : zGA g) {l1 : Nat} (h1 : zOb g l1 0) {l2 : Nat} (h2 : zOb g l2 0) {l3 : Int32} (h : zCV mX3_fillCan d [.ref 22, .ref l1, .ref l2] g σ (fun σ1 => p_X3_hindered_18 d g K σ1 l1 l3 0 (-1) 0 1)) : zCI mX3_hindered (d + 1) [.ref 22, .ref l1, .ref l2, .int l3] g σ K := by
  refine c_of_x pn_mX3_hindered rfl (Nat.le_of_ble_eq_true rfl) ?_
  change zX _ _ 0 0 0 [.ref 22, .ref l1, .ref l2, .int l3] [] g σ _
  refine x_aload_n dX3_hindered_0 rfl ?_
  refine x_aload_n dX3_hindered_1 rfl ?_
  refine x_aload_n dX3_hindered_2 rfl ?_
  refine x_callV (Y2 := mX3_fillCan) (as := [.ref l1, .ref l2]) (S := []) (kc2 := 0) (ks2 := 0) mv_mX3_fillCan (Or.inl ⟨3, _, rfl, rfl, (gA_22 hg)⟩) dX3_hindered_3 lk_X3_60 mo_mX3_fillCan rfl rfl (Nat.le_of_ble_eq_true rfl) (Or.inl rfl) rfl rfl h ?_
  rintro _ _ σ1 ⟨rfl, rfl, h⟩
  change zX _ _ 0 0 6 _ [] _ _ _
  refine x_iconst (v := 0) dX3_hindered_6 rfl ?_
  refine x_istore dX3_hindered_7 rfl (Nat.le_of_ble_eq_true rfl) (L2 := [_, _, _, _, _]) rfl ?_
  refine x_iconst (v := (-1)) dX3_hindered_9 rfl ?_
  refine x_istore dX3_hindered_10 rfl (Nat.le_of_ble_eq_true rfl) (L2 := [_, _, _, _, _, _]) rfl ?_
  refine x_iconst (v := 0) dX3_hindered_12 rfl ?_
  refine x_istore dX3_hindered_13 rfl (Nat.le_of_ble_eq_true rfl) (L2 := [_, _, _, _, _, _, _]) rfl ?_
  refine x_iconst (v := 1) dX3_hindered_15 rfl ?_
  refine x_istore dX3_hindered_16 rfl (Nat.le_of_ble_eq_true rfl) (L2 := [_, _, _, _, _, _, _, _]) rfl ?_
  exact x_wk (wC (wC (wJ (wC (wC (wC (wC (wC (wN _))))))))) h
set_option maxRecDepth 20000 in
theorem s_X3_hindered_18 {d : Nat} {g : zG} {σ : zI} {K : Int32 → zI → Prop} (hg : zGA g) {l1 : Nat} (h_l1 : zOb g l1 0) {l3 : Int32} {l4 : Int32} {l5 : Int32} {l6 : Int32} {l7 : Int32} (h : (if (99 < l7 : Prop) then (if (l3 = 0 : Prop) then K l4 σ else (if (l3 = 1 : Prop) then K l5 σ else K l6 σ)) else vp_in l7 100 ∧ (if ((σ 26 l7.toNatClampNeg) = 0 : Prop) then zCI mX2_isMeant d [.ref 3, .ref l1, .int l7] g σ (fun v1 σ1 => (if (v1 = 0 : Prop) then p_X3_hindered_18 d g K σ1 l1 l3 l4 l5 l6 (l7 + 1) else (if (l5 = (-1) : Prop) then (if (l3 = 2 : Prop) then zCI mX2_worthOf d [.ref 3, .ref l1, .int l7] g σ1 (fun v2 σ2 => p_X3_hindered_18 d g K σ2 l1 l3 (l4 + 1) l7 (l6 + v2) (l7 + 1)) else p_X3_hindered_18 d g K σ1 l1 l3 (l4 + 1) l7 (l6 + 0) (l7 + 1)) else (if (l3 = 2 : Prop) then zCI mX2_worthOf d [.ref 3, .ref l1, .int l7] g σ1 (fun v2 σ2 => p_X3_hindered_18 d g K σ2 l1 l3 (l4 + 1) l5 (l6 + v2) (l7 + 1)) else p_X3_hindered_18 d g K σ1 l1 l3 (l4 + 1) l5 (l6 + 0) (l7 + 1))))) else p_X3_hindered_18 d g K σ l1 l3 l4 l5 l6 (l7 + 1)))) : p_X3_hindered_18 d g K σ l1 l3 l4 l5 l6 l7 := by
  refine x_iload dX3_hindered_18 rfl ?_
  refine x_bipush (v := 99) dX3_hindered_20 rfl ?_
  refine x_icmp_gt (tgt := 96) dX3_hindered_22 rfl (fun q1 => ?_) (fun q1 => ?_)
  · replace h := itT q1 h
    refine x_iload_n dX3_hindered_96 rfl ?_
    refine x_if_ne (tgt := 105) dX3_hindered_97 rfl (fun q2 => ?_) (fun q2 => ?_)
    · replace h := itF q2 h
      refine x_iload_n dX3_hindered_105 rfl ?_
      refine x_iconst (v := 1) dX3_hindered_106 rfl ?_
      refine x_icmp_ne (tgt := 115) dX3_hindered_107 rfl (fun q3 => ?_) (fun q3 => ?_)
      · replace h := itF q3 h
        refine x_iload dX3_hindered_115 rfl ?_
        exact x_iret (S := []) dX3_hindered_117 rfl rfl ⟨_, rfl, rfl, h⟩
      · replace h := itT q3 h
        refine x_iload dX3_hindered_110 rfl ?_
        refine x_goto (tgt := 117) dX3_hindered_112 rfl ?_
        exact x_iret (S := []) dX3_hindered_117 rfl rfl ⟨_, rfl, rfl, h⟩
    · replace h := itT q2 h
      refine x_iload dX3_hindered_100 rfl ?_
      refine x_goto (tgt := 117) dX3_hindered_102 rfl ?_
      exact x_iret (S := []) dX3_hindered_117 rfl rfl ⟨_, rfl, rfl, h⟩
  · replace h := itF q1 h
    refine x_aload_n dX3_hindered_25 rfl ?_
    refine x_getR dX3_hindered_26 fl_X3_21 (gA_22 hg) rfl (gA_22_4 hg) ?_
    refine x_iload dX3_hindered_29 rfl ?_
    obtain ⟨q2, h⟩ := h
    refine x_zald dX3_hindered_31 (gA_26 hg) q2 ?_
    refine x_if_ne (tgt := 90) dX3_hindered_32 rfl (fun q3 => ?_) (fun q3 => ?_)
    · replace h := itF q3 h
      refine x_iinc dX3_hindered_90 rfl (v := l7 + 1) rfl rfl (Nat.le_of_ble_eq_true rfl) (L2 := [_, _, _, _, _, _, _, _]) rfl ?_
      refine x_goto (tgt := 18) dX3_hindered_93 rfl ?_
      exact h
    · replace h := itT q3 h
      refine x_aload_n dX3_hindered_35 rfl ?_
      refine x_getR dX3_hindered_36 fl_X3_28 (gA_22 hg) rfl (gA_22_0 hg) ?_
      refine x_aload_n dX3_hindered_39 rfl ?_
      refine x_iload dX3_hindered_40 rfl ?_
      refine x_callV (Y2 := mX2_isMeant) (as := [.ref l1, .int l7]) (S := []) (kc2 := 0) (ks2 := 0) mv_mX2_isMeant (Or.inl ⟨2, _, rfl, rfl, (gA_3 hg)⟩) dX3_hindered_42 lk_X3_68 mo_mX2_isMeant rfl rfl (Nat.le_of_ble_eq_true rfl) (Or.inl rfl) rfl rfl h ?_
      rintro _ _ σ1 ⟨v1, rfl, rfl, h⟩
      change zX _ _ 0 0 45 _ [.int v1] _ _ _
      refine x_if_eq (tgt := 90) dX3_hindered_45 rfl (fun q4 => ?_) (fun q4 => ?_)
      · replace h := itT q4 h
        refine x_iinc dX3_hindered_90 rfl (v := l7 + 1) rfl rfl (Nat.le_of_ble_eq_true rfl) (L2 := [_, _, _, _, _, _, _, _]) rfl ?_
        refine x_goto (tgt := 18) dX3_hindered_93 rfl ?_
        exact h
      · replace h := itF q4 h
        refine x_iinc dX3_hindered_48 rfl (v := l4 + 1) rfl rfl (Nat.le_of_ble_eq_true rfl) (L2 := [_, _, _, _, _, _, _, _]) rfl ?_
        refine x_iload dX3_hindered_51 rfl ?_
        refine x_iconst (v := (-1)) dX3_hindered_53 rfl ?_
        refine x_icmp_ne (tgt := 62) dX3_hindered_54 rfl (fun q5 => ?_) (fun q5 => ?_)
        · replace h := itF q5 h
          refine x_iload dX3_hindered_62 rfl ?_
          refine x_istore dX3_hindered_64 rfl (Nat.le_of_ble_eq_true rfl) (L2 := [_, _, _, _, _, _, _, _]) rfl ?_
          refine x_iload dX3_hindered_66 rfl ?_
          refine x_iload_n dX3_hindered_68 rfl ?_
          refine x_iconst (v := 2) dX3_hindered_69 rfl ?_
          refine x_icmp_ne (tgt := 86) dX3_hindered_70 rfl (fun q6 => ?_) (fun q6 => ?_)
          · replace h := itF q6 h
            refine x_iconst (v := 0) dX3_hindered_86 rfl ?_
            refine x_iadd dX3_hindered_87 ?_
            refine x_istore dX3_hindered_88 rfl (Nat.le_of_ble_eq_true rfl) (L2 := [_, _, _, _, _, _, _, _]) rfl ?_
            refine x_iinc dX3_hindered_90 rfl (v := l7 + 1) rfl rfl (Nat.le_of_ble_eq_true rfl) (L2 := [_, _, _, _, _, _, _, _]) rfl ?_
            refine x_goto (tgt := 18) dX3_hindered_93 rfl ?_
            exact h
          · replace h := itT q6 h
            refine x_aload_n dX3_hindered_73 rfl ?_
            refine x_getR dX3_hindered_74 fl_X3_28 (gA_22 hg) rfl (gA_22_0 hg) ?_
            refine x_aload_n dX3_hindered_77 rfl ?_
            refine x_iload dX3_hindered_78 rfl ?_
            refine x_callV (Y2 := mX2_worthOf) (as := [.ref l1, .int l7]) (S := [.int l6]) (kc2 := 0) (ks2 := 0) mv_mX2_worthOf (Or.inl ⟨2, _, rfl, rfl, (gA_3 hg)⟩) dX3_hindered_80 lk_X3_72 mo_mX2_worthOf rfl rfl (Nat.le_of_ble_eq_true rfl) (Or.inl rfl) rfl rfl h ?_
            rintro _ _ σ2 ⟨v2, rfl, rfl, h⟩
            change zX _ _ 0 0 83 _ [.int v2, .int l6] _ _ _
            refine x_goto (tgt := 87) dX3_hindered_83 rfl ?_
            refine x_iadd dX3_hindered_87 ?_
            refine x_istore dX3_hindered_88 rfl (Nat.le_of_ble_eq_true rfl) (L2 := [_, _, _, _, _, _, _, _]) rfl ?_
            refine x_iinc dX3_hindered_90 rfl (v := l7 + 1) rfl rfl (Nat.le_of_ble_eq_true rfl) (L2 := [_, _, _, _, _, _, _, _]) rfl ?_
            refine x_goto (tgt := 18) dX3_hindered_93 rfl ?_
            exact h
        · replace h := itT q5 h
          refine x_iload dX3_hindered_57 rfl ?_
          refine x_goto (tgt := 64) dX3_hindered_59 rfl ?_
          refine x_istore dX3_hindered_64 rfl (Nat.le_of_ble_eq_true rfl) (L2 := [_, _, _, _, _, _, _, _]) rfl ?_
          refine x_iload dX3_hindered_66 rfl ?_
          refine x_iload_n dX3_hindered_68 rfl ?_
          refine x_iconst (v := 2) dX3_hindered_69 rfl ?_
          refine x_icmp_ne (tgt := 86) dX3_hindered_70 rfl (fun q6 => ?_) (fun q6 => ?_)
          · replace h := itF q6 h
            refine x_iconst (v := 0) dX3_hindered_86 rfl ?_
            refine x_iadd dX3_hindered_87 ?_
            refine x_istore dX3_hindered_88 rfl (Nat.le_of_ble_eq_true rfl) (L2 := [_, _, _, _, _, _, _, _]) rfl ?_
            refine x_iinc dX3_hindered_90 rfl (v := l7 + 1) rfl rfl (Nat.le_of_ble_eq_true rfl) (L2 := [_, _, _, _, _, _, _, _]) rfl ?_
            refine x_goto (tgt := 18) dX3_hindered_93 rfl ?_
            exact h
          · replace h := itT q6 h
            refine x_aload_n dX3_hindered_73 rfl ?_
            refine x_getR dX3_hindered_74 fl_X3_28 (gA_22 hg) rfl (gA_22_0 hg) ?_
            refine x_aload_n dX3_hindered_77 rfl ?_
            refine x_iload dX3_hindered_78 rfl ?_
            refine x_callV (Y2 := mX2_worthOf) (as := [.ref l1, .int l7]) (S := [.int l6]) (kc2 := 0) (ks2 := 0) mv_mX2_worthOf (Or.inl ⟨2, _, rfl, rfl, (gA_3 hg)⟩) dX3_hindered_80 lk_X3_72 mo_mX2_worthOf rfl rfl (Nat.le_of_ble_eq_true rfl) (Or.inl rfl) rfl rfl h ?_
            rintro _ _ σ2 ⟨v2, rfl, rfl, h⟩
            change zX _ _ 0 0 83 _ [.int v2, .int l6] _ _ _
            refine x_goto (tgt := 87) dX3_hindered_83 rfl ?_
            refine x_iadd dX3_hindered_87 ?_
            refine x_istore dX3_hindered_88 rfl (Nat.le_of_ble_eq_true rfl) (L2 := [_, _, _, _, _, _, _, _]) rfl ?_
            refine x_iinc dX3_hindered_90 rfl (v := l7 + 1) rfl rfl (Nat.le_of_ble_eq_true rfl) (L2 := [_, _, _, _, _, _, _, _]) rfl ?_
            refine x_goto (tgt := 18) dX3_hindered_93 rfl ?_
            exact h
abbrev p_X3_fillCan_20 (d : Nat) (g : zG) (K : zI → Prop) (σ : zI) (l3 : Int32) (l4 : Int32) : Prop := zX mX3_fillCan (d + 1) 0 0 20 [.ref 22, .retAddr 0, .retAddr 0, .int l3, .int l4] [] g σ (zqV g K)
abbrev p_X3_fillCan_44 (d : Nat) (g : zG) (K : zI → Prop) (σ : zI) (l3 : Int32) (l4 : Int32) : Prop := zX mX3_fillCan (d + 1) 0 0 44 [.ref 22, .retAddr 0, .retAddr 0, .int l3, .int l4] [] g σ (zqV g K)
abbrev p_X3_fillCan_74 (d : Nat) (g : zG) (K : zI → Prop) (σ : zI) (l3 : Int32) (l4 : Int32) (l5 : Int32) : Prop := zX mX3_fillCan (d + 1) 0 0 74 [.ref 22, .retAddr 0, .retAddr 0, .int l3, .int l4, .int l5] [] g σ (zqV g K)
set_option maxRecDepth 20000 in
theorem s_X3_fillCan {d : Nat} {g : zG} {σ : zI} {K : zI → Prop} (hg : zGA g) {l1 : Nat} (h1 : zOb g l1 0) {l2 : Nat} (h2 : zOb g l2 0) (h : zCI mX0_sayable d [.ref l1] g σ (fun v1 σ1 => zCI mX0_sayable d [.ref l2] g σ1 (fun v2 σ2 => p_X3_fillCan_20 d g K (zsI σ2 26 0 1) (v1 &&& v2) 1))) : zCV mX3_fillCan (d + 1) [.ref 22, .ref l1, .ref l2] g σ K := by
  refine c_of_x pn_mX3_fillCan rfl (Nat.le_of_ble_eq_true rfl) ?_
  change zX _ _ 0 0 0 [.ref 22, .ref l1, .ref l2] [] g σ _
  refine x_aload_n dX3_fillCan_0 rfl ?_
  refine x_callV (Y2 := mX0_sayable) (as := []) (S := []) (kc2 := 0) (ks2 := 0) mv_mX0_sayable (Or.inl ⟨0, _, rfl, rfl, h1⟩) dX3_fillCan_1 lk_X3_32 mo_mX0_sayable rfl rfl (Nat.le_of_ble_eq_true rfl) (Or.inl rfl) rfl rfl h ?_
  rintro _ _ σ1 ⟨v1, rfl, rfl, h⟩
  change zX _ _ 0 0 4 _ [.int v1] _ _ _
  refine x_aload_n dX3_fillCan_4 rfl ?_
  refine x_callV (Y2 := mX0_sayable) (as := []) (S := [.int v1]) (kc2 := 0) (ks2 := 0) mv_mX0_sayable (Or.inl ⟨0, _, rfl, rfl, h2⟩) dX3_fillCan_5 lk_X3_32 mo_mX0_sayable rfl rfl (Nat.le_of_ble_eq_true rfl) (Or.inl rfl) rfl rfl h ?_
  rintro _ _ σ2 ⟨v2, rfl, rfl, h⟩
  change zX _ _ 0 0 8 _ [.int v2, .int v1] _ _ _
  refine x_iand dX3_fillCan_8 ?_
  refine x_istore_n dX3_fillCan_9 rfl (Nat.le_of_ble_eq_true rfl) (L2 := [_, _, _, _]) rfl ?_
  refine x_aload_n dX3_fillCan_10 rfl ?_
  refine x_getR dX3_fillCan_11 fl_X3_21 (gA_22 hg) rfl (gA_22_4 hg) ?_
  refine x_iconst (v := 0) dX3_fillCan_14 rfl ?_
  refine x_iconst (v := 1) dX3_fillCan_15 rfl ?_
  refine x_zast dX3_fillCan_16 (gA_26 hg) (zvp rfl) (Or.inr rfl) ?_
  refine x_iconst (v := 1) dX3_fillCan_17 rfl ?_
  refine x_istore dX3_fillCan_18 rfl (Nat.le_of_ble_eq_true rfl) (L2 := [_, _, _, _, _]) rfl ?_
  exact x_wk (wC (wJ (wJ (wC (wC (wN _)))))) h
set_option maxRecDepth 20000 in
theorem s_X3_fillCan_20 {d : Nat} {g : zG} {σ : zI} {K : zI → Prop} (hg : zGA g) {l3 : Int32} {l4 : Int32} (h : (if (99 < l4 : Prop) then p_X3_fillCan_44 d g K σ l3 1 else vp_in l4 100 ∧ p_X3_fillCan_20 d g K (zsI σ 26 l4.toNatClampNeg 0) l3 (l4 + 1))) : p_X3_fillCan_20 d g K σ l3 l4 := by
  refine x_iload dX3_fillCan_20 rfl ?_
  refine x_bipush (v := 99) dX3_fillCan_22 rfl ?_
  refine x_icmp_gt (tgt := 41) dX3_fillCan_24 rfl (fun q1 => ?_) (fun q1 => ?_)
  · replace h := itT q1 h
    refine x_iconst (v := 1) dX3_fillCan_41 rfl ?_
    refine x_istore dX3_fillCan_42 rfl (Nat.le_of_ble_eq_true rfl) (L2 := [_, _, _, _, _]) rfl ?_
    exact h
  · replace h := itF q1 h
    refine x_aload_n dX3_fillCan_27 rfl ?_
    refine x_getR dX3_fillCan_28 fl_X3_21 (gA_22 hg) rfl (gA_22_4 hg) ?_
    refine x_iload dX3_fillCan_31 rfl ?_
    refine x_iconst (v := 0) dX3_fillCan_33 rfl ?_
    obtain ⟨q2, h⟩ := h
    refine x_zast dX3_fillCan_34 (gA_26 hg) q2 (Or.inl rfl) ?_
    refine x_iinc dX3_fillCan_35 rfl (v := l4 + 1) rfl rfl (Nat.le_of_ble_eq_true rfl) (L2 := [_, _, _, _, _]) rfl ?_
    refine x_goto (tgt := 20) dX3_fillCan_38 rfl ?_
    exact h
set_option maxRecDepth 20000 in
theorem s_X3_fillCan_44 {d : Nat} {g : zG} {σ : zI} {K : zI → Prop} (hg : zGA g) {l3 : Int32} {l4 : Int32} (h : (if (30 < l4 : Prop) then K σ else zCI mX7_has d [.int l3, .int l4] g σ (fun v1 σ1 => (if (v1 = 0 : Prop) then p_X3_fillCan_44 d g K σ1 l3 (l4 + 1) else vp_in l4 100 ∧ (if ((σ1 26 l4.toNatClampNeg) = 0 : Prop) then p_X3_fillCan_74 d g K σ1 l3 l4 l4 else p_X3_fillCan_44 d g K σ1 l3 (l4 + 1)))))) : p_X3_fillCan_44 d g K σ l3 l4 := by
  refine x_iload dX3_fillCan_44 rfl ?_
  refine x_bipush (v := 30) dX3_fillCan_46 rfl ?_
  refine x_icmp_gt (tgt := 128) dX3_fillCan_48 rfl (fun q1 => ?_) (fun q1 => ?_)
  · replace h := itT q1 h
    exact x_vret (S := []) dX3_fillCan_128 rfl ⟨rfl, rfl, h⟩
  · replace h := itF q1 h
    refine x_iload_n dX3_fillCan_51 rfl ?_
    refine x_iload dX3_fillCan_52 rfl ?_
    refine x_callS (Y2 := mX7_has) (as := [.int l3, .int l4]) (S := []) (kc2 := 0) (ks2 := 0) st_mX7_has dX3_fillCan_54 lk_X3_56 mo_mX7_has rfl rfl (Nat.le_of_ble_eq_true rfl) (Or.inl rfl) rfl rfl h ?_
    rintro _ _ σ1 ⟨v1, rfl, rfl, h⟩
    change zX _ _ 0 0 57 _ [.int v1] _ _ _
    refine x_if_eq (tgt := 122) dX3_fillCan_57 rfl (fun q2 => ?_) (fun q2 => ?_)
    · replace h := itT q2 h
      refine x_iinc dX3_fillCan_122 rfl (v := l4 + 1) rfl rfl (Nat.le_of_ble_eq_true rfl) (L2 := [_, _, _, _, _]) rfl ?_
      refine x_goto (tgt := 44) dX3_fillCan_125 rfl ?_
      exact h
    · replace h := itF q2 h
      refine x_aload_n dX3_fillCan_60 rfl ?_
      refine x_getR dX3_fillCan_61 fl_X3_21 (gA_22 hg) rfl (gA_22_4 hg) ?_
      refine x_iload dX3_fillCan_64 rfl ?_
      obtain ⟨q3, h⟩ := h
      refine x_zald dX3_fillCan_66 (gA_26 hg) q3 ?_
      refine x_if_ne (tgt := 122) dX3_fillCan_67 rfl (fun q4 => ?_) (fun q4 => ?_)
      · replace h := itF q4 h
        refine x_iinc dX3_fillCan_122 rfl (v := l4 + 1) rfl rfl (Nat.le_of_ble_eq_true rfl) (L2 := [_, _, _, _, _]) rfl ?_
        refine x_goto (tgt := 44) dX3_fillCan_125 rfl ?_
        exact h
      · replace h := itT q4 h
        refine x_iload dX3_fillCan_70 rfl ?_
        refine x_istore dX3_fillCan_72 rfl (Nat.le_of_ble_eq_true rfl) (L2 := [_, _, _, _, _, _]) rfl ?_
        exact h
set_option maxRecDepth 20000 in
theorem s_X3_fillCan_74 {d : Nat} {g : zG} {σ : zI} {K : zI → Prop} (hg : zGA g) {l3 : Int32} {l4 : Int32} {l5 : Int32} (h : (if (99 < l5 : Prop) then p_X3_fillCan_44 d g K σ l3 (l4 + 1) else vp_in l5 100 ∧ (if ((σ 26 l5.toNatClampNeg) = 0 : Prop) then vp_in (l5 - l4) 100 ∧ (if ((σ 26 ((l5 - l4 : Int32).toNatClampNeg)) = 0 : Prop) then vp_in l5 100 ∧ p_X3_fillCan_74 d g K (zsI σ 26 l5.toNatClampNeg 0) l3 l4 (l5 + 1) else vp_in l5 100 ∧ p_X3_fillCan_74 d g K (zsI σ 26 l5.toNatClampNeg 1) l3 l4 (l5 + 1)) else vp_in l5 100 ∧ p_X3_fillCan_74 d g K (zsI σ 26 l5.toNatClampNeg 1) l3 l4 (l5 + 1)))) : p_X3_fillCan_74 d g K σ l3 l4 l5 := by
  refine x_iload dX3_fillCan_74 rfl ?_
  refine x_bipush (v := 99) dX3_fillCan_76 rfl ?_
  refine x_icmp_gt (tgt := 122) dX3_fillCan_78 rfl (fun q1 => ?_) (fun q1 => ?_)
  · replace h := itT q1 h
    refine x_iinc dX3_fillCan_122 rfl (v := l4 + 1) rfl rfl (Nat.le_of_ble_eq_true rfl) (L2 := [_, _, _, _, _, _]) rfl ?_
    refine x_goto (tgt := 44) dX3_fillCan_125 rfl ?_
    exact x_wk (wC (wJ (wJ (wC (wC (wN _)))))) h
  · replace h := itF q1 h
    refine x_aload_n dX3_fillCan_81 rfl ?_
    refine x_getR dX3_fillCan_82 fl_X3_21 (gA_22 hg) rfl (gA_22_4 hg) ?_
    refine x_iload dX3_fillCan_85 rfl ?_
    refine x_aload_n dX3_fillCan_87 rfl ?_
    refine x_getR dX3_fillCan_88 fl_X3_21 (gA_22 hg) rfl (gA_22_4 hg) ?_
    refine x_iload dX3_fillCan_91 rfl ?_
    obtain ⟨q2, h⟩ := h
    refine x_zald dX3_fillCan_93 (gA_26 hg) q2 ?_
    refine x_if_ne (tgt := 110) dX3_fillCan_94 rfl (fun q3 => ?_) (fun q3 => ?_)
    · replace h := itF q3 h
      refine x_iconst (v := 1) dX3_fillCan_110 rfl ?_
      refine x_goto (tgt := 115) dX3_fillCan_111 rfl ?_
      obtain ⟨q4, h⟩ := h
      refine x_zast dX3_fillCan_115 (gA_26 hg) q4 (Or.inr rfl) ?_
      refine x_iinc dX3_fillCan_116 rfl (v := l5 + 1) rfl rfl (Nat.le_of_ble_eq_true rfl) (L2 := [_, _, _, _, _, _]) rfl ?_
      refine x_goto (tgt := 74) dX3_fillCan_119 rfl ?_
      exact h
    · replace h := itT q3 h
      refine x_aload_n dX3_fillCan_97 rfl ?_
      refine x_getR dX3_fillCan_98 fl_X3_21 (gA_22 hg) rfl (gA_22_4 hg) ?_
      refine x_iload dX3_fillCan_101 rfl ?_
      refine x_iload dX3_fillCan_103 rfl ?_
      refine x_isub dX3_fillCan_105 ?_
      obtain ⟨q4, h⟩ := h
      refine x_zald dX3_fillCan_106 (gA_26 hg) q4 ?_
      refine x_if_eq (tgt := 114) dX3_fillCan_107 rfl (fun q5 => ?_) (fun q5 => ?_)
      · replace h := itT q5 h
        refine x_iconst (v := 0) dX3_fillCan_114 rfl ?_
        obtain ⟨q6, h⟩ := h
        refine x_zast dX3_fillCan_115 (gA_26 hg) q6 (Or.inl rfl) ?_
        refine x_iinc dX3_fillCan_116 rfl (v := l5 + 1) rfl rfl (Nat.le_of_ble_eq_true rfl) (L2 := [_, _, _, _, _, _]) rfl ?_
        refine x_goto (tgt := 74) dX3_fillCan_119 rfl ?_
        exact h
      · replace h := itF q5 h
        refine x_iconst (v := 1) dX3_fillCan_110 rfl ?_
        refine x_goto (tgt := 115) dX3_fillCan_111 rfl ?_
        obtain ⟨q6, h⟩ := h
        refine x_zast dX3_fillCan_115 (gA_26 hg) q6 (Or.inr rfl) ?_
        refine x_iinc dX3_fillCan_116 rfl (v := l5 + 1) rfl rfl (Nat.le_of_ble_eq_true rfl) (L2 := [_, _, _, _, _, _]) rfl ?_
        refine x_goto (tgt := 74) dX3_fillCan_119 rfl ?_
        exact h
abbrev p_X3_hearNone_2 (d : Nat) (g : zG) (K : zI → Prop) (σ : zI) (l1 : Int32) : Prop := zX mX3_hearNone d 0 0 2 [.ref 22, .int l1] [] g σ (zqV g K)
set_option maxRecDepth 20000 in
theorem s_X3_hearNone {d : Nat} {g : zG} {σ : zI} {K : zI → Prop} (hg : zGA g)  (h : p_X3_hearNone_2 d g K σ 0) : zCV mX3_hearNone d [.ref 22] g σ K := by
  refine c_of_x pn_mX3_hearNone rfl (Nat.le_of_ble_eq_true rfl) ?_
  change zX _ _ 0 0 0 [.ref 22] [] g σ _
  refine x_iconst (v := 0) dX3_hearNone_0 rfl ?_
  refine x_istore_n dX3_hearNone_1 rfl (Nat.le_of_ble_eq_true rfl) (L2 := [_, _]) rfl ?_
  exact h
set_option maxRecDepth 20000 in
theorem s_X3_hearNone_2 {d : Nat} {g : zG} {σ : zI} {K : zI → Prop} (hg : zGA g) {l1 : Int32} (h : (if (99 < l1 : Prop) then K σ else vp_in l1 100 ∧ p_X3_hearNone_2 d g K (zsI σ 27 l1.toNatClampNeg 0) (l1 + 1))) : p_X3_hearNone_2 d g K σ l1 := by
  refine x_iload_n dX3_hearNone_2 rfl ?_
  refine x_bipush (v := 99) dX3_hearNone_3 rfl ?_
  refine x_icmp_gt (tgt := 21) dX3_hearNone_5 rfl (fun q1 => ?_) (fun q1 => ?_)
  · replace h := itT q1 h
    exact x_vret (S := []) dX3_hearNone_21 rfl ⟨rfl, rfl, h⟩
  · replace h := itF q1 h
    refine x_aload_n dX3_hearNone_8 rfl ?_
    refine x_getR dX3_hearNone_9 fl_X3_25 (gA_22 hg) rfl (gA_22_5 hg) ?_
    refine x_iload_n dX3_hearNone_12 rfl ?_
    refine x_iconst (v := 0) dX3_hearNone_13 rfl ?_
    obtain ⟨q2, h⟩ := h
    refine x_zast dX3_hearNone_14 (gA_27 hg) q2 (Or.inl rfl) ?_
    refine x_iinc dX3_hearNone_15 rfl (v := l1 + 1) rfl rfl (Nat.le_of_ble_eq_true rfl) (L2 := [_, _]) rfl ?_
    refine x_goto (tgt := 2) dX3_hearNone_18 rfl ?_
    exact h
abbrev p_X3_hear_17 (d : Nat) (g : zG) (K : zI → Prop) (σ : zI) (l3 : Int32) : Prop := zX mX3_hear (d + 1) 0 0 17 [.ref 22, .retAddr 0, .retAddr 0, .int l3] [] g σ (zqV g K)
set_option maxRecDepth 20000 in
theorem s_X3_hear {d : Nat} {g : zG} {σ : zI} {K : zI → Prop} (hg : zGA g) {l1 : Nat} (h1 : zOb g l1 0) {l2 : Nat} (h2 : zOb g l2 0) (h : zCV mX3_fillCan d [.ref 22, .ref l1, .ref l2] g σ (fun σ1 => p_X3_hear_17 d g K σ1 0)) : zCV mX3_hear (d + 1) [.ref 22, .ref l1, .ref l2] g σ K := by
  refine c_of_x pn_mX3_hear rfl (Nat.le_of_ble_eq_true rfl) ?_
  change zX _ _ 0 0 0 [.ref 22, .ref l1, .ref l2] [] g σ _
  refine x_aload_n dX3_hear_0 rfl ?_
  refine x_ifnull dX3_hear_1 ?_
  refine x_aload_n dX3_hear_4 rfl ?_
  refine x_ifnonnull (tgt := 9) dX3_hear_5 rfl ?_
  refine x_aload_n dX3_hear_9 rfl ?_
  refine x_aload_n dX3_hear_10 rfl ?_
  refine x_aload_n dX3_hear_11 rfl ?_
  refine x_callV (Y2 := mX3_fillCan) (as := [.ref l1, .ref l2]) (S := []) (kc2 := 0) (ks2 := 0) mv_mX3_fillCan (Or.inl ⟨3, _, rfl, rfl, (gA_22 hg)⟩) dX3_hear_12 lk_X3_60 mo_mX3_fillCan rfl rfl (Nat.le_of_ble_eq_true rfl) (Or.inl rfl) rfl rfl h ?_
  rintro _ _ σ1 ⟨rfl, rfl, h⟩
  change zX _ _ 0 0 15 _ [] _ _ _
  refine x_iconst (v := 0) dX3_hear_15 rfl ?_
  refine x_istore_n dX3_hear_16 rfl (Nat.le_of_ble_eq_true rfl) (L2 := [_, _, _, _]) rfl ?_
  exact x_wk (wC (wJ (wJ (wC (wN _))))) h
set_option maxRecDepth 20000 in
theorem s_X3_hear_17 {d : Nat} {g : zG} {σ : zI} {K : zI → Prop} (hg : zGA g) {l3 : Int32} (h : (if (99 < l3 : Prop) then K σ else vp_in l3 100 ∧ (if ((σ 27 l3.toNatClampNeg) = 0 : Prop) then vp_in l3 100 ∧ (if ((σ 26 l3.toNatClampNeg) = 0 : Prop) then vp_in l3 100 ∧ p_X3_hear_17 d g K (zsI σ 27 l3.toNatClampNeg 0) (l3 + 1) else vp_in l3 100 ∧ p_X3_hear_17 d g K (zsI σ 27 l3.toNatClampNeg 1) (l3 + 1)) else vp_in l3 100 ∧ p_X3_hear_17 d g K (zsI σ 27 l3.toNatClampNeg 1) (l3 + 1)))) : p_X3_hear_17 d g K σ l3 := by
  refine x_iload_n dX3_hear_17 rfl ?_
  refine x_bipush (v := 99) dX3_hear_18 rfl ?_
  refine x_icmp_gt (tgt := 58) dX3_hear_20 rfl (fun q1 => ?_) (fun q1 => ?_)
  · replace h := itT q1 h
    exact x_vret (S := []) dX3_hear_58 rfl ⟨rfl, rfl, h⟩
  · replace h := itF q1 h
    refine x_aload_n dX3_hear_23 rfl ?_
    refine x_getR dX3_hear_24 fl_X3_25 (gA_22 hg) rfl (gA_22_5 hg) ?_
    refine x_iload_n dX3_hear_27 rfl ?_
    refine x_aload_n dX3_hear_28 rfl ?_
    refine x_getR dX3_hear_29 fl_X3_25 (gA_22 hg) rfl (gA_22_5 hg) ?_
    refine x_iload_n dX3_hear_32 rfl ?_
    obtain ⟨q2, h⟩ := h
    refine x_zald dX3_hear_33 (gA_27 hg) q2 ?_
    refine x_if_ne (tgt := 46) dX3_hear_34 rfl (fun q3 => ?_) (fun q3 => ?_)
    · replace h := itF q3 h
      refine x_iconst (v := 1) dX3_hear_46 rfl ?_
      refine x_goto (tgt := 51) dX3_hear_47 rfl ?_
      obtain ⟨q4, h⟩ := h
      refine x_zast dX3_hear_51 (gA_27 hg) q4 (Or.inr rfl) ?_
      refine x_iinc dX3_hear_52 rfl (v := l3 + 1) rfl rfl (Nat.le_of_ble_eq_true rfl) (L2 := [_, _, _, _]) rfl ?_
      refine x_goto (tgt := 17) dX3_hear_55 rfl ?_
      exact h
    · replace h := itT q3 h
      refine x_aload_n dX3_hear_37 rfl ?_
      refine x_getR dX3_hear_38 fl_X3_21 (gA_22 hg) rfl (gA_22_4 hg) ?_
      refine x_iload_n dX3_hear_41 rfl ?_
      obtain ⟨q4, h⟩ := h
      refine x_zald dX3_hear_42 (gA_26 hg) q4 ?_
      refine x_if_eq (tgt := 50) dX3_hear_43 rfl (fun q5 => ?_) (fun q5 => ?_)
      · replace h := itT q5 h
        refine x_iconst (v := 0) dX3_hear_50 rfl ?_
        obtain ⟨q6, h⟩ := h
        refine x_zast dX3_hear_51 (gA_27 hg) q6 (Or.inl rfl) ?_
        refine x_iinc dX3_hear_52 rfl (v := l3 + 1) rfl rfl (Nat.le_of_ble_eq_true rfl) (L2 := [_, _, _, _]) rfl ?_
        refine x_goto (tgt := 17) dX3_hear_55 rfl ?_
        exact h
      · replace h := itF q5 h
        refine x_iconst (v := 1) dX3_hear_46 rfl ?_
        refine x_goto (tgt := 51) dX3_hear_47 rfl ?_
        obtain ⟨q6, h⟩ := h
        refine x_zast dX3_hear_51 (gA_27 hg) q6 (Or.inr rfl) ?_
        refine x_iinc dX3_hear_52 rfl (v := l3 + 1) rfl rfl (Nat.le_of_ble_eq_true rfl) (L2 := [_, _, _, _]) rfl ?_
        refine x_goto (tgt := 17) dX3_hear_55 rfl ?_
        exact h
abbrev p_X3_unheard_4 (d : Nat) (g : zG) (K : Int32 → zI → Prop) (σ : zI) (l1 : Int32) (l2 : Int32) : Prop := zX mX3_unheard (d + 1) 0 0 4 [.ref 22, .int l1, .int l2] [] g σ (zqI g K)
set_option maxRecDepth 20000 in
theorem s_X3_unheard {d : Nat} {g : zG} {σ : zI} {K : Int32 → zI → Prop} (hg : zGA g)  (h : p_X3_unheard_4 d g K σ 0 1) : zCI mX3_unheard (d + 1) [.ref 22] g σ K := by
  refine c_of_x pn_mX3_unheard rfl (Nat.le_of_ble_eq_true rfl) ?_
  change zX _ _ 0 0 0 [.ref 22] [] g σ _
  refine x_iconst (v := 0) dX3_unheard_0 rfl ?_
  refine x_istore_n dX3_unheard_1 rfl (Nat.le_of_ble_eq_true rfl) (L2 := [_, _]) rfl ?_
  refine x_iconst (v := 1) dX3_unheard_2 rfl ?_
  refine x_istore_n dX3_unheard_3 rfl (Nat.le_of_ble_eq_true rfl) (L2 := [_, _, _]) rfl ?_
  exact h
set_option maxRecDepth 20000 in
theorem s_X3_unheard_4 {d : Nat} {g : zG} {σ : zI} {K : Int32 → zI → Prop} (hg : zGA g) {l1 : Int32} {l2 : Int32} (h : (if (99 < l2 : Prop) then K l1 σ else vp_in l2 100 ∧ (if ((σ 27 l2.toNatClampNeg) = 0 : Prop) then zCI mX7_truth d [.int 1] g σ (fun v1 σ1 => p_X3_unheard_4 d g K σ1 (l1 + v1) (l2 + 1)) else zCI mX7_truth d [.int 0] g σ (fun v1 σ1 => p_X3_unheard_4 d g K σ1 (l1 + v1) (l2 + 1))))) : p_X3_unheard_4 d g K σ l1 l2 := by
  refine x_iload_n dX3_unheard_4 rfl ?_
  refine x_bipush (v := 99) dX3_unheard_5 rfl ?_
  refine x_icmp_gt (tgt := 36) dX3_unheard_7 rfl (fun q1 => ?_) (fun q1 => ?_)
  · replace h := itT q1 h
    refine x_iload_n dX3_unheard_36 rfl ?_
    exact x_iret (S := []) dX3_unheard_37 rfl rfl ⟨_, rfl, rfl, h⟩
  · replace h := itF q1 h
    refine x_iload_n dX3_unheard_10 rfl ?_
    refine x_aload_n dX3_unheard_11 rfl ?_
    refine x_getR dX3_unheard_12 fl_X3_25 (gA_22 hg) rfl (gA_22_5 hg) ?_
    refine x_iload_n dX3_unheard_15 rfl ?_
    obtain ⟨q2, h⟩ := h
    refine x_zald dX3_unheard_16 (gA_27 hg) q2 ?_
    refine x_if_ne (tgt := 24) dX3_unheard_17 rfl (fun q3 => ?_) (fun q3 => ?_)
    · replace h := itF q3 h
      refine x_iconst (v := 0) dX3_unheard_24 rfl ?_
      refine x_callS (Y2 := mX7_truth) (as := [.int 0]) (S := [.int l1]) (kc2 := 0) (ks2 := 0) st_mX7_truth dX3_unheard_25 lk_X3_64 mo_mX7_truth rfl rfl (Nat.le_of_ble_eq_true rfl) (Or.inl rfl) rfl rfl h ?_
      rintro _ _ σ1 ⟨v1, rfl, rfl, h⟩
      change zX _ _ 0 0 28 _ [.int v1, .int l1] _ _ _
      refine x_iadd dX3_unheard_28 ?_
      refine x_istore_n dX3_unheard_29 rfl (Nat.le_of_ble_eq_true rfl) (L2 := [_, _, _]) rfl ?_
      refine x_iinc dX3_unheard_30 rfl (v := l2 + 1) rfl rfl (Nat.le_of_ble_eq_true rfl) (L2 := [_, _, _]) rfl ?_
      refine x_goto (tgt := 4) dX3_unheard_33 rfl ?_
      exact h
    · replace h := itT q3 h
      refine x_iconst (v := 1) dX3_unheard_20 rfl ?_
      refine x_goto (tgt := 25) dX3_unheard_21 rfl ?_
      refine x_callS (Y2 := mX7_truth) (as := [.int 1]) (S := [.int l1]) (kc2 := 0) (ks2 := 0) st_mX7_truth dX3_unheard_25 lk_X3_64 mo_mX7_truth rfl rfl (Nat.le_of_ble_eq_true rfl) (Or.inl rfl) rfl rfl h ?_
      rintro _ _ σ1 ⟨v1, rfl, rfl, h⟩
      change zX _ _ 0 0 28 _ [.int v1, .int l1] _ _ _
      refine x_iadd dX3_unheard_28 ?_
      refine x_istore_n dX3_unheard_29 rfl (Nat.le_of_ble_eq_true rfl) (L2 := [_, _, _]) rfl ?_
      refine x_iinc dX3_unheard_30 rfl (v := l2 + 1) rfl rfl (Nat.le_of_ble_eq_true rfl) (L2 := [_, _, _]) rfl ?_
      refine x_goto (tgt := 4) dX3_unheard_33 rfl ?_
      exact h
abbrev p_X3_firstUnheard_2 (d : Nat) (g : zG) (K : Int32 → zI → Prop) (σ : zI) (l1 : Int32) : Prop := zX mX3_firstUnheard d 0 0 2 [.ref 22, .int l1] [] g σ (zqI g K)
set_option maxRecDepth 20000 in
theorem s_X3_firstUnheard {d : Nat} {g : zG} {σ : zI} {K : Int32 → zI → Prop} (hg : zGA g)  (h : p_X3_firstUnheard_2 d g K σ 1) : zCI mX3_firstUnheard d [.ref 22] g σ K := by
  refine c_of_x pn_mX3_firstUnheard rfl (Nat.le_of_ble_eq_true rfl) ?_
  change zX _ _ 0 0 0 [.ref 22] [] g σ _
  refine x_iconst (v := 1) dX3_firstUnheard_0 rfl ?_
  refine x_istore_n dX3_firstUnheard_1 rfl (Nat.le_of_ble_eq_true rfl) (L2 := [_, _]) rfl ?_
  exact h
set_option maxRecDepth 20000 in
theorem s_X3_firstUnheard_2 {d : Nat} {g : zG} {σ : zI} {K : Int32 → zI → Prop} (hg : zGA g) {l1 : Int32} (h : (if (99 < l1 : Prop) then K (-1) σ else vp_in l1 100 ∧ (if ((σ 27 l1.toNatClampNeg) = 0 : Prop) then K l1 σ else p_X3_firstUnheard_2 d g K σ (l1 + 1)))) : p_X3_firstUnheard_2 d g K σ l1 := by
  refine x_iload_n dX3_firstUnheard_2 rfl ?_
  refine x_bipush (v := 99) dX3_firstUnheard_3 rfl ?_
  refine x_icmp_gt (tgt := 25) dX3_firstUnheard_5 rfl (fun q1 => ?_) (fun q1 => ?_)
  · replace h := itT q1 h
    refine x_iconst (v := (-1)) dX3_firstUnheard_25 rfl ?_
    exact x_iret (S := []) dX3_firstUnheard_26 rfl rfl ⟨_, rfl, rfl, h⟩
  · replace h := itF q1 h
    refine x_aload_n dX3_firstUnheard_8 rfl ?_
    refine x_getR dX3_firstUnheard_9 fl_X3_25 (gA_22 hg) rfl (gA_22_5 hg) ?_
    refine x_iload_n dX3_firstUnheard_12 rfl ?_
    obtain ⟨q2, h⟩ := h
    refine x_zald dX3_firstUnheard_13 (gA_27 hg) q2 ?_
    refine x_if_ne (tgt := 19) dX3_firstUnheard_14 rfl (fun q3 => ?_) (fun q3 => ?_)
    · replace h := itF q3 h
      refine x_iinc dX3_firstUnheard_19 rfl (v := l1 + 1) rfl rfl (Nat.le_of_ble_eq_true rfl) (L2 := [_, _]) rfl ?_
      refine x_goto (tgt := 2) dX3_firstUnheard_22 rfl ?_
      exact h
    · replace h := itT q3 h
      refine x_iload_n dX3_firstUnheard_17 rfl ?_
      exact x_iret (S := []) dX3_firstUnheard_18 rfl rfl ⟨_, rfl, rfl, h⟩
abbrev p_X6_partedWithout_4 (d : Nat) (g : zG) (K : Int32 → zI → Prop) (σ : zI) (l1 : Int32) (l2 : Int32) (l3 : Int32) : Prop := zX mX6_partedWithout (d + 1) 0 0 4 [.ref 28, .int l1, .int l2, .int l3] [] g σ (zqI g K)
abbrev p_X6_partedWithout_39 (d : Nat) (g : zG) (K : Int32 → zI → Prop) (σ : zI) (l1 : Int32) (l2 : Int32) (l3 : Int32) (l4 : Int32) (l5 : Int32) : Prop := zX mX6_partedWithout (d + 1) 0 0 39 [.ref 28, .int l1, .int l2, .int l3, .int l4, .int l5] [] g σ (zqI g K)
set_option maxRecDepth 20000 in
theorem s_X6_partedWithout {d : Nat} {g : zG} {σ : zI} {K : Int32 → zI → Prop} (hg : zGA g) {l1 : Int32} (h : p_X6_partedWithout_4 d g K σ l1 0 0) : zCI mX6_partedWithout (d + 1) [.ref 28, .int l1] g σ K := by
  refine c_of_x pn_mX6_partedWithout rfl (Nat.le_of_ble_eq_true rfl) ?_
  change zX _ _ 0 0 0 [.ref 28, .int l1] [] g σ _
  refine x_iconst (v := 0) dX6_partedWithout_0 rfl ?_
  refine x_istore_n dX6_partedWithout_1 rfl (Nat.le_of_ble_eq_true rfl) (L2 := [_, _, _]) rfl ?_
  refine x_iconst (v := 0) dX6_partedWithout_2 rfl ?_
  refine x_istore_n dX6_partedWithout_3 rfl (Nat.le_of_ble_eq_true rfl) (L2 := [_, _, _, _]) rfl ?_
  exact h
set_option maxRecDepth 20000 in
theorem s_X6_partedWithout_4 {d : Nat} {g : zG} {σ : zI} {K : Int32 → zI → Prop} (hg : zGA g) {l1 : Int32} {l2 : Int32} {l3 : Int32} (h : (if ((σ 28 4) ≤ l3 : Prop) then K l2 σ else (if (l3 = l1 : Prop) then p_X6_partedWithout_4 d g K σ l1 l2 (l3 + 1) else zCI mX6_reached d [.ref 28, .int l3, .int (-1)] g σ (fun v1 σ1 => zCI mX6_reached d [.ref 28, .int l3, .int l1] g σ1 (fun v2 σ2 => p_X6_partedWithout_39 d g K σ2 l1 l2 l3 (v1 &&& (v2 ^^^ (-1))) (l3 + 1)))))) : p_X6_partedWithout_4 d g K σ l1 l2 l3 := by
  refine x_iload_n dX6_partedWithout_4 rfl ?_
  refine x_aload_n dX6_partedWithout_5 rfl ?_
  refine x_getI dX6_partedWithout_6 fl_X6_36 (gA_28 hg) rfl ?_
  refine x_icmp_ge (tgt := 80) dX6_partedWithout_9 rfl (fun q1 => ?_) (fun q1 => ?_)
  · replace h := itT q1 h
    refine x_iload_n dX6_partedWithout_80 rfl ?_
    exact x_iret (S := []) dX6_partedWithout_81 rfl rfl ⟨_, rfl, rfl, h⟩
  · replace h := itF q1 h
    refine x_iload_n dX6_partedWithout_12 rfl ?_
    refine x_iload_n dX6_partedWithout_13 rfl ?_
    refine x_icmp_eq (tgt := 74) dX6_partedWithout_14 rfl (fun q2 => ?_) (fun q2 => ?_)
    · replace h := itT q2 h
      refine x_iinc dX6_partedWithout_74 rfl (v := l3 + 1) rfl rfl (Nat.le_of_ble_eq_true rfl) (L2 := [_, _, _, _]) rfl ?_
      refine x_goto (tgt := 4) dX6_partedWithout_77 rfl ?_
      exact h
    · replace h := itF q2 h
      refine x_aload_n dX6_partedWithout_17 rfl ?_
      refine x_iload_n dX6_partedWithout_18 rfl ?_
      refine x_iconst (v := (-1)) dX6_partedWithout_19 rfl ?_
      refine x_callV (Y2 := mX6_reached) (as := [.int l3, .int (-1)]) (S := []) (kc2 := 0) (ks2 := 0) mv_mX6_reached (Or.inl ⟨6, _, rfl, rfl, (gA_28 hg)⟩) dX6_partedWithout_20 lk_X6_58 mo_mX6_reached rfl rfl (Nat.le_of_ble_eq_true rfl) (Or.inl rfl) rfl rfl h ?_
      rintro _ _ σ1 ⟨v1, rfl, rfl, h⟩
      change zX _ _ 0 0 23 _ [.int v1] _ _ _
      refine x_aload_n dX6_partedWithout_23 rfl ?_
      refine x_iload_n dX6_partedWithout_24 rfl ?_
      refine x_iload_n dX6_partedWithout_25 rfl ?_
      refine x_callV (Y2 := mX6_reached) (as := [.int l3, .int l1]) (S := [.int v1]) (kc2 := 0) (ks2 := 0) mv_mX6_reached (Or.inl ⟨6, _, rfl, rfl, (gA_28 hg)⟩) dX6_partedWithout_26 lk_X6_58 mo_mX6_reached rfl rfl (Nat.le_of_ble_eq_true rfl) (Or.inl rfl) rfl rfl h ?_
      rintro _ _ σ2 ⟨v2, rfl, rfl, h⟩
      change zX _ _ 0 0 29 _ [.int v2, .int v1] _ _ _
      refine x_iconst (v := (-1)) dX6_partedWithout_29 rfl ?_
      refine x_ixor dX6_partedWithout_30 ?_
      refine x_iand dX6_partedWithout_31 ?_
      refine x_istore dX6_partedWithout_32 rfl (Nat.le_of_ble_eq_true rfl) (L2 := [_, _, _, _, _]) rfl ?_
      refine x_iload_n dX6_partedWithout_34 rfl ?_
      refine x_iconst (v := 1) dX6_partedWithout_35 rfl ?_
      refine x_iadd dX6_partedWithout_36 ?_
      refine x_istore dX6_partedWithout_37 rfl (Nat.le_of_ble_eq_true rfl) (L2 := [_, _, _, _, _, _]) rfl ?_
      exact h
set_option maxRecDepth 20000 in
theorem s_X6_partedWithout_39 {d : Nat} {g : zG} {σ : zI} {K : Int32 → zI → Prop} (hg : zGA g) {l1 : Int32} {l2 : Int32} {l3 : Int32} {l4 : Int32} {l5 : Int32} (h : (if ((σ 28 4) ≤ l5 : Prop) then p_X6_partedWithout_4 d g K σ l1 l2 (l3 + 1) else (if (l5 = l1 : Prop) then p_X6_partedWithout_39 d g K σ l1 (l2 + 0) l3 l4 (l5 + 1) else p_X6_partedWithout_39 d g K σ l1 (l2 + ((l4 >>> (l5 &&& 31)) &&& 1)) l3 l4 (l5 + 1)))) : p_X6_partedWithout_39 d g K σ l1 l2 l3 l4 l5 := by
  refine x_iload dX6_partedWithout_39 rfl ?_
  refine x_aload_n dX6_partedWithout_41 rfl ?_
  refine x_getI dX6_partedWithout_42 fl_X6_36 (gA_28 hg) rfl ?_
  refine x_icmp_ge (tgt := 74) dX6_partedWithout_45 rfl (fun q1 => ?_) (fun q1 => ?_)
  · replace h := itT q1 h
    refine x_iinc dX6_partedWithout_74 rfl (v := l3 + 1) rfl rfl (Nat.le_of_ble_eq_true rfl) (L2 := [_, _, _, _, _, _]) rfl ?_
    refine x_goto (tgt := 4) dX6_partedWithout_77 rfl ?_
    exact x_wk (wC (wC (wC (wC (wN _))))) h
  · replace h := itF q1 h
    refine x_iload_n dX6_partedWithout_48 rfl ?_
    refine x_iload dX6_partedWithout_49 rfl ?_
    refine x_iload_n dX6_partedWithout_51 rfl ?_
    refine x_icmp_ne (tgt := 59) dX6_partedWithout_52 rfl (fun q2 => ?_) (fun q2 => ?_)
    · replace h := itF q2 h
      refine x_iload dX6_partedWithout_59 rfl ?_
      refine x_iload dX6_partedWithout_61 rfl ?_
      refine x_ishr dX6_partedWithout_63 ?_
      refine x_iconst (v := 1) dX6_partedWithout_64 rfl ?_
      refine x_iand dX6_partedWithout_65 ?_
      refine x_iadd dX6_partedWithout_66 ?_
      refine x_istore_n dX6_partedWithout_67 rfl (Nat.le_of_ble_eq_true rfl) (L2 := [_, _, _, _, _, _]) rfl ?_
      refine x_iinc dX6_partedWithout_68 rfl (v := l5 + 1) rfl rfl (Nat.le_of_ble_eq_true rfl) (L2 := [_, _, _, _, _, _]) rfl ?_
      refine x_goto (tgt := 39) dX6_partedWithout_71 rfl ?_
      exact h
    · replace h := itT q2 h
      refine x_iconst (v := 0) dX6_partedWithout_55 rfl ?_
      refine x_goto (tgt := 66) dX6_partedWithout_56 rfl ?_
      refine x_iadd dX6_partedWithout_66 ?_
      refine x_istore_n dX6_partedWithout_67 rfl (Nat.le_of_ble_eq_true rfl) (L2 := [_, _, _, _, _, _]) rfl ?_
      refine x_iinc dX6_partedWithout_68 rfl (v := l5 + 1) rfl rfl (Nat.le_of_ble_eq_true rfl) (L2 := [_, _, _, _, _, _]) rfl ?_
      refine x_goto (tgt := 39) dX6_partedWithout_71 rfl ?_
      exact h
abbrev p_X6_reached_7 (d : Nat) (g : zG) (K : Int32 → zI → Prop) (σ : zI) (l2 : Int32) (l3 : Int32) (l4 : Int32) : Prop := zX mX6_reached d 0 0 7 [.ref 28, .retAddr 0, .int l2, .int l3, .int l4] [] g σ (zqI g K)
abbrev p_X6_reached_19 (d : Nat) (g : zG) (K : Int32 → zI → Prop) (σ : zI) (l2 : Int32) (l3 : Int32) (l4 : Int32) (l5 : Int32) : Prop := zX mX6_reached d 0 0 19 [.ref 28, .retAddr 0, .int l2, .int l3, .int l4, .int l5] [] g σ (zqI g K)
abbrev p_X6_reached_31 (d : Nat) (g : zG) (K : Int32 → zI → Prop) (σ : zI) (l2 : Int32) (l3 : Int32) (l4 : Int32) (l5 : Int32) (l6 : Int32) : Prop := zX mX6_reached d 0 0 31 [.ref 28, .retAddr 0, .int l2, .int l3, .int l4, .int l5, .int l6] [] g σ (zqI g K)
set_option maxRecDepth 20000 in
theorem s_X6_reached {d : Nat} {g : zG} {σ : zI} {K : Int32 → zI → Prop} (hg : zGA g) {l1 : Int32} {l2 : Int32} (h : p_X6_reached_7 d g K σ l2 (1 <<< (l1 &&& 31)) 1) : zCI mX6_reached d [.ref 28, .int l1, .int l2] g σ K := by
  refine c_of_x pn_mX6_reached rfl (Nat.le_of_ble_eq_true rfl) ?_
  change zX _ _ 0 0 0 [.ref 28, .int l1, .int l2] [] g σ _
  refine x_iconst (v := 1) dX6_reached_0 rfl ?_
  refine x_iload_n dX6_reached_1 rfl ?_
  refine x_ishl dX6_reached_2 ?_
  refine x_istore_n dX6_reached_3 rfl (Nat.le_of_ble_eq_true rfl) (L2 := [_, _, _, _]) rfl ?_
  refine x_iconst (v := 1) dX6_reached_4 rfl ?_
  refine x_istore dX6_reached_5 rfl (Nat.le_of_ble_eq_true rfl) (L2 := [_, _, _, _, _]) rfl ?_
  exact x_wk (wC (wJ (wC (wC (wC (wN _)))))) h
set_option maxRecDepth 20000 in
theorem s_X6_reached_7 {d : Nat} {g : zG} {σ : zI} {K : Int32 → zI → Prop} (hg : zGA g) {l2 : Int32} {l3 : Int32} {l4 : Int32} (h : (if ((σ 28 4) ≤ l4 : Prop) then K l3 σ else p_X6_reached_19 d g K σ l2 l3 l4 0)) : p_X6_reached_7 d g K σ l2 l3 l4 := by
  refine x_iload dX6_reached_7 rfl ?_
  refine x_aload_n dX6_reached_9 rfl ?_
  refine x_getI dX6_reached_10 fl_X6_36 (gA_28 hg) rfl ?_
  refine x_icmp_ge (tgt := 94) dX6_reached_13 rfl (fun q1 => ?_) (fun q1 => ?_)
  · replace h := itT q1 h
    refine x_iload_n dX6_reached_94 rfl ?_
    exact x_iret (S := []) dX6_reached_95 rfl rfl ⟨_, rfl, rfl, h⟩
  · replace h := itF q1 h
    refine x_iconst (v := 0) dX6_reached_16 rfl ?_
    refine x_istore dX6_reached_17 rfl (Nat.le_of_ble_eq_true rfl) (L2 := [_, _, _, _, _, _]) rfl ?_
    exact h
set_option maxRecDepth 20000 in
theorem s_X6_reached_19 {d : Nat} {g : zG} {σ : zI} {K : Int32 → zI → Prop} (hg : zGA g) {l2 : Int32} {l3 : Int32} {l4 : Int32} {l5 : Int32} (h : (if ((σ 28 4) ≤ l5 : Prop) then p_X6_reached_7 d g K σ l2 l3 (l4 + 1) else p_X6_reached_31 d g K σ l2 l3 l4 l5 0)) : p_X6_reached_19 d g K σ l2 l3 l4 l5 := by
  refine x_iload dX6_reached_19 rfl ?_
  refine x_aload_n dX6_reached_21 rfl ?_
  refine x_getI dX6_reached_22 fl_X6_36 (gA_28 hg) rfl ?_
  refine x_icmp_ge (tgt := 88) dX6_reached_25 rfl (fun q1 => ?_) (fun q1 => ?_)
  · replace h := itT q1 h
    refine x_iinc dX6_reached_88 rfl (v := l4 + 1) rfl rfl (Nat.le_of_ble_eq_true rfl) (L2 := [_, _, _, _, _, _]) rfl ?_
    refine x_goto (tgt := 7) dX6_reached_91 rfl ?_
    exact x_wk (wC (wJ (wC (wC (wC (wN _)))))) h
  · replace h := itF q1 h
    refine x_iconst (v := 0) dX6_reached_28 rfl ?_
    refine x_istore dX6_reached_29 rfl (Nat.le_of_ble_eq_true rfl) (L2 := [_, _, _, _, _, _, _]) rfl ?_
    exact h
set_option maxRecDepth 20000 in
theorem s_X6_reached_31 {d : Nat} {g : zG} {σ : zI} {K : Int32 → zI → Prop} (hg : zGA g) {l2 : Int32} {l3 : Int32} {l4 : Int32} {l5 : Int32} {l6 : Int32} (h : (if ((σ 28 4) ≤ l6 : Prop) then p_X6_reached_19 d g K σ l2 l3 l4 (l5 + 1) else (if (((l3 >>> (l5 &&& 31)) &&& 1) = 0 : Prop) then p_X6_reached_31 d g K σ l2 l3 l4 l5 (l6 + 1) else (if (l6 = l2 : Prop) then p_X6_reached_31 d g K σ l2 l3 l4 l5 (l6 + 1) else vp_in l5 6 ∧ vp_in l6 6 ∧ (if ((σ (30 + l5.toNatClampNeg) l6.toNatClampNeg) = (-1) : Prop) then p_X6_reached_31 d g K σ l2 l3 l4 l5 (l6 + 1) else p_X6_reached_31 d g K σ l2 (l3 ||| (1 <<< (l6 &&& 31))) l4 l5 (l6 + 1)))))) : p_X6_reached_31 d g K σ l2 l3 l4 l5 l6 := by
  refine x_iload dX6_reached_31 rfl ?_
  refine x_aload_n dX6_reached_33 rfl ?_
  refine x_getI dX6_reached_34 fl_X6_36 (gA_28 hg) rfl ?_
  refine x_icmp_ge (tgt := 82) dX6_reached_37 rfl (fun q1 => ?_) (fun q1 => ?_)
  · replace h := itT q1 h
    refine x_iinc dX6_reached_82 rfl (v := l5 + 1) rfl rfl (Nat.le_of_ble_eq_true rfl) (L2 := [_, _, _, _, _, _, _]) rfl ?_
    refine x_goto (tgt := 19) dX6_reached_85 rfl ?_
    exact x_wk (wC (wJ (wC (wC (wC (wC (wN _))))))) h
  · replace h := itF q1 h
    refine x_iload_n dX6_reached_40 rfl ?_
    refine x_iload dX6_reached_41 rfl ?_
    refine x_ishr dX6_reached_43 ?_
    refine x_iconst (v := 1) dX6_reached_44 rfl ?_
    refine x_iand dX6_reached_45 ?_
    refine x_if_eq (tgt := 76) dX6_reached_46 rfl (fun q2 => ?_) (fun q2 => ?_)
    · replace h := itT q2 h
      refine x_iinc dX6_reached_76 rfl (v := l6 + 1) rfl rfl (Nat.le_of_ble_eq_true rfl) (L2 := [_, _, _, _, _, _, _]) rfl ?_
      refine x_goto (tgt := 31) dX6_reached_79 rfl ?_
      exact h
    · replace h := itF q2 h
      refine x_iload dX6_reached_49 rfl ?_
      refine x_iload_n dX6_reached_51 rfl ?_
      refine x_icmp_eq (tgt := 76) dX6_reached_52 rfl (fun q3 => ?_) (fun q3 => ?_)
      · replace h := itT q3 h
        refine x_iinc dX6_reached_76 rfl (v := l6 + 1) rfl rfl (Nat.le_of_ble_eq_true rfl) (L2 := [_, _, _, _, _, _, _]) rfl ?_
        refine x_goto (tgt := 31) dX6_reached_79 rfl ?_
        exact h
      · replace h := itF q3 h
        refine x_aload_n dX6_reached_55 rfl ?_
        refine x_getR dX6_reached_56 fl_X6_11 (gA_28 hg) rfl (gA_28_1 hg) ?_
        refine x_iload dX6_reached_59 rfl ?_
        obtain ⟨q4, h⟩ := h
        refine x_aald (t := 2) dX6_reached_61 (gA_29 hg) (by decide) q4 (gr_toll hg q4).1 ?_
        refine x_iload dX6_reached_62 rfl ?_
        obtain ⟨q5, h⟩ := h
        refine x_iald dX6_reached_64 (gr_toll hg q4).2 q5 ?_
        refine x_iconst (v := (-1)) dX6_reached_65 rfl ?_
        refine x_icmp_eq (tgt := 76) dX6_reached_66 rfl (fun q6 => ?_) (fun q6 => ?_)
        · replace h := itT q6 h
          refine x_iinc dX6_reached_76 rfl (v := l6 + 1) rfl rfl (Nat.le_of_ble_eq_true rfl) (L2 := [_, _, _, _, _, _, _]) rfl ?_
          refine x_goto (tgt := 31) dX6_reached_79 rfl ?_
          exact h
        · replace h := itF q6 h
          refine x_iload_n dX6_reached_69 rfl ?_
          refine x_iconst (v := 1) dX6_reached_70 rfl ?_
          refine x_iload dX6_reached_71 rfl ?_
          refine x_ishl dX6_reached_73 ?_
          refine x_ior dX6_reached_74 ?_
          refine x_istore_n dX6_reached_75 rfl (Nat.le_of_ble_eq_true rfl) (L2 := [_, _, _, _, _, _, _]) rfl ?_
          refine x_iinc dX6_reached_76 rfl (v := l6 + 1) rfl rfl (Nat.le_of_ble_eq_true rfl) (L2 := [_, _, _, _, _, _, _]) rfl ?_
          refine x_goto (tgt := 31) dX6_reached_79 rfl ?_
          exact h
set_option maxRecDepth 20000 in
theorem s_X0_become {d : Nat} {g : zG} {σ : zI} {K : zI → Prop} (hg : zGA g) {l0 : Nat} (h0 : zOb g l0 0) {l1 : Nat} (h1 : zOb g l1 0) (h : K (zsI (zsI (zsI (zsI σ l0 0 (σ l1 0)) l0 1 ((zsI σ l0 0 (σ l1 0)) l1 1)) l0 2 ((zsI (zsI σ l0 0 (σ l1 0)) l0 1 ((zsI σ l0 0 (σ l1 0)) l1 1)) l1 2)) l0 3 ((zsI (zsI (zsI σ l0 0 (σ l1 0)) l0 1 ((zsI σ l0 0 (σ l1 0)) l1 1)) l0 2 ((zsI (zsI σ l0 0 (σ l1 0)) l0 1 ((zsI σ l0 0 (σ l1 0)) l1 1)) l1 2)) l1 3))) : zCV mX0_become d [.ref l0, .ref l1] g σ K := by
  refine c_of_x pn_mX0_become rfl (Nat.le_of_ble_eq_true rfl) ?_
  change zX _ _ 0 0 0 [.ref l0, .ref l1] [] g σ _
  refine x_aload_n dX0_become_0 rfl ?_
  refine x_aload_n dX0_become_1 rfl ?_
  refine x_getI dX0_become_2 fl_X0_9 h1 rfl ?_
  refine x_putI dX0_become_5 fl_X0_9 h0 rfl rfl ?_
  refine x_aload_n dX0_become_8 rfl ?_
  refine x_aload_n dX0_become_9 rfl ?_
  refine x_getI dX0_become_10 fl_X0_15 h1 rfl ?_
  refine x_putI dX0_become_13 fl_X0_15 h0 rfl rfl ?_
  refine x_aload_n dX0_become_16 rfl ?_
  refine x_aload_n dX0_become_17 rfl ?_
  refine x_getI dX0_become_18 fl_X0_18 h1 rfl ?_
  refine x_putI dX0_become_21 fl_X0_18 h0 rfl rfl ?_
  refine x_aload_n dX0_become_24 rfl ?_
  refine x_aload_n dX0_become_25 rfl ?_
  refine x_getI dX0_become_26 fl_X0_21 h1 rfl ?_
  refine x_putI dX0_become_29 fl_X0_21 h0 rfl rfl ?_
  exact x_vret (S := []) dX0_become_32 rfl ⟨rfl, rfl, h⟩
abbrev p_X3_payable_11 (d : Nat) (g : zG) (K : Int32 → zI → Prop) (σ : zI) (l3 : Int32) (l4 : Int32) : Prop := zX mX3_payable (d + 1) 0 0 11 [.ref 22, .retAddr 0, .retAddr 0, .int l3, .int l4] [] g σ (zqI g K)
set_option maxRecDepth 20000 in
theorem s_X3_payable {d : Nat} {g : zG} {σ : zI} {K : Int32 → zI → Prop} (hg : zGA g) {l1 : Nat} (h1 : zOb g l1 0) {l2 : Nat} (h2 : zOb g l2 0) (h : zCV mX3_fillCan d [.ref 22, .ref l1, .ref l2] g σ (fun σ1 => p_X3_payable_11 d g K σ1 0 1)) : zCI mX3_payable (d + 1) [.ref 22, .ref l1, .ref l2] g σ K := by
  refine c_of_x pn_mX3_payable rfl (Nat.le_of_ble_eq_true rfl) ?_
  change zX _ _ 0 0 0 [.ref 22, .ref l1, .ref l2] [] g σ _
  refine x_aload_n dX3_payable_0 rfl ?_
  refine x_aload_n dX3_payable_1 rfl ?_
  refine x_aload_n dX3_payable_2 rfl ?_
  refine x_callV (Y2 := mX3_fillCan) (as := [.ref l1, .ref l2]) (S := []) (kc2 := 0) (ks2 := 0) mv_mX3_fillCan (Or.inl ⟨3, _, rfl, rfl, (gA_22 hg)⟩) dX3_payable_3 lk_X3_60 mo_mX3_fillCan rfl rfl (Nat.le_of_ble_eq_true rfl) (Or.inl rfl) rfl rfl h ?_
  rintro _ _ σ1 ⟨rfl, rfl, h⟩
  change zX _ _ 0 0 6 _ [] _ _ _
  refine x_iconst (v := 0) dX3_payable_6 rfl ?_
  refine x_istore_n dX3_payable_7 rfl (Nat.le_of_ble_eq_true rfl) (L2 := [_, _, _, _]) rfl ?_
  refine x_iconst (v := 1) dX3_payable_8 rfl ?_
  refine x_istore dX3_payable_9 rfl (Nat.le_of_ble_eq_true rfl) (L2 := [_, _, _, _, _]) rfl ?_
  exact x_wk (wC (wJ (wJ (wC (wC (wN _)))))) h
set_option maxRecDepth 20000 in
theorem s_X3_payable_11 {d : Nat} {g : zG} {σ : zI} {K : Int32 → zI → Prop} (hg : zGA g) {l3 : Int32} {l4 : Int32} (h : (if (99 < l4 : Prop) then K l3 σ else vp_in l4 100 ∧ zCI mX7_truth d [.int (σ 26 l4.toNatClampNeg)] g σ (fun v1 σ1 => p_X3_payable_11 d g K σ1 (l3 + v1) (l4 + 1)))) : p_X3_payable_11 d g K σ l3 l4 := by
  refine x_iload dX3_payable_11 rfl ?_
  refine x_bipush (v := 99) dX3_payable_13 rfl ?_
  refine x_icmp_gt (tgt := 37) dX3_payable_15 rfl (fun q1 => ?_) (fun q1 => ?_)
  · replace h := itT q1 h
    refine x_iload_n dX3_payable_37 rfl ?_
    exact x_iret (S := []) dX3_payable_38 rfl rfl ⟨_, rfl, rfl, h⟩
  · replace h := itF q1 h
    refine x_iload_n dX3_payable_18 rfl ?_
    refine x_aload_n dX3_payable_19 rfl ?_
    refine x_getR dX3_payable_20 fl_X3_21 (gA_22 hg) rfl (gA_22_4 hg) ?_
    refine x_iload dX3_payable_23 rfl ?_
    obtain ⟨q2, h⟩ := h
    refine x_zald dX3_payable_25 (gA_26 hg) q2 ?_
    refine x_callS (Y2 := mX7_truth) (as := [.int (σ 26 l4.toNatClampNeg)]) (S := [.int l3]) (kc2 := 0) (ks2 := 0) st_mX7_truth dX3_payable_26 lk_X3_64 mo_mX7_truth rfl rfl (Nat.le_of_ble_eq_true rfl) (Or.inl rfl) rfl rfl h ?_
    rintro _ _ σ1 ⟨v1, rfl, rfl, h⟩
    change zX _ _ 0 0 29 _ [.int v1, .int l3] _ _ _
    refine x_iadd dX3_payable_29 ?_
    refine x_istore_n dX3_payable_30 rfl (Nat.le_of_ble_eq_true rfl) (L2 := [_, _, _, _, _]) rfl ?_
    refine x_iinc dX3_payable_31 rfl (v := l4 + 1) rfl rfl (Nat.le_of_ble_eq_true rfl) (L2 := [_, _, _, _, _]) rfl ?_
    refine x_goto (tgt := 11) dX3_payable_34 rfl ?_
    exact h
abbrev p_X5_tellsSums_13 (d : Nat) (g : zG) (K : Int32 → zI → Prop) (σ : zI) (l0 : Nat) (l1 : Int32) : Prop := zX mX5_tellsSums (d + 1) 0 0 13 [.ref l0, .int l1] [] g σ (zqI g K)
set_option maxRecDepth 20000 in
theorem s_X5_tellsSums {d : Nat} {g : zG} {σ : zI} {K : Int32 → zI → Prop} (hg : zGA g) {l0 : Nat} (h0 : zSt g l0) (h : (if (((σ l0 1) - (σ l0 1) / 2 * 2) = 0 : Prop) then p_X5_tellsSums_13 d g K σ l0 0 else K 0 σ)) : zCI mX5_tellsSums (d + 1) [.ref l0] g σ K := by
  refine c_of_x pn_mX5_tellsSums rfl (Nat.le_of_ble_eq_true rfl) ?_
  change zX _ _ 0 0 0 [.ref l0] [] g σ _
  refine x_aload_n dX5_tellsSums_0 rfl ?_
  refine x_getI dX5_tellsSums_1 fl_X5_19 h0.1 rfl ?_
  refine x_iconst (v := 2) dX5_tellsSums_4 rfl ?_
  refine x_irem dX5_tellsSums_5 (by decide) ?_
  refine x_if_eq (tgt := 11) dX5_tellsSums_6 rfl (fun q1 => ?_) (fun q1 => ?_)
  · replace h := itT q1 h
    refine x_iconst (v := 0) dX5_tellsSums_11 rfl ?_
    refine x_istore_n dX5_tellsSums_12 rfl (Nat.le_of_ble_eq_true rfl) (L2 := [_, _]) rfl ?_
    exact h
  · replace h := itF q1 h
    refine x_iconst (v := 0) dX5_tellsSums_9 rfl ?_
    exact x_iret (S := []) dX5_tellsSums_10 rfl rfl ⟨_, rfl, rfl, h⟩
set_option maxRecDepth 20000 in
theorem s_X5_tellsSums_13 {d : Nat} {g : zG} {σ : zI} {K : Int32 → zI → Prop} (hg : zGA g) {l0 : Nat} (h_l0 : zSt g l0) {l1 : Int32} (h : (if ((σ l0 1) ≤ l1 : Prop) then K 1 σ else zCI mX5_at d [.ref l0, .int l1] g σ (fun v1 σ1 => zCI mX7_isSum d [.int v1] g σ1 (fun v2 σ2 => (if (v2 = 0 : Prop) then K 0 σ2 else p_X5_tellsSums_13 d g K σ2 l0 (l1 + 2)))))) : p_X5_tellsSums_13 d g K σ l0 l1 := by
  refine x_iload_n dX5_tellsSums_13 rfl ?_
  refine x_aload_n dX5_tellsSums_14 rfl ?_
  refine x_getI dX5_tellsSums_15 fl_X5_19 h_l0.1 rfl ?_
  refine x_icmp_ge (tgt := 40) dX5_tellsSums_18 rfl (fun q1 => ?_) (fun q1 => ?_)
  · replace h := itT q1 h
    refine x_iconst (v := 1) dX5_tellsSums_40 rfl ?_
    exact x_iret (S := []) dX5_tellsSums_41 rfl rfl ⟨_, rfl, rfl, h⟩
  · replace h := itF q1 h
    refine x_aload_n dX5_tellsSums_21 rfl ?_
    refine x_iload_n dX5_tellsSums_22 rfl ?_
    refine x_callV (Y2 := mX5_at) (as := [.int l1]) (S := []) (kc2 := 0) (ks2 := 0) mv_mX5_at (Or.inl ⟨5, _, rfl, rfl, h_l0.1⟩) dX5_tellsSums_23 lk_X5_26 mo_mX5_at rfl rfl (Nat.le_of_ble_eq_true rfl) (Or.inl rfl) rfl rfl h ?_
    rintro _ _ σ1 ⟨v1, rfl, rfl, h⟩
    change zX _ _ 0 0 26 _ [.int v1] _ _ _
    refine x_callS (Y2 := mX7_isSum) (as := [.int v1]) (S := []) (kc2 := 0) (ks2 := 0) st_mX7_isSum dX5_tellsSums_26 lk_X5_30 mo_mX7_isSum rfl rfl (Nat.le_of_ble_eq_true rfl) (Or.inl rfl) rfl rfl h ?_
    rintro _ _ σ2 ⟨v2, rfl, rfl, h⟩
    change zX _ _ 0 0 29 _ [.int v2] _ _ _
    refine x_if_ne (tgt := 34) dX5_tellsSums_29 rfl (fun q2 => ?_) (fun q2 => ?_)
    · replace h := itF q2 h
      refine x_iinc dX5_tellsSums_34 rfl (v := l1 + 2) rfl rfl (Nat.le_of_ble_eq_true rfl) (L2 := [_, _]) rfl ?_
      refine x_goto (tgt := 13) dX5_tellsSums_37 rfl ?_
      exact h
    · replace h := itT q2 h
      refine x_iconst (v := 0) dX5_tellsSums_32 rfl ?_
      exact x_iret (S := []) dX5_tellsSums_33 rfl rfl ⟨_, rfl, rfl, h⟩
set_option maxRecDepth 20000 in
theorem s_X5_at {d : Nat} {g : zG} {σ : zI} {K : Int32 → zI → Prop} (hg : zGA g) {l0 : Nat} (h0 : zSt g l0) {l1 : Int32} (h : zCI mX5_holds d [.ref l0, .int l1] g σ (fun v1 σ1 => (if (v1 = 0 : Prop) then K 0 σ1 else vp_in l1 40 ∧ K (σ1 (l0 + 1) l1.toNatClampNeg) σ1))) : zCI mX5_at (d + 1) [.ref l0, .int l1] g σ K := by
  refine c_of_x pn_mX5_at rfl (Nat.le_of_ble_eq_true rfl) ?_
  change zX _ _ 0 0 0 [.ref l0, .int l1] [] g σ _
  refine x_aload_n dX5_at_0 rfl ?_
  refine x_iload_n dX5_at_1 rfl ?_
  refine x_callV (Y2 := mX5_holds) (as := [.int l1]) (S := []) (kc2 := 0) (ks2 := 0) mv_mX5_holds (Or.inl ⟨5, _, rfl, rfl, h0.1⟩) dX5_at_2 lk_X5_22 mo_mX5_holds rfl rfl (Nat.le_of_ble_eq_true rfl) (Or.inl rfl) rfl rfl h ?_
  rintro _ _ σ1 ⟨v1, rfl, rfl, h⟩
  change zX _ _ 0 0 5 _ [.int v1] _ _ _
  refine x_if_eq (tgt := 17) dX5_at_5 rfl (fun q1 => ?_) (fun q1 => ?_)
  · replace h := itT q1 h
    refine x_iconst (v := 0) dX5_at_17 rfl ?_
    exact x_iret (S := []) dX5_at_18 rfl rfl ⟨_, rfl, rfl, h⟩
  · replace h := itF q1 h
    refine x_aload_n dX5_at_8 rfl ?_
    refine x_getR dX5_at_9 fl_X5_15 h0.1 rfl h0.2.1 ?_
    refine x_iload_n dX5_at_12 rfl ?_
    obtain ⟨q2, h⟩ := h
    refine x_iald dX5_at_13 h0.2.2 q2 ?_
    refine x_goto (tgt := 18) dX5_at_14 rfl ?_
    exact x_iret (S := []) dX5_at_18 rfl rfl ⟨_, rfl, rfl, h⟩
set_option maxRecDepth 20000 in
theorem s_X5_holds {d : Nat} {g : zG} {σ : zI} {K : Int32 → zI → Prop} (hg : zGA g) {l0 : Nat} (h0 : zSt g l0) {l1 : Int32} (h : (if (l1 < 0 : Prop) then K 0 σ else (if ((σ l0 1) ≤ l1 : Prop) then K 0 σ else (if ((nI 40) ≤ l1 : Prop) then K 0 σ else K 1 σ)))) : zCI mX5_holds d [.ref l0, .int l1] g σ K := by
  refine c_of_x pn_mX5_holds rfl (Nat.le_of_ble_eq_true rfl) ?_
  change zX _ _ 0 0 0 [.ref l0, .int l1] [] g σ _
  refine x_iload_n dX5_holds_0 rfl ?_
  refine x_if_lt (tgt := 25) dX5_holds_1 rfl (fun q1 => ?_) (fun q1 => ?_)
  · replace h := itT q1 h
    refine x_iconst (v := 0) dX5_holds_25 rfl ?_
    exact x_iret (S := []) dX5_holds_26 rfl rfl ⟨_, rfl, rfl, h⟩
  · replace h := itF q1 h
    refine x_iload_n dX5_holds_4 rfl ?_
    refine x_aload_n dX5_holds_5 rfl ?_
    refine x_getI dX5_holds_6 fl_X5_19 h0.1 rfl ?_
    refine x_icmp_ge (tgt := 25) dX5_holds_9 rfl (fun q2 => ?_) (fun q2 => ?_)
    · replace h := itT q2 h
      refine x_iconst (v := 0) dX5_holds_25 rfl ?_
      exact x_iret (S := []) dX5_holds_26 rfl rfl ⟨_, rfl, rfl, h⟩
    · replace h := itF q2 h
      refine x_iload_n dX5_holds_12 rfl ?_
      refine x_aload_n dX5_holds_13 rfl ?_
      refine x_getR dX5_holds_14 fl_X5_15 h0.1 rfl h0.2.1 ?_
      refine x_alen1 dX5_holds_17 h0.2.2 ?_
      refine x_icmp_ge (tgt := 25) dX5_holds_18 rfl (fun q3 => ?_) (fun q3 => ?_)
      · replace h := itT q3 h
        refine x_iconst (v := 0) dX5_holds_25 rfl ?_
        exact x_iret (S := []) dX5_holds_26 rfl rfl ⟨_, rfl, rfl, h⟩
      · replace h := itF q3 h
        refine x_iconst (v := 1) dX5_holds_21 rfl ?_
        refine x_goto (tgt := 26) dX5_holds_22 rfl ?_
        exact x_iret (S := []) dX5_holds_26 rfl rfl ⟨_, rfl, rfl, h⟩
abbrev p_X3_firstOtherwise_12 (d : Nat) (g : zG) (K : Int32 → zI → Prop) (σ : zI) (l1 : Nat) (l4 : Int32) : Prop := zX mX3_firstOtherwise (d + 1) 0 0 12 [.ref 22, .ref l1, .retAddr 0, .retAddr 0, .int l4] [] g σ (zqI g K)
set_option maxRecDepth 20000 in
theorem s_X3_firstOtherwise {d : Nat} {g : zG} {σ : zI} {K : Int32 → zI → Prop} (hg : zGA g) {l1 : Nat} (h1 : zSt g l1) {l2 : Nat} (h2 : zOb g l2 0) {l3 : Nat} (h3 : zOb g l3 0) (h : zCV mX3_fillLeast d [.ref 22, .ref l2, .ref l3, .int 99, .int 0] g σ (fun σ1 => p_X3_firstOtherwise_12 d g K σ1 l1 0)) : zCI mX3_firstOtherwise (d + 1) [.ref 22, .ref l1, .ref l2, .ref l3] g σ K := by
  refine c_of_x pn_mX3_firstOtherwise rfl (Nat.le_of_ble_eq_true rfl) ?_
  change zX _ _ 0 0 0 [.ref 22, .ref l1, .ref l2, .ref l3] [] g σ _
  refine x_aload_n dX3_firstOtherwise_0 rfl ?_
  refine x_aload_n dX3_firstOtherwise_1 rfl ?_
  refine x_aload_n dX3_firstOtherwise_2 rfl ?_
  refine x_bipush (v := 99) dX3_firstOtherwise_3 rfl ?_
  refine x_iconst (v := 0) dX3_firstOtherwise_5 rfl ?_
  refine x_callV (Y2 := mX3_fillLeast) (as := [.ref l2, .ref l3, .int 99, .int 0]) (S := []) (kc2 := 0) (ks2 := 0) mv_mX3_fillLeast (Or.inl ⟨3, _, rfl, rfl, (gA_22 hg)⟩) dX3_firstOtherwise_6 lk_X3_75 mo_mX3_fillLeast rfl rfl (Nat.le_of_ble_eq_true rfl) (Or.inl rfl) rfl rfl h ?_
  rintro _ _ σ1 ⟨rfl, rfl, h⟩
  change zX _ _ 0 0 9 _ [] _ _ _
  refine x_iconst (v := 0) dX3_firstOtherwise_9 rfl ?_
  refine x_istore dX3_firstOtherwise_10 rfl (Nat.le_of_ble_eq_true rfl) (L2 := [_, _, _, _, _]) rfl ?_
  exact x_wk (wC (wC (wJ (wJ (wC (wN _)))))) h
set_option maxRecDepth 20000 in
theorem s_X3_firstOtherwise_12 {d : Nat} {g : zG} {σ : zI} {K : Int32 → zI → Prop} (hg : zGA g) {l1 : Nat} (h_l1 : zSt g l1) {l4 : Int32} (h : (if ((σ l1 1) ≤ (l4 + 1) : Prop) then K (-1) σ else zCI mX5_at d [.ref l1, .int l4] g σ (fun v1 σ1 => zCI mX3_leastOf d [.ref 22, .int v1] g σ1 (fun v2 σ2 => zCI mX5_at d [.ref l1, .int (l4 + 1)] g σ2 (fun v3 σ3 => (if (v2 = v3 : Prop) then p_X3_firstOtherwise_12 d g K σ3 l1 (l4 + 2) else K (l4 / 2) σ3)))))) : p_X3_firstOtherwise_12 d g K σ l1 l4 := by
  refine x_iload dX3_firstOtherwise_12 rfl ?_
  refine x_iconst (v := 1) dX3_firstOtherwise_14 rfl ?_
  refine x_iadd dX3_firstOtherwise_15 ?_
  refine x_aload_n dX3_firstOtherwise_16 rfl ?_
  refine x_getI dX3_firstOtherwise_17 fl_X3_79 h_l1.1 rfl ?_
  refine x_icmp_ge (tgt := 55) dX3_firstOtherwise_20 rfl (fun q1 => ?_) (fun q1 => ?_)
  · replace h := itT q1 h
    refine x_iconst (v := (-1)) dX3_firstOtherwise_55 rfl ?_
    exact x_iret (S := []) dX3_firstOtherwise_56 rfl rfl ⟨_, rfl, rfl, h⟩
  · replace h := itF q1 h
    refine x_aload_n dX3_firstOtherwise_23 rfl ?_
    refine x_aload_n dX3_firstOtherwise_24 rfl ?_
    refine x_iload dX3_firstOtherwise_25 rfl ?_
    refine x_callV (Y2 := mX5_at) (as := [.int l4]) (S := [.ref 22]) (kc2 := 0) (ks2 := 0) mv_mX5_at (Or.inl ⟨5, _, rfl, rfl, h_l1.1⟩) dX3_firstOtherwise_27 lk_X3_85 mo_mX5_at rfl rfl (Nat.le_of_ble_eq_true rfl) (Or.inl rfl) rfl rfl h ?_
    rintro _ _ σ1 ⟨v1, rfl, rfl, h⟩
    change zX _ _ 0 0 30 _ [.int v1, .ref 22] _ _ _
    refine x_callV (Y2 := mX3_leastOf) (as := [.int v1]) (S := []) (kc2 := 0) (ks2 := 0) mv_mX3_leastOf (Or.inl ⟨3, _, rfl, rfl, (gA_22 hg)⟩) dX3_firstOtherwise_30 lk_X3_88 mo_mX3_leastOf rfl rfl (Nat.le_of_ble_eq_true rfl) (Or.inl rfl) rfl rfl h ?_
    rintro _ _ σ2 ⟨v2, rfl, rfl, h⟩
    change zX _ _ 0 0 33 _ [.int v2] _ _ _
    refine x_aload_n dX3_firstOtherwise_33 rfl ?_
    refine x_iload dX3_firstOtherwise_34 rfl ?_
    refine x_iconst (v := 1) dX3_firstOtherwise_36 rfl ?_
    refine x_iadd dX3_firstOtherwise_37 ?_
    refine x_callV (Y2 := mX5_at) (as := [.int (l4 + 1)]) (S := [.int v2]) (kc2 := 0) (ks2 := 0) mv_mX5_at (Or.inl ⟨5, _, rfl, rfl, h_l1.1⟩) dX3_firstOtherwise_38 lk_X3_85 mo_mX5_at rfl rfl (Nat.le_of_ble_eq_true rfl) (Or.inl rfl) rfl rfl h ?_
    rintro _ _ σ3 ⟨v3, rfl, rfl, h⟩
    change zX _ _ 0 0 41 _ [.int v3, .int v2] _ _ _
    refine x_icmp_eq (tgt := 49) dX3_firstOtherwise_41 rfl (fun q2 => ?_) (fun q2 => ?_)
    · replace h := itT q2 h
      refine x_iinc dX3_firstOtherwise_49 rfl (v := l4 + 2) rfl rfl (Nat.le_of_ble_eq_true rfl) (L2 := [_, _, _, _, _]) rfl ?_
      refine x_goto (tgt := 12) dX3_firstOtherwise_52 rfl ?_
      exact h
    · replace h := itF q2 h
      refine x_iload dX3_firstOtherwise_44 rfl ?_
      refine x_iconst (v := 2) dX3_firstOtherwise_46 rfl ?_
      refine x_idiv dX3_firstOtherwise_47 (by decide) ?_
      exact x_iret (S := []) dX3_firstOtherwise_48 rfl rfl ⟨_, rfl, rfl, h⟩
abbrev p_X5_lay_12 (d : Nat) (g : zG) (K : zI → Prop) (σ : zI) (l0 : Nat) (l3 : Int32) : Prop := zX mX5_lay d 0 0 12 [.ref l0, .retAddr 0, .retAddr 0, .int l3] [] g σ (zqV g K)
set_option maxRecDepth 20000 in
theorem s_X5_lay {d : Nat} {g : zG} {σ : zI} {K : zI → Prop} (hg : zGA g) {l0 : Nat} (h0 : zSt g l0) {l1 : Int32} {l2 : Int32} (h : p_X5_lay_12 d g K (zsI (zsI σ l0 0 l1) l0 1 l2) l0 0) : zCV mX5_lay d [.ref l0, .int l1, .int l2] g σ K := by
  refine c_of_x pn_mX5_lay rfl (Nat.le_of_ble_eq_true rfl) ?_
  change zX _ _ 0 0 0 [.ref l0, .int l1, .int l2] [] g σ _
  refine x_aload_n dX5_lay_0 rfl ?_
  refine x_iload_n dX5_lay_1 rfl ?_
  refine x_putI dX5_lay_2 fl_X5_9 h0.1 rfl rfl ?_
  refine x_aload_n dX5_lay_5 rfl ?_
  refine x_iload_n dX5_lay_6 rfl ?_
  refine x_putI dX5_lay_7 fl_X5_19 h0.1 rfl rfl ?_
  refine x_iconst (v := 0) dX5_lay_10 rfl ?_
  refine x_istore_n dX5_lay_11 rfl (Nat.le_of_ble_eq_true rfl) (L2 := [_, _, _, _]) rfl ?_
  exact x_wk (wC (wJ (wJ (wC (wN _))))) h
set_option maxRecDepth 20000 in
theorem s_X5_lay_12 {d : Nat} {g : zG} {σ : zI} {K : zI → Prop} (hg : zGA g) {l0 : Nat} (h_l0 : zSt g l0) {l3 : Int32} (h : (if ((nI 40) ≤ l3 : Prop) then K σ else vp_in l3 40 ∧ p_X5_lay_12 d g K (zsI σ (l0 + 1) l3.toNatClampNeg 0) l0 (l3 + 1))) : p_X5_lay_12 d g K σ l0 l3 := by
  refine x_iload_n dX5_lay_12 rfl ?_
  refine x_aload_n dX5_lay_13 rfl ?_
  refine x_getR dX5_lay_14 fl_X5_15 h_l0.1 rfl h_l0.2.1 ?_
  refine x_alen1 dX5_lay_17 h_l0.2.2 ?_
  refine x_icmp_ge (tgt := 34) dX5_lay_18 rfl (fun q1 => ?_) (fun q1 => ?_)
  · replace h := itT q1 h
    exact x_vret (S := []) dX5_lay_34 rfl ⟨rfl, rfl, h⟩
  · replace h := itF q1 h
    refine x_aload_n dX5_lay_21 rfl ?_
    refine x_getR dX5_lay_22 fl_X5_15 h_l0.1 rfl h_l0.2.1 ?_
    refine x_iload_n dX5_lay_25 rfl ?_
    refine x_iconst (v := 0) dX5_lay_26 rfl ?_
    obtain ⟨q2, h⟩ := h
    refine x_iast dX5_lay_27 h_l0.2.2 q2 ?_
    refine x_iinc dX5_lay_28 rfl (v := l3 + 1) rfl rfl (Nat.le_of_ble_eq_true rfl) (L2 := [_, _, _, _]) rfl ?_
    refine x_goto (tgt := 12) dX5_lay_31 rfl ?_
    exact h
set_option maxRecDepth 20000 in
theorem s_X5_put {d : Nat} {g : zG} {σ : zI} {K : zI → Prop} (hg : zGA g) {l0 : Nat} (h0 : zSt g l0) {l1 : Int32} {l2 : Int32} (h : zCI mX5_holds d [.ref l0, .int l1] g σ (fun v1 σ1 => (if (v1 = 0 : Prop) then K σ1 else (if ((σ1 l0 0) = 0 : Prop) then vp_in l1 40 ∧ K (zsI σ1 (l0 + 1) l1.toNatClampNeg ((l2 : Int32).toInt8.toInt32)) else (if ((σ1 l0 0) = 1 : Prop) then vp_in l1 40 ∧ K (zsI σ1 (l0 + 1) l1.toNatClampNeg ((l2 : Int32).toInt16.toInt32)) else vp_in l1 40 ∧ K (zsI σ1 (l0 + 1) l1.toNatClampNeg l2)))))) : zCV mX5_put (d + 1) [.ref l0, .int l1, .int l2] g σ K := by
  refine c_of_x pn_mX5_put rfl (Nat.le_of_ble_eq_true rfl) ?_
  change zX _ _ 0 0 0 [.ref l0, .int l1, .int l2] [] g σ _
  refine x_aload_n dX5_put_0 rfl ?_
  refine x_iload_n dX5_put_1 rfl ?_
  refine x_callV (Y2 := mX5_holds) (as := [.int l1]) (S := []) (kc2 := 0) (ks2 := 0) mv_mX5_holds (Or.inl ⟨5, _, rfl, rfl, h0.1⟩) dX5_put_2 lk_X5_22 mo_mX5_holds rfl rfl (Nat.le_of_ble_eq_true rfl) (Or.inl rfl) rfl rfl h ?_
  rintro _ _ σ1 ⟨v1, rfl, rfl, h⟩
  change zX _ _ 0 0 5 _ [.int v1] _ _ _
  refine x_if_eq (tgt := 40) dX5_put_5 rfl (fun q1 => ?_) (fun q1 => ?_)
  · replace h := itT q1 h
    exact x_vret (S := []) dX5_put_40 rfl ⟨rfl, rfl, h⟩
  · replace h := itF q1 h
    refine x_aload_n dX5_put_8 rfl ?_
    refine x_getR dX5_put_9 fl_X5_15 h0.1 rfl h0.2.1 ?_
    refine x_iload_n dX5_put_12 rfl ?_
    refine x_aload_n dX5_put_13 rfl ?_
    refine x_getI dX5_put_14 fl_X5_9 h0.1 rfl ?_
    refine x_if_ne (tgt := 25) dX5_put_17 rfl (fun q2 => ?_) (fun q2 => ?_)
    · replace h := itF q2 h
      refine x_aload_n dX5_put_25 rfl ?_
      refine x_getI dX5_put_26 fl_X5_9 h0.1 rfl ?_
      refine x_iconst (v := 1) dX5_put_29 rfl ?_
      refine x_icmp_ne (tgt := 38) dX5_put_30 rfl (fun q3 => ?_) (fun q3 => ?_)
      · replace h := itF q3 h
        refine x_iload_n dX5_put_38 rfl ?_
        obtain ⟨q4, h⟩ := h
        refine x_iast dX5_put_39 h0.2.2 q4 ?_
        exact x_vret (S := []) dX5_put_40 rfl ⟨rfl, rfl, h⟩
      · replace h := itT q3 h
        refine x_iload_n dX5_put_33 rfl ?_
        refine x_i2s dX5_put_34 ?_
        refine x_goto (tgt := 39) dX5_put_35 rfl ?_
        obtain ⟨q4, h⟩ := h
        refine x_iast dX5_put_39 h0.2.2 q4 ?_
        exact x_vret (S := []) dX5_put_40 rfl ⟨rfl, rfl, h⟩
    · replace h := itT q2 h
      refine x_iload_n dX5_put_20 rfl ?_
      refine x_i2b dX5_put_21 ?_
      refine x_goto (tgt := 39) dX5_put_22 rfl ?_
      obtain ⟨q3, h⟩ := h
      refine x_iast dX5_put_39 h0.2.2 q3 ?_
      exact x_vret (S := []) dX5_put_40 rfl ⟨rfl, rfl, h⟩
set_option maxRecDepth 20000 in
theorem s_X0_drawOwn {d : Nat} {g : zG} {σ : zI} {K : Int32 → zI → Prop} (hg : zGA g) {l0 : Nat} (h0 : zOb g l0 0) {l1 : Int32} (h : K ((((l1 * 1103515245) + 12345) * 1103515245) + 12345) (zsI σ l0 3 (((((((((l1 * 1103515245) + 12345) * 1103515245) + 12345 : Int32).toUInt32 >>> ((9 : Int32).toUInt32 &&& Int32.toUInt32 31)).toInt32) - ((((((l1 * 1103515245) + 12345) * 1103515245) + 12345 : Int32).toUInt32 >>> ((9 : Int32).toUInt32 &&& Int32.toUInt32 31)).toInt32) / 1024 * 1024) * 1024) + (((((l1 * 1103515245) + 12345 : Int32).toUInt32 >>> ((9 : Int32).toUInt32 &&& Int32.toUInt32 31)).toInt32) - ((((l1 * 1103515245) + 12345 : Int32).toUInt32 >>> ((9 : Int32).toUInt32 &&& Int32.toUInt32 31)).toInt32) / 1024 * 1024)))) : zCI mX0_drawOwn d [.ref l0, .int l1] g σ K := by
  refine c_of_x pn_mX0_drawOwn rfl (Nat.le_of_ble_eq_true rfl) ?_
  change zX _ _ 0 0 0 [.ref l0, .int l1] [] g σ _
  refine x_iload_n dX0_drawOwn_0 rfl ?_
  refine x_ldc dX0_drawOwn_1 kc_X0_50 ?_
  refine x_imul dX0_drawOwn_3 ?_
  refine x_sipush (v := 12345) dX0_drawOwn_4 rfl ?_
  refine x_iadd dX0_drawOwn_7 ?_
  refine x_istore_n dX0_drawOwn_8 rfl (Nat.le_of_ble_eq_true rfl) (L2 := [_, _, _]) rfl ?_
  refine x_iload_n dX0_drawOwn_9 rfl ?_
  refine x_ldc dX0_drawOwn_10 kc_X0_50 ?_
  refine x_imul dX0_drawOwn_12 ?_
  refine x_sipush (v := 12345) dX0_drawOwn_13 rfl ?_
  refine x_iadd dX0_drawOwn_16 ?_
  refine x_istore_n dX0_drawOwn_17 rfl (Nat.le_of_ble_eq_true rfl) (L2 := [_, _, _, _]) rfl ?_
  refine x_aload_n dX0_drawOwn_18 rfl ?_
  refine x_iload_n dX0_drawOwn_19 rfl ?_
  refine x_bipush (v := 9) dX0_drawOwn_20 rfl ?_
  refine x_iushr dX0_drawOwn_22 ?_
  refine x_sipush (v := 1024) dX0_drawOwn_23 rfl ?_
  refine x_irem dX0_drawOwn_26 (by decide) ?_
  refine x_sipush (v := 1024) dX0_drawOwn_27 rfl ?_
  refine x_imul dX0_drawOwn_30 ?_
  refine x_iload_n dX0_drawOwn_31 rfl ?_
  refine x_bipush (v := 9) dX0_drawOwn_32 rfl ?_
  refine x_iushr dX0_drawOwn_34 ?_
  refine x_sipush (v := 1024) dX0_drawOwn_35 rfl ?_
  refine x_irem dX0_drawOwn_38 (by decide) ?_
  refine x_iadd dX0_drawOwn_39 ?_
  refine x_putI dX0_drawOwn_40 fl_X0_21 h0 rfl rfl ?_
  refine x_iload_n dX0_drawOwn_43 rfl ?_
  exact x_iret (S := []) dX0_drawOwn_44 rfl rfl ⟨_, rfl, rfl, h⟩
set_option maxRecDepth 20000 in
theorem s_X5_holdsRun {d : Nat} {g : zG} {σ : zI} {K : Int32 → zI → Prop} (hg : zGA g) {l0 : Nat} (h0 : zSt g l0) {l1 : Int32} {l2 : Int32} (h : (if (l1 < 0 : Prop) then K 0 σ else (if (l2 < 0 : Prop) then K 0 σ else (if ((σ l0 1) < l2 : Prop) then K 0 σ else (if (((σ l0 1) - l2) < l1 : Prop) then K 0 σ else K 1 σ))))) : zCI mX5_holdsRun d [.ref l0, .int l1, .int l2] g σ K := by
  refine c_of_x pn_mX5_holdsRun rfl (Nat.le_of_ble_eq_true rfl) ?_
  change zX _ _ 0 0 0 [.ref l0, .int l1, .int l2] [] g σ _
  refine x_iload_n dX5_holdsRun_0 rfl ?_
  refine x_if_lt (tgt := 30) dX5_holdsRun_1 rfl (fun q1 => ?_) (fun q1 => ?_)
  · replace h := itT q1 h
    refine x_iconst (v := 0) dX5_holdsRun_30 rfl ?_
    exact x_iret (S := []) dX5_holdsRun_31 rfl rfl ⟨_, rfl, rfl, h⟩
  · replace h := itF q1 h
    refine x_iload_n dX5_holdsRun_4 rfl ?_
    refine x_if_lt (tgt := 30) dX5_holdsRun_5 rfl (fun q2 => ?_) (fun q2 => ?_)
    · replace h := itT q2 h
      refine x_iconst (v := 0) dX5_holdsRun_30 rfl ?_
      exact x_iret (S := []) dX5_holdsRun_31 rfl rfl ⟨_, rfl, rfl, h⟩
    · replace h := itF q2 h
      refine x_iload_n dX5_holdsRun_8 rfl ?_
      refine x_aload_n dX5_holdsRun_9 rfl ?_
      refine x_getI dX5_holdsRun_10 fl_X5_19 h0.1 rfl ?_
      refine x_icmp_gt (tgt := 30) dX5_holdsRun_13 rfl (fun q3 => ?_) (fun q3 => ?_)
      · replace h := itT q3 h
        refine x_iconst (v := 0) dX5_holdsRun_30 rfl ?_
        exact x_iret (S := []) dX5_holdsRun_31 rfl rfl ⟨_, rfl, rfl, h⟩
      · replace h := itF q3 h
        refine x_iload_n dX5_holdsRun_16 rfl ?_
        refine x_aload_n dX5_holdsRun_17 rfl ?_
        refine x_getI dX5_holdsRun_18 fl_X5_19 h0.1 rfl ?_
        refine x_iload_n dX5_holdsRun_21 rfl ?_
        refine x_isub dX5_holdsRun_22 ?_
        refine x_icmp_gt (tgt := 30) dX5_holdsRun_23 rfl (fun q4 => ?_) (fun q4 => ?_)
        · replace h := itT q4 h
          refine x_iconst (v := 0) dX5_holdsRun_30 rfl ?_
          exact x_iret (S := []) dX5_holdsRun_31 rfl rfl ⟨_, rfl, rfl, h⟩
        · replace h := itF q4 h
          refine x_iconst (v := 1) dX5_holdsRun_26 rfl ?_
          refine x_goto (tgt := 31) dX5_holdsRun_27 rfl ?_
          exact x_iret (S := []) dX5_holdsRun_31 rfl rfl ⟨_, rfl, rfl, h⟩
