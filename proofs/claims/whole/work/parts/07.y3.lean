abbrev p_X8_buy_38 (d : Nat) (g : zG) (K : Int32 → zI → Prop) (σ : zI) (l1 : Int32) (l2 : Int32) (l3 : Int32) (l4 : Int32) (l5 : Int32) (l6 : Int32) (l7 : Int32) : Prop := zX mX8_buy (d + 1) 0 0 38 [.ref 57, .int l1, .int l2, .int l3, .int l4, .int l5, .int l6, .int l7] [] g σ (zqI g K)
set_option maxRecDepth 20000 in
theorem s_X8_buy {d : Nat} {g : zG} {σ : zI} {K : Int32 → zI → Prop} (hg : zGA g) {l1 : Int32} {l2 : Int32} {l3 : Int32} (h : zCI mX8_areTwo d [.ref 57, .int l1, .int l2] g σ (fun v1 σ1 => (if (v1 = 0 : Prop) then K (-2) σ1 else zCI mX8_within d [.int l3, .int 0, .int 1] g σ1 (fun v2 σ2 => (if (v2 = 0 : Prop) then K (-2) σ2 else vp_in l1 6 ∧ p_X8_buy_38 d g K σ2 l1 l2 l3 (σ2 60 l1.toNatClampNeg) (-1) 0 1))))) : zCI mX8_buy (d + 1) [.ref 57, .int l1, .int l2, .int l3] g σ K := by
  refine c_of_x pn_mX8_buy rfl (Nat.le_of_ble_eq_true rfl) ?_
  change zX _ _ 0 0 0 [.ref 57, .int l1, .int l2, .int l3] [] g σ _
  refine x_aload_n dX8_buy_0 rfl ?_
  refine x_iload_n dX8_buy_1 rfl ?_
  refine x_iload_n dX8_buy_2 rfl ?_
  refine x_callV (Y2 := mX8_areTwo) (as := [.int l1, .int l2]) (S := []) (kc2 := 0) (ks2 := 0) mv_mX8_areTwo (Or.inl ⟨8, _, rfl, rfl, (gA_57 hg)⟩) dX8_buy_3 lk_X8_112 mo_mX8_areTwo rfl rfl (Nat.le_of_ble_eq_true rfl) (Or.inl rfl) rfl rfl h ?_
  rintro _ _ σ1 ⟨v1, rfl, rfl, h⟩
  change zX _ _ 0 0 6 _ [.int v1] _ _ _
  refine x_if_eq (tgt := 18) dX8_buy_6 rfl (fun q1 => ?_) (fun q1 => ?_)
  · replace h := itT q1 h
    refine x_bipush (v := (-2)) dX8_buy_18 rfl ?_
    exact x_iret (S := []) dX8_buy_20 rfl rfl ⟨_, rfl, rfl, h⟩
  · replace h := itF q1 h
    refine x_iload_n dX8_buy_9 rfl ?_
    refine x_iconst (v := 0) dX8_buy_10 rfl ?_
    refine x_iconst (v := 1) dX8_buy_11 rfl ?_
    refine x_callS (Y2 := mX8_within) (as := [.int l3, .int 0, .int 1]) (S := []) (kc2 := 0) (ks2 := 0) st_mX8_within dX8_buy_12 lk_X8_85 mo_mX8_within rfl rfl (Nat.le_of_ble_eq_true rfl) (Or.inl rfl) rfl rfl h ?_
    rintro _ _ σ2 ⟨v2, rfl, rfl, h⟩
    change zX _ _ 0 0 15 _ [.int v2] _ _ _
    refine x_if_ne (tgt := 21) dX8_buy_15 rfl (fun q2 => ?_) (fun q2 => ?_)
    · replace h := itF q2 h
      refine x_aload_n dX8_buy_21 rfl ?_
      refine x_getR dX8_buy_22 fl_X8_16 (gA_57 hg) rfl (gA_57_4 hg) ?_
      refine x_iload_n dX8_buy_25 rfl ?_
      obtain ⟨q3, h⟩ := h
      refine x_iald dX8_buy_26 (gA_60 hg) q3 ?_
      refine x_istore dX8_buy_27 rfl (Nat.le_of_ble_eq_true rfl) (L2 := [_, _, _, _, _]) rfl ?_
      refine x_iconst (v := (-1)) dX8_buy_29 rfl ?_
      refine x_istore dX8_buy_30 rfl (Nat.le_of_ble_eq_true rfl) (L2 := [_, _, _, _, _, _]) rfl ?_
      refine x_iconst (v := 0) dX8_buy_32 rfl ?_
      refine x_istore dX8_buy_33 rfl (Nat.le_of_ble_eq_true rfl) (L2 := [_, _, _, _, _, _, _]) rfl ?_
      refine x_iconst (v := 1) dX8_buy_35 rfl ?_
      refine x_istore dX8_buy_36 rfl (Nat.le_of_ble_eq_true rfl) (L2 := [_, _, _, _, _, _, _, _]) rfl ?_
      exact h
    · replace h := itT q2 h
      refine x_bipush (v := (-2)) dX8_buy_18 rfl ?_
      exact x_iret (S := []) dX8_buy_20 rfl rfl ⟨_, rfl, rfl, h⟩
set_option maxRecDepth 20000 in
theorem s_X8_buy_38 {d : Nat} {g : zG} {σ : zI} {K : Int32 → zI → Prop} (hg : zGA g) {l1 : Int32} {l2 : Int32} {l3 : Int32} {l4 : Int32} {l5 : Int32} {l6 : Int32} {l7 : Int32} (h : (if (31 ≤ l7 : Prop) then vp_in l1 6 ∧ (if (l3 = 0 : Prop) then K l5 (zsI σ 60 l1.toNatClampNeg l4) else K l6 (zsI σ 60 l1.toNatClampNeg l4)) else vp_in l1 6 ∧ zCI mX8_barredOf d [.ref 57, .int l1, .int l2, .int 0] g (zsI σ 60 l1.toNatClampNeg (l4 ||| (1 <<< ((l7 - 1) &&& 31)))) (fun v1 σ1 => (if (l5 = (-1) : Prop) then p_X8_buy_38 d g K σ1 l1 l2 l3 l4 l7 v1 (l7 + 1) else (if (v1 < l6 : Prop) then p_X8_buy_38 d g K σ1 l1 l2 l3 l4 l7 v1 (l7 + 1) else p_X8_buy_38 d g K σ1 l1 l2 l3 l4 l5 l6 (l7 + 1)))))) : p_X8_buy_38 d g K σ l1 l2 l3 l4 l5 l6 l7 := by
  refine x_iload dX8_buy_38 rfl ?_
  refine x_bipush (v := 31) dX8_buy_40 rfl ?_
  refine x_icmp_ge (tgt := 99) dX8_buy_42 rfl (fun q1 => ?_) (fun q1 => ?_)
  · replace h := itT q1 h
    refine x_aload_n dX8_buy_99 rfl ?_
    refine x_getR dX8_buy_100 fl_X8_16 (gA_57 hg) rfl (gA_57_4 hg) ?_
    refine x_iload_n dX8_buy_103 rfl ?_
    refine x_iload dX8_buy_104 rfl ?_
    obtain ⟨q2, h⟩ := h
    refine x_iast dX8_buy_106 (gA_60 hg) q2 ?_
    refine x_iload_n dX8_buy_107 rfl ?_
    refine x_if_ne (tgt := 116) dX8_buy_108 rfl (fun q3 => ?_) (fun q3 => ?_)
    · replace h := itF q3 h
      refine x_iload dX8_buy_116 rfl ?_
      exact x_iret (S := []) dX8_buy_118 rfl rfl ⟨_, rfl, rfl, h⟩
    · replace h := itT q3 h
      refine x_iload dX8_buy_111 rfl ?_
      refine x_goto (tgt := 118) dX8_buy_113 rfl ?_
      exact x_iret (S := []) dX8_buy_118 rfl rfl ⟨_, rfl, rfl, h⟩
  · replace h := itF q1 h
    refine x_aload_n dX8_buy_45 rfl ?_
    refine x_getR dX8_buy_46 fl_X8_16 (gA_57 hg) rfl (gA_57_4 hg) ?_
    refine x_iload_n dX8_buy_49 rfl ?_
    refine x_iload dX8_buy_50 rfl ?_
    refine x_iconst (v := 1) dX8_buy_52 rfl ?_
    refine x_iload dX8_buy_53 rfl ?_
    refine x_iconst (v := 1) dX8_buy_55 rfl ?_
    refine x_isub dX8_buy_56 ?_
    refine x_ishl dX8_buy_57 ?_
    refine x_ior dX8_buy_58 ?_
    obtain ⟨q2, h⟩ := h
    refine x_iast dX8_buy_59 (gA_60 hg) q2 ?_
    refine x_aload_n dX8_buy_60 rfl ?_
    refine x_iload_n dX8_buy_61 rfl ?_
    refine x_iload_n dX8_buy_62 rfl ?_
    refine x_iconst (v := 0) dX8_buy_63 rfl ?_
    refine x_callV (Y2 := mX8_barredOf) (as := [.int l1, .int l2, .int 0]) (S := []) (kc2 := 0) (ks2 := 0) mv_mX8_barredOf (Or.inl ⟨8, _, rfl, rfl, (gA_57 hg)⟩) dX8_buy_64 lk_X8_255 mo_mX8_barredOf rfl rfl (Nat.le_of_ble_eq_true rfl) (Or.inl rfl) rfl rfl h ?_
    rintro _ _ σ1 ⟨v1, rfl, rfl, h⟩
    change zX _ _ 0 0 67 _ [.int v1] _ _ _
    refine x_istore dX8_buy_67 rfl (Nat.le_of_ble_eq_true rfl) (L2 := [_, _, _, _, _, _, _, _, _]) rfl ?_
    refine x_iload dX8_buy_69 rfl ?_
    refine x_iconst (v := (-1)) dX8_buy_71 rfl ?_
    refine x_icmp_eq (tgt := 85) dX8_buy_72 rfl (fun q3 => ?_) (fun q3 => ?_)
    · replace h := itT q3 h
      refine x_iload dX8_buy_85 rfl ?_
      refine x_istore dX8_buy_87 rfl (Nat.le_of_ble_eq_true rfl) (L2 := [_, _, _, _, _, _, _, _, _]) rfl ?_
      refine x_iload dX8_buy_89 rfl ?_
      refine x_istore dX8_buy_91 rfl (Nat.le_of_ble_eq_true rfl) (L2 := [_, _, _, _, _, _, _, _, _]) rfl ?_
      refine x_iinc dX8_buy_93 rfl (v := l7 + 1) rfl rfl (Nat.le_of_ble_eq_true rfl) (L2 := [_, _, _, _, _, _, _, _, _]) rfl ?_
      refine x_goto (tgt := 38) dX8_buy_96 rfl ?_
      exact x_wk (wC (wC (wC (wC (wC (wC (wC (wC (wN _))))))))) h
    · replace h := itF q3 h
      refine x_iload dX8_buy_75 rfl ?_
      refine x_iload dX8_buy_77 rfl ?_
      refine x_icmp_lt (tgt := 85) dX8_buy_79 rfl (fun q4 => ?_) (fun q4 => ?_)
      · replace h := itT q4 h
        refine x_iload dX8_buy_85 rfl ?_
        refine x_istore dX8_buy_87 rfl (Nat.le_of_ble_eq_true rfl) (L2 := [_, _, _, _, _, _, _, _, _]) rfl ?_
        refine x_iload dX8_buy_89 rfl ?_
        refine x_istore dX8_buy_91 rfl (Nat.le_of_ble_eq_true rfl) (L2 := [_, _, _, _, _, _, _, _, _]) rfl ?_
        refine x_iinc dX8_buy_93 rfl (v := l7 + 1) rfl rfl (Nat.le_of_ble_eq_true rfl) (L2 := [_, _, _, _, _, _, _, _, _]) rfl ?_
        refine x_goto (tgt := 38) dX8_buy_96 rfl ?_
        exact x_wk (wC (wC (wC (wC (wC (wC (wC (wC (wN _))))))))) h
      · replace h := itF q4 h
        refine x_goto (tgt := 93) dX8_buy_82 rfl ?_
        refine x_iinc dX8_buy_93 rfl (v := l7 + 1) rfl rfl (Nat.le_of_ble_eq_true rfl) (L2 := [_, _, _, _, _, _, _, _, _]) rfl ?_
        refine x_goto (tgt := 38) dX8_buy_96 rfl ?_
        exact x_wk (wC (wC (wC (wC (wC (wC (wC (wC (wN _))))))))) h
abbrev p_X8_pawn_38 (d : Nat) (g : zG) (K : Int32 → zI → Prop) (σ : zI) (l1 : Int32) (l2 : Int32) (l3 : Int32) (l4 : Int32) (l5 : Int32) (l6 : Int32) (l7 : Int32) : Prop := zX mX8_pawn (d + 1) 0 0 38 [.ref 57, .int l1, .int l2, .int l3, .int l4, .int l5, .int l6, .int l7] [] g σ (zqI g K)
set_option maxRecDepth 20000 in
theorem s_X8_pawn {d : Nat} {g : zG} {σ : zI} {K : Int32 → zI → Prop} (hg : zGA g) {l1 : Int32} {l2 : Int32} {l3 : Int32} (h : zCI mX8_areTwo d [.ref 57, .int l1, .int l2] g σ (fun v1 σ1 => (if (v1 = 0 : Prop) then K (-2) σ1 else zCI mX8_within d [.int l3, .int 0, .int 1] g σ1 (fun v2 σ2 => (if (v2 = 0 : Prop) then K (-2) σ2 else vp_in l1 6 ∧ p_X8_pawn_38 d g K σ2 l1 l2 l3 (σ2 60 l1.toNatClampNeg) (-1) (-1) 1))))) : zCI mX8_pawn (d + 1) [.ref 57, .int l1, .int l2, .int l3] g σ K := by
  refine c_of_x pn_mX8_pawn rfl (Nat.le_of_ble_eq_true rfl) ?_
  change zX _ _ 0 0 0 [.ref 57, .int l1, .int l2, .int l3] [] g σ _
  refine x_aload_n dX8_pawn_0 rfl ?_
  refine x_iload_n dX8_pawn_1 rfl ?_
  refine x_iload_n dX8_pawn_2 rfl ?_
  refine x_callV (Y2 := mX8_areTwo) (as := [.int l1, .int l2]) (S := []) (kc2 := 0) (ks2 := 0) mv_mX8_areTwo (Or.inl ⟨8, _, rfl, rfl, (gA_57 hg)⟩) dX8_pawn_3 lk_X8_112 mo_mX8_areTwo rfl rfl (Nat.le_of_ble_eq_true rfl) (Or.inl rfl) rfl rfl h ?_
  rintro _ _ σ1 ⟨v1, rfl, rfl, h⟩
  change zX _ _ 0 0 6 _ [.int v1] _ _ _
  refine x_if_eq (tgt := 18) dX8_pawn_6 rfl (fun q1 => ?_) (fun q1 => ?_)
  · replace h := itT q1 h
    refine x_bipush (v := (-2)) dX8_pawn_18 rfl ?_
    exact x_iret (S := []) dX8_pawn_20 rfl rfl ⟨_, rfl, rfl, h⟩
  · replace h := itF q1 h
    refine x_iload_n dX8_pawn_9 rfl ?_
    refine x_iconst (v := 0) dX8_pawn_10 rfl ?_
    refine x_iconst (v := 1) dX8_pawn_11 rfl ?_
    refine x_callS (Y2 := mX8_within) (as := [.int l3, .int 0, .int 1]) (S := []) (kc2 := 0) (ks2 := 0) st_mX8_within dX8_pawn_12 lk_X8_85 mo_mX8_within rfl rfl (Nat.le_of_ble_eq_true rfl) (Or.inl rfl) rfl rfl h ?_
    rintro _ _ σ2 ⟨v2, rfl, rfl, h⟩
    change zX _ _ 0 0 15 _ [.int v2] _ _ _
    refine x_if_ne (tgt := 21) dX8_pawn_15 rfl (fun q2 => ?_) (fun q2 => ?_)
    · replace h := itF q2 h
      refine x_aload_n dX8_pawn_21 rfl ?_
      refine x_getR dX8_pawn_22 fl_X8_16 (gA_57 hg) rfl (gA_57_4 hg) ?_
      refine x_iload_n dX8_pawn_25 rfl ?_
      obtain ⟨q3, h⟩ := h
      refine x_iald dX8_pawn_26 (gA_60 hg) q3 ?_
      refine x_istore dX8_pawn_27 rfl (Nat.le_of_ble_eq_true rfl) (L2 := [_, _, _, _, _]) rfl ?_
      refine x_iconst (v := (-1)) dX8_pawn_29 rfl ?_
      refine x_istore dX8_pawn_30 rfl (Nat.le_of_ble_eq_true rfl) (L2 := [_, _, _, _, _, _]) rfl ?_
      refine x_iconst (v := (-1)) dX8_pawn_32 rfl ?_
      refine x_istore dX8_pawn_33 rfl (Nat.le_of_ble_eq_true rfl) (L2 := [_, _, _, _, _, _, _]) rfl ?_
      refine x_iconst (v := 1) dX8_pawn_35 rfl ?_
      refine x_istore dX8_pawn_36 rfl (Nat.le_of_ble_eq_true rfl) (L2 := [_, _, _, _, _, _, _, _]) rfl ?_
      exact h
    · replace h := itT q2 h
      refine x_bipush (v := (-2)) dX8_pawn_18 rfl ?_
      exact x_iret (S := []) dX8_pawn_20 rfl rfl ⟨_, rfl, rfl, h⟩
set_option maxRecDepth 20000 in
theorem s_X8_pawn_38 {d : Nat} {g : zG} {σ : zI} {K : Int32 → zI → Prop} (hg : zGA g) {l1 : Int32} {l2 : Int32} {l3 : Int32} {l4 : Int32} {l5 : Int32} {l6 : Int32} {l7 : Int32} (h : (if (31 ≤ l7 : Prop) then vp_in l1 6 ∧ (if (l3 = 0 : Prop) then K l5 (zsI σ 60 l1.toNatClampNeg l4) else K l6 (zsI σ 60 l1.toNatClampNeg l4)) else zCI mX8_has d [.int l4, .int (l7 - 1)] g σ (fun v1 σ1 => (if (v1 = 0 : Prop) then p_X8_pawn_38 d g K σ1 l1 l2 l3 l4 l5 l6 (l7 + 1) else vp_in l1 6 ∧ zCI mX8_unpaid d [.ref 57, .int l1, .int l2] g (zsI σ1 60 l1.toNatClampNeg (l4 - (1 <<< ((l7 - 1) &&& 31)))) (fun v2 σ2 => (if (l5 = (-1) : Prop) then p_X8_pawn_38 d g K σ2 l1 l2 l3 l4 l7 v2 (l7 + 1) else (if (v2 < l6 : Prop) then p_X8_pawn_38 d g K σ2 l1 l2 l3 l4 l7 v2 (l7 + 1) else p_X8_pawn_38 d g K σ2 l1 l2 l3 l4 l5 l6 (l7 + 1)))))))) : p_X8_pawn_38 d g K σ l1 l2 l3 l4 l5 l6 l7 := by
  refine x_iload dX8_pawn_38 rfl ?_
  refine x_bipush (v := 31) dX8_pawn_40 rfl ?_
  refine x_icmp_ge (tgt := 113) dX8_pawn_42 rfl (fun q1 => ?_) (fun q1 => ?_)
  · replace h := itT q1 h
    refine x_aload_n dX8_pawn_113 rfl ?_
    refine x_getR dX8_pawn_114 fl_X8_16 (gA_57 hg) rfl (gA_57_4 hg) ?_
    refine x_iload_n dX8_pawn_117 rfl ?_
    refine x_iload dX8_pawn_118 rfl ?_
    obtain ⟨q2, h⟩ := h
    refine x_iast dX8_pawn_120 (gA_60 hg) q2 ?_
    refine x_iload_n dX8_pawn_121 rfl ?_
    refine x_if_ne (tgt := 130) dX8_pawn_122 rfl (fun q3 => ?_) (fun q3 => ?_)
    · replace h := itF q3 h
      refine x_iload dX8_pawn_130 rfl ?_
      exact x_iret (S := []) dX8_pawn_132 rfl rfl ⟨_, rfl, rfl, h⟩
    · replace h := itT q3 h
      refine x_iload dX8_pawn_125 rfl ?_
      refine x_goto (tgt := 132) dX8_pawn_127 rfl ?_
      exact x_iret (S := []) dX8_pawn_132 rfl rfl ⟨_, rfl, rfl, h⟩
  · replace h := itF q1 h
    refine x_iload dX8_pawn_45 rfl ?_
    refine x_iload dX8_pawn_47 rfl ?_
    refine x_iconst (v := 1) dX8_pawn_49 rfl ?_
    refine x_isub dX8_pawn_50 ?_
    refine x_callS (Y2 := mX8_has) (as := [.int l4, .int (l7 - 1)]) (S := []) (kc2 := 0) (ks2 := 0) st_mX8_has dX8_pawn_51 lk_X8_118 mo_mX8_has rfl rfl (Nat.le_of_ble_eq_true rfl) (Or.inl rfl) rfl rfl h ?_
    rintro _ _ σ1 ⟨v1, rfl, rfl, h⟩
    change zX _ _ 0 0 54 _ [.int v1] _ _ _
    refine x_if_ne (tgt := 60) dX8_pawn_54 rfl (fun q2 => ?_) (fun q2 => ?_)
    · replace h := itF q2 h
      refine x_aload_n dX8_pawn_60 rfl ?_
      refine x_getR dX8_pawn_61 fl_X8_16 (gA_57 hg) rfl (gA_57_4 hg) ?_
      refine x_iload_n dX8_pawn_64 rfl ?_
      refine x_iload dX8_pawn_65 rfl ?_
      refine x_iconst (v := 1) dX8_pawn_67 rfl ?_
      refine x_iload dX8_pawn_68 rfl ?_
      refine x_iconst (v := 1) dX8_pawn_70 rfl ?_
      refine x_isub dX8_pawn_71 ?_
      refine x_ishl dX8_pawn_72 ?_
      refine x_isub dX8_pawn_73 ?_
      obtain ⟨q3, h⟩ := h
      refine x_iast dX8_pawn_74 (gA_60 hg) q3 ?_
      refine x_aload_n dX8_pawn_75 rfl ?_
      refine x_iload_n dX8_pawn_76 rfl ?_
      refine x_iload_n dX8_pawn_77 rfl ?_
      refine x_callV (Y2 := mX8_unpaid) (as := [.int l1, .int l2]) (S := []) (kc2 := 0) (ks2 := 0) mv_mX8_unpaid (Or.inl ⟨8, _, rfl, rfl, (gA_57 hg)⟩) dX8_pawn_78 lk_X8_261 mo_mX8_unpaid rfl rfl (Nat.le_of_ble_eq_true rfl) (Or.inl rfl) rfl rfl h ?_
      rintro _ _ σ2 ⟨v2, rfl, rfl, h⟩
      change zX _ _ 0 0 81 _ [.int v2] _ _ _
      refine x_istore dX8_pawn_81 rfl (Nat.le_of_ble_eq_true rfl) (L2 := [_, _, _, _, _, _, _, _, _]) rfl ?_
      refine x_iload dX8_pawn_83 rfl ?_
      refine x_iconst (v := (-1)) dX8_pawn_85 rfl ?_
      refine x_icmp_eq (tgt := 99) dX8_pawn_86 rfl (fun q4 => ?_) (fun q4 => ?_)
      · replace h := itT q4 h
        refine x_iload dX8_pawn_99 rfl ?_
        refine x_istore dX8_pawn_101 rfl (Nat.le_of_ble_eq_true rfl) (L2 := [_, _, _, _, _, _, _, _, _]) rfl ?_
        refine x_iload dX8_pawn_103 rfl ?_
        refine x_istore dX8_pawn_105 rfl (Nat.le_of_ble_eq_true rfl) (L2 := [_, _, _, _, _, _, _, _, _]) rfl ?_
        refine x_iinc dX8_pawn_107 rfl (v := l7 + 1) rfl rfl (Nat.le_of_ble_eq_true rfl) (L2 := [_, _, _, _, _, _, _, _, _]) rfl ?_
        refine x_goto (tgt := 38) dX8_pawn_110 rfl ?_
        exact x_wk (wC (wC (wC (wC (wC (wC (wC (wC (wN _))))))))) h
      · replace h := itF q4 h
        refine x_iload dX8_pawn_89 rfl ?_
        refine x_iload dX8_pawn_91 rfl ?_
        refine x_icmp_lt (tgt := 99) dX8_pawn_93 rfl (fun q5 => ?_) (fun q5 => ?_)
        · replace h := itT q5 h
          refine x_iload dX8_pawn_99 rfl ?_
          refine x_istore dX8_pawn_101 rfl (Nat.le_of_ble_eq_true rfl) (L2 := [_, _, _, _, _, _, _, _, _]) rfl ?_
          refine x_iload dX8_pawn_103 rfl ?_
          refine x_istore dX8_pawn_105 rfl (Nat.le_of_ble_eq_true rfl) (L2 := [_, _, _, _, _, _, _, _, _]) rfl ?_
          refine x_iinc dX8_pawn_107 rfl (v := l7 + 1) rfl rfl (Nat.le_of_ble_eq_true rfl) (L2 := [_, _, _, _, _, _, _, _, _]) rfl ?_
          refine x_goto (tgt := 38) dX8_pawn_110 rfl ?_
          exact x_wk (wC (wC (wC (wC (wC (wC (wC (wC (wN _))))))))) h
        · replace h := itF q5 h
          refine x_goto (tgt := 107) dX8_pawn_96 rfl ?_
          refine x_iinc dX8_pawn_107 rfl (v := l7 + 1) rfl rfl (Nat.le_of_ble_eq_true rfl) (L2 := [_, _, _, _, _, _, _, _, _]) rfl ?_
          refine x_goto (tgt := 38) dX8_pawn_110 rfl ?_
          exact x_wk (wC (wC (wC (wC (wC (wC (wC (wC (wN _))))))))) h
    · replace h := itT q2 h
      refine x_goto (tgt := 107) dX8_pawn_57 rfl ?_
      refine x_iinc dX8_pawn_107 rfl (v := l7 + 1) rfl rfl (Nat.le_of_ble_eq_true rfl) (L2 := [_, _, _, _, _, _, _, _]) rfl ?_
      refine x_goto (tgt := 38) dX8_pawn_110 rfl ?_
      exact h
abbrev p_X8_unpaid_11 (d : Nat) (g : zG) (K : Int32 → zI → Prop) (σ : zI) (l3 : Int32) (l4 : Int32) : Prop := zX mX8_unpaid (d + 1) 0 0 11 [.ref 57, .retAddr 0, .retAddr 0, .int l3, .int l4] [] g σ (zqI g K)
set_option maxRecDepth 20000 in
theorem s_X8_unpaid {d : Nat} {g : zG} {σ : zI} {K : Int32 → zI → Prop} (hg : zGA g) {l1 : Int32} {l2 : Int32} (h : zCV mX8_sums d [.ref 57, .int l1, .int l2] g σ (fun σ1 => p_X8_unpaid_11 d g K σ1 0 1)) : zCI mX8_unpaid (d + 1) [.ref 57, .int l1, .int l2] g σ K := by
  refine c_of_x pn_mX8_unpaid rfl (Nat.le_of_ble_eq_true rfl) ?_
  change zX _ _ 0 0 0 [.ref 57, .int l1, .int l2] [] g σ _
  refine x_aload_n dX8_unpaid_0 rfl ?_
  refine x_iload_n dX8_unpaid_1 rfl ?_
  refine x_iload_n dX8_unpaid_2 rfl ?_
  refine x_callV (Y2 := mX8_sums) (as := [.int l1, .int l2]) (S := []) (kc2 := 0) (ks2 := 0) mv_mX8_sums (Or.inl ⟨8, _, rfl, rfl, (gA_57 hg)⟩) dX8_unpaid_3 lk_X8_245 mo_mX8_sums rfl rfl (Nat.le_of_ble_eq_true rfl) (Or.inl rfl) rfl rfl h ?_
  rintro _ _ σ1 ⟨rfl, rfl, h⟩
  change zX _ _ 0 0 6 _ [] _ _ _
  refine x_iconst (v := 0) dX8_unpaid_6 rfl ?_
  refine x_istore_n dX8_unpaid_7 rfl (Nat.le_of_ble_eq_true rfl) (L2 := [_, _, _, _]) rfl ?_
  refine x_iconst (v := 1) dX8_unpaid_8 rfl ?_
  refine x_istore dX8_unpaid_9 rfl (Nat.le_of_ble_eq_true rfl) (L2 := [_, _, _, _, _]) rfl ?_
  exact x_wk (wC (wJ (wJ (wC (wC (wN _)))))) h
set_option maxRecDepth 20000 in
theorem s_X8_unpaid_11 {d : Nat} {g : zG} {σ : zI} {K : Int32 → zI → Prop} (hg : zGA g) {l3 : Int32} {l4 : Int32} (h : (if (100 ≤ l4 : Prop) then K l3 σ else vp_in l4 100 ∧ (if ((σ 68 l4.toNatClampNeg) = (-1) : Prop) then p_X8_unpaid_11 d g K σ (l3 + 1) (l4 + 1) else p_X8_unpaid_11 d g K σ l3 (l4 + 1)))) : p_X8_unpaid_11 d g K σ l3 l4 := by
  refine x_iload dX8_unpaid_11 rfl ?_
  refine x_bipush (v := 100) dX8_unpaid_13 rfl ?_
  refine x_icmp_ge (tgt := 38) dX8_unpaid_15 rfl (fun q1 => ?_) (fun q1 => ?_)
  · replace h := itT q1 h
    refine x_iload_n dX8_unpaid_38 rfl ?_
    exact x_iret (S := []) dX8_unpaid_39 rfl rfl ⟨_, rfl, rfl, h⟩
  · replace h := itF q1 h
    refine x_aload_n dX8_unpaid_18 rfl ?_
    refine x_getR dX8_unpaid_19 fl_X8_40 (gA_57 hg) rfl (gA_57_26 hg) ?_
    refine x_iload dX8_unpaid_22 rfl ?_
    obtain ⟨q2, h⟩ := h
    refine x_iald dX8_unpaid_24 (gA_68 hg) q2 ?_
    refine x_iconst (v := (-1)) dX8_unpaid_25 rfl ?_
    refine x_icmp_ne (tgt := 32) dX8_unpaid_26 rfl (fun q3 => ?_) (fun q3 => ?_)
    · replace h := itF q3 h
      refine x_iinc dX8_unpaid_32 rfl (v := l4 + 1) rfl rfl (Nat.le_of_ble_eq_true rfl) (L2 := [_, _, _, _, _]) rfl ?_
      refine x_goto (tgt := 11) dX8_unpaid_35 rfl ?_
      exact h
    · replace h := itT q3 h
      refine x_iinc dX8_unpaid_29 rfl (v := l3 + 1) rfl rfl (Nat.le_of_ble_eq_true rfl) (L2 := [_, _, _, _, _]) rfl ?_
      refine x_iinc dX8_unpaid_32 rfl (v := l4 + 1) rfl rfl (Nat.le_of_ble_eq_true rfl) (L2 := [_, _, _, _, _]) rfl ?_
      refine x_goto (tgt := 11) dX8_unpaid_35 rfl ?_
      exact h
abbrev p_X8_rows_59 (d : Nat) (g : zG) (K : Int32 → zI → Prop) (σ : zI) (l1 : Int32) (l2 : Int32) (l3 : Int32) (l4 : Int32) (l5 : Int32) : Prop := zX mX8_rows (d + 1) 0 0 59 [.ref 57, .int l1, .int l2, .int l3, .int l4, .int l5] [] g σ (zqI g K)
set_option maxRecDepth 20000 in
theorem s_X8_rows {d : Nat} {g : zG} {σ : zI} {K : Int32 → zI → Prop} (hg : zGA g) {l1 : Int32} {l2 : Int32} {l3 : Int32} {l4 : Int32} (h : zCI mX8_isSheet d [.int l1] g σ (fun v1 σ1 => (if (v1 = 0 : Prop) then K (-2) σ1 else zCI mX8_areTwo d [.ref 57, .int l2, .int l3] g σ1 (fun v2 σ2 => (if (v2 = 0 : Prop) then K (-2) σ2 else zCI mX8_within d [.int l4, .int 0, .int 5] g σ2 (fun v3 σ3 => (if (v3 = 0 : Prop) then K (-2) σ3 else vp_in l1 4 ∧ (if (0 ≤ (σ3 75 l1.toNatClampNeg) : Prop) then vp_in l1 4 ∧ (if (((σ3 76 l1.toNatClampNeg) - (σ3 76 l1.toNatClampNeg) / 2 * 2) = 1 : Prop) then K (-2) σ3 else p_X8_rows_59 d g K σ3 l1 l2 l3 l4 0) else K (-11) σ3)))))))) : zCI mX8_rows (d + 1) [.ref 57, .int l1, .int l2, .int l3, .int l4] g σ K := by
  refine c_of_x pn_mX8_rows rfl (Nat.le_of_ble_eq_true rfl) ?_
  change zX _ _ 0 0 0 [.ref 57, .int l1, .int l2, .int l3, .int l4] [] g σ _
  refine x_iload_n dX8_rows_0 rfl ?_
  refine x_callS (Y2 := mX8_isSheet) (as := [.int l1]) (S := []) (kc2 := 0) (ks2 := 0) st_mX8_isSheet dX8_rows_1 lk_X8_267 mo_mX8_isSheet rfl rfl (Nat.le_of_ble_eq_true rfl) (Or.inl rfl) rfl rfl h ?_
  rintro _ _ σ1 ⟨v1, rfl, rfl, h⟩
  change zX _ _ 0 0 4 _ [.int v1] _ _ _
  refine x_if_eq (tgt := 26) dX8_rows_4 rfl (fun q1 => ?_) (fun q1 => ?_)
  · replace h := itT q1 h
    refine x_bipush (v := (-2)) dX8_rows_26 rfl ?_
    exact x_iret (S := []) dX8_rows_28 rfl rfl ⟨_, rfl, rfl, h⟩
  · replace h := itF q1 h
    refine x_aload_n dX8_rows_7 rfl ?_
    refine x_iload_n dX8_rows_8 rfl ?_
    refine x_iload_n dX8_rows_9 rfl ?_
    refine x_callV (Y2 := mX8_areTwo) (as := [.int l2, .int l3]) (S := []) (kc2 := 0) (ks2 := 0) mv_mX8_areTwo (Or.inl ⟨8, _, rfl, rfl, (gA_57 hg)⟩) dX8_rows_10 lk_X8_112 mo_mX8_areTwo rfl rfl (Nat.le_of_ble_eq_true rfl) (Or.inl rfl) rfl rfl h ?_
    rintro _ _ σ2 ⟨v2, rfl, rfl, h⟩
    change zX _ _ 0 0 13 _ [.int v2] _ _ _
    refine x_if_eq (tgt := 26) dX8_rows_13 rfl (fun q2 => ?_) (fun q2 => ?_)
    · replace h := itT q2 h
      refine x_bipush (v := (-2)) dX8_rows_26 rfl ?_
      exact x_iret (S := []) dX8_rows_28 rfl rfl ⟨_, rfl, rfl, h⟩
    · replace h := itF q2 h
      refine x_iload dX8_rows_16 rfl ?_
      refine x_iconst (v := 0) dX8_rows_18 rfl ?_
      refine x_iconst (v := 5) dX8_rows_19 rfl ?_
      refine x_callS (Y2 := mX8_within) (as := [.int l4, .int 0, .int 5]) (S := []) (kc2 := 0) (ks2 := 0) st_mX8_within dX8_rows_20 lk_X8_85 mo_mX8_within rfl rfl (Nat.le_of_ble_eq_true rfl) (Or.inl rfl) rfl rfl h ?_
      rintro _ _ σ3 ⟨v3, rfl, rfl, h⟩
      change zX _ _ 0 0 23 _ [.int v3] _ _ _
      refine x_if_ne (tgt := 29) dX8_rows_23 rfl (fun q3 => ?_) (fun q3 => ?_)
      · replace h := itF q3 h
        refine x_aload_n dX8_rows_29 rfl ?_
        refine x_getR dX8_rows_30 fl_X8_62 (gA_57 hg) rfl (gA_57_35 hg) ?_
        refine x_iload_n dX8_rows_33 rfl ?_
        obtain ⟨q4, h⟩ := h
        refine x_iald dX8_rows_34 (gA_75 hg) q4 ?_
        refine x_if_ge (tgt := 41) dX8_rows_35 rfl (fun q5 => ?_) (fun q5 => ?_)
        · replace h := itT q5 h
          refine x_aload_n dX8_rows_41 rfl ?_
          refine x_getR dX8_rows_42 fl_X8_65 (gA_57 hg) rfl (gA_57_36 hg) ?_
          refine x_iload_n dX8_rows_45 rfl ?_
          obtain ⟨q6, h⟩ := h
          refine x_iald dX8_rows_46 (gA_76 hg) q6 ?_
          refine x_iconst (v := 2) dX8_rows_47 rfl ?_
          refine x_irem dX8_rows_48 (by decide) ?_
          refine x_iconst (v := 1) dX8_rows_49 rfl ?_
          refine x_icmp_ne (tgt := 56) dX8_rows_50 rfl (fun q7 => ?_) (fun q7 => ?_)
          · replace h := itF q7 h
            refine x_iconst (v := 0) dX8_rows_56 rfl ?_
            refine x_istore dX8_rows_57 rfl (Nat.le_of_ble_eq_true rfl) (L2 := [_, _, _, _, _, _]) rfl ?_
            exact h
          · replace h := itT q7 h
            refine x_bipush (v := (-2)) dX8_rows_53 rfl ?_
            exact x_iret (S := []) dX8_rows_55 rfl rfl ⟨_, rfl, rfl, h⟩
        · replace h := itF q5 h
          refine x_bipush (v := (-11)) dX8_rows_38 rfl ?_
          exact x_iret (S := []) dX8_rows_40 rfl rfl ⟨_, rfl, rfl, h⟩
      · replace h := itT q3 h
        refine x_bipush (v := (-2)) dX8_rows_26 rfl ?_
        exact x_iret (S := []) dX8_rows_28 rfl rfl ⟨_, rfl, rfl, h⟩
set_option maxRecDepth 20000 in
theorem s_X8_rows_59 {d : Nat} {g : zG} {σ : zI} {K : Int32 → zI → Prop} (hg : zGA g) {l1 : Int32} {l2 : Int32} {l3 : Int32} {l4 : Int32} {l5 : Int32} (h : vp_in l1 4 ∧ (if ((σ 76 l1.toNatClampNeg) ≤ l5 : Prop) then (if (l4 = 0 : Prop) then zCI mX8_otherwise d [.ref 57, .int l1, .int l2, .int l3] g σ (fun v1 σ1 => K v1 σ1) else (if (l4 = 1 : Prop) then zCI mX8_kinds d [.ref 57, .int l1, .int l2, .int l3] g σ (fun v1 σ1 => K v1 σ1) else (if (l4 = 2 : Prop) then zCI mX8_mores d [.ref 57, .int l1, .int l2, .int l3] g σ (fun v1 σ1 => K v1 σ1) else (if (l4 = 3 : Prop) then zCI mX8_rules d [.ref 57, .int l1, .int l2, .int l3] g σ (fun v1 σ1 => K v1 σ1) else (if (l4 = 4 : Prop) then zCI mX8_owns d [.ref 57, .int l1, .int l2, .int l3, .int 1] g σ (fun v1 σ1 => K v1 σ1) else zCI mX8_owns d [.ref 57, .int l1, .int l2, .int l3, .int 0] g σ (fun v1 σ1 => K v1 σ1)))))) else vp_in ((40 * l1) + l5) 160 ∧ zCI mX8_isSum d [.int (σ 77 (((40 * l1) + l5 : Int32).toNatClampNeg))] g σ (fun v1 σ1 => (if (v1 = 0 : Prop) then K (-2) σ1 else p_X8_rows_59 d g K σ1 l1 l2 l3 l4 (l5 + 2))))) : p_X8_rows_59 d g K σ l1 l2 l3 l4 l5 := by
  refine x_iload dX8_rows_59 rfl ?_
  refine x_aload_n dX8_rows_61 rfl ?_
  refine x_getR dX8_rows_62 fl_X8_65 (gA_57 hg) rfl (gA_57_36 hg) ?_
  refine x_iload_n dX8_rows_65 rfl ?_
  obtain ⟨q1, h⟩ := h
  refine x_iald dX8_rows_66 (gA_76 hg) q1 ?_
  refine x_icmp_ge (tgt := 97) dX8_rows_67 rfl (fun q2 => ?_) (fun q2 => ?_)
  · replace h := itT q2 h
    refine x_iload dX8_rows_97 rfl ?_
    by_cases q3 : l4 = 0
    · refine x_tsw (tgt := 128) dX8_rows_99 (by rw [q3]; decide) (by rw [q3]; decide) (by rw [q3]; rfl) rfl ?_
      replace h := itT q3 h
      refine x_aload_n dX8_rows_128 rfl ?_
      refine x_iload_n dX8_rows_129 rfl ?_
      refine x_iload_n dX8_rows_130 rfl ?_
      refine x_iload_n dX8_rows_131 rfl ?_
      refine x_callV (Y2 := mX8_otherwise) (as := [.int l1, .int l2, .int l3]) (S := []) (kc2 := 0) (ks2 := 0) mv_mX8_otherwise (Or.inl ⟨8, _, rfl, rfl, (gA_57 hg)⟩) dX8_rows_132 lk_X8_264 mo_mX8_otherwise rfl rfl (Nat.le_of_ble_eq_true rfl) (Or.inl rfl) rfl rfl h ?_
      rintro _ _ σ1 ⟨v1, rfl, rfl, h⟩
      change zX _ _ 0 0 135 _ [.int v1] _ _ _
      exact x_iret (S := []) dX8_rows_135 rfl rfl ⟨_, rfl, rfl, h⟩
    · replace h := itF q3 h
      by_cases q4 : l4 = 1
      · refine x_tsw (tgt := 136) dX8_rows_99 (by rw [q4]; decide) (by rw [q4]; decide) (by rw [q4]; rfl) rfl ?_
        replace h := itT q4 h
        refine x_aload_n dX8_rows_136 rfl ?_
        refine x_iload_n dX8_rows_137 rfl ?_
        refine x_iload_n dX8_rows_138 rfl ?_
        refine x_iload_n dX8_rows_139 rfl ?_
        refine x_callV (Y2 := mX8_kinds) (as := [.int l1, .int l2, .int l3]) (S := []) (kc2 := 0) (ks2 := 0) mv_mX8_kinds (Or.inl ⟨8, _, rfl, rfl, (gA_57 hg)⟩) dX8_rows_140 lk_X8_270 mo_mX8_kinds rfl rfl (Nat.le_of_ble_eq_true rfl) (Or.inl rfl) rfl rfl h ?_
        rintro _ _ σ1 ⟨v1, rfl, rfl, h⟩
        change zX _ _ 0 0 143 _ [.int v1] _ _ _
        exact x_iret (S := []) dX8_rows_143 rfl rfl ⟨_, rfl, rfl, h⟩
      · replace h := itF q4 h
        by_cases q5 : l4 = 2
        · refine x_tsw (tgt := 144) dX8_rows_99 (by rw [q5]; decide) (by rw [q5]; decide) (by rw [q5]; rfl) rfl ?_
          replace h := itT q5 h
          refine x_aload_n dX8_rows_144 rfl ?_
          refine x_iload_n dX8_rows_145 rfl ?_
          refine x_iload_n dX8_rows_146 rfl ?_
          refine x_iload_n dX8_rows_147 rfl ?_
          refine x_callV (Y2 := mX8_mores) (as := [.int l1, .int l2, .int l3]) (S := []) (kc2 := 0) (ks2 := 0) mv_mX8_mores (Or.inl ⟨8, _, rfl, rfl, (gA_57 hg)⟩) dX8_rows_148 lk_X8_273 mo_mX8_mores rfl rfl (Nat.le_of_ble_eq_true rfl) (Or.inl rfl) rfl rfl h ?_
          rintro _ _ σ1 ⟨v1, rfl, rfl, h⟩
          change zX _ _ 0 0 151 _ [.int v1] _ _ _
          exact x_iret (S := []) dX8_rows_151 rfl rfl ⟨_, rfl, rfl, h⟩
        · replace h := itF q5 h
          by_cases q6 : l4 = 3
          · refine x_tsw (tgt := 152) dX8_rows_99 (by rw [q6]; decide) (by rw [q6]; decide) (by rw [q6]; rfl) rfl ?_
            replace h := itT q6 h
            refine x_aload_n dX8_rows_152 rfl ?_
            refine x_iload_n dX8_rows_153 rfl ?_
            refine x_iload_n dX8_rows_154 rfl ?_
            refine x_iload_n dX8_rows_155 rfl ?_
            refine x_callV (Y2 := mX8_rules) (as := [.int l1, .int l2, .int l3]) (S := []) (kc2 := 0) (ks2 := 0) mv_mX8_rules (Or.inl ⟨8, _, rfl, rfl, (gA_57 hg)⟩) dX8_rows_156 lk_X8_276 mo_mX8_rules rfl rfl (Nat.le_of_ble_eq_true rfl) (Or.inl rfl) rfl rfl h ?_
            rintro _ _ σ1 ⟨v1, rfl, rfl, h⟩
            change zX _ _ 0 0 159 _ [.int v1] _ _ _
            exact x_iret (S := []) dX8_rows_159 rfl rfl ⟨_, rfl, rfl, h⟩
          · replace h := itF q6 h
            refine x_tswd (tgt := 160) dX8_rows_99 (by have z0 := lv_neT (a := 0) q3 rfl; have z1 := lv_neT (a := 1) q4 rfl; have z2 := lv_neT (a := 2) q5 rfl; have z3 := lv_neT (a := 3) q6 rfl; omega) rfl ?_
            refine x_aload_n dX8_rows_160 rfl ?_
            refine x_iload_n dX8_rows_161 rfl ?_
            refine x_iload_n dX8_rows_162 rfl ?_
            refine x_iload_n dX8_rows_163 rfl ?_
            refine x_iload dX8_rows_164 rfl ?_
            refine x_iconst (v := 4) dX8_rows_166 rfl ?_
            refine x_icmp_ne (tgt := 174) dX8_rows_167 rfl (fun q7 => ?_) (fun q7 => ?_)
            · replace h := itF q7 h
              refine x_iconst (v := 0) dX8_rows_174 rfl ?_
              refine x_callV (Y2 := mX8_owns) (as := [.int l1, .int l2, .int l3, .int 0]) (S := []) (kc2 := 0) (ks2 := 0) mv_mX8_owns (Or.inl ⟨8, _, rfl, rfl, (gA_57 hg)⟩) dX8_rows_175 lk_X8_279 mo_mX8_owns rfl rfl (Nat.le_of_ble_eq_true rfl) (Or.inl rfl) rfl rfl h ?_
              rintro _ _ σ1 ⟨v1, rfl, rfl, h⟩
              change zX _ _ 0 0 178 _ [.int v1] _ _ _
              exact x_iret (S := []) dX8_rows_178 rfl rfl ⟨_, rfl, rfl, h⟩
            · replace h := itT q7 h
              refine x_iconst (v := 1) dX8_rows_170 rfl ?_
              refine x_goto (tgt := 175) dX8_rows_171 rfl ?_
              refine x_callV (Y2 := mX8_owns) (as := [.int l1, .int l2, .int l3, .int 1]) (S := []) (kc2 := 0) (ks2 := 0) mv_mX8_owns (Or.inl ⟨8, _, rfl, rfl, (gA_57 hg)⟩) dX8_rows_175 lk_X8_279 mo_mX8_owns rfl rfl (Nat.le_of_ble_eq_true rfl) (Or.inl rfl) rfl rfl h ?_
              rintro _ _ σ1 ⟨v1, rfl, rfl, h⟩
              change zX _ _ 0 0 178 _ [.int v1] _ _ _
              exact x_iret (S := []) dX8_rows_178 rfl rfl ⟨_, rfl, rfl, h⟩
  · replace h := itF q2 h
    refine x_aload_n dX8_rows_70 rfl ?_
    refine x_getR dX8_rows_71 fl_X8_68 (gA_57 hg) rfl (gA_57_37 hg) ?_
    refine x_bipush (v := 40) dX8_rows_74 rfl ?_
    refine x_iload_n dX8_rows_76 rfl ?_
    refine x_imul dX8_rows_77 ?_
    refine x_iload dX8_rows_78 rfl ?_
    refine x_iadd dX8_rows_80 ?_
    obtain ⟨q3, h⟩ := h
    refine x_iald dX8_rows_81 (gA_77 hg) q3 ?_
    refine x_callS (Y2 := mX8_isSum) (as := [.int (σ 77 (((40 * l1) + l5 : Int32).toNatClampNeg))]) (S := []) (kc2 := 0) (ks2 := 0) st_mX8_isSum dX8_rows_82 lk_X8_233 mo_mX8_isSum rfl rfl (Nat.le_of_ble_eq_true rfl) (Or.inl rfl) rfl rfl h ?_
    rintro _ _ σ1 ⟨v1, rfl, rfl, h⟩
    change zX _ _ 0 0 85 _ [.int v1] _ _ _
    refine x_if_ne (tgt := 91) dX8_rows_85 rfl (fun q4 => ?_) (fun q4 => ?_)
    · replace h := itF q4 h
      refine x_iinc dX8_rows_91 rfl (v := l5 + 2) rfl rfl (Nat.le_of_ble_eq_true rfl) (L2 := [_, _, _, _, _, _]) rfl ?_
      refine x_goto (tgt := 59) dX8_rows_94 rfl ?_
      exact h
    · replace h := itT q4 h
      refine x_bipush (v := (-2)) dX8_rows_88 rfl ?_
      exact x_iret (S := []) dX8_rows_90 rfl rfl ⟨_, rfl, rfl, h⟩
set_option maxRecDepth 20000 in
theorem s_X8_isSheet {d : Nat} {g : zG} {σ : zI} {K : Int32 → zI → Prop} (hg : zGA g) {l0 : Int32} (h : zCI mX8_within d [.int l0, .int 0, .int 3] g σ (fun v1 σ1 => (v1 = 0 ∨ v1 = 1) ∧ K v1 σ1)) : zCI mX8_isSheet (d + 1) [.int l0] g σ K := by
  refine c_of_x pn_mX8_isSheet rfl (Nat.le_of_ble_eq_true rfl) ?_
  change zX _ _ 0 0 0 [.int l0] [] g σ _
  refine x_iload_n dX8_isSheet_0 rfl ?_
  refine x_iconst (v := 0) dX8_isSheet_1 rfl ?_
  refine x_iconst (v := 3) dX8_isSheet_2 rfl ?_
  refine x_callS (Y2 := mX8_within) (as := [.int l0, .int 0, .int 3]) (S := []) (kc2 := 0) (ks2 := 0) st_mX8_within dX8_isSheet_3 lk_X8_85 mo_mX8_within rfl rfl (Nat.le_of_ble_eq_true rfl) (Or.inl rfl) rfl rfl h ?_
  rintro _ _ σ1 ⟨v1, rfl, rfl, h⟩
  change zX _ _ 0 0 6 _ [.int v1] _ _ _
  obtain ⟨q1, h⟩ := h
  exact x_iret (S := []) dX8_isSheet_6 rfl (zbz q1) ⟨_, rfl, rfl, h⟩
abbrev p_X8_otherwise_9 (d : Nat) (g : zG) (K : Int32 → zI → Prop) (σ : zI) (l1 : Int32) (l4 : Int32) : Prop := zX mX8_otherwise (d + 1) 0 0 9 [.ref 57, .int l1, .retAddr 0, .retAddr 0, .int l4] [] g σ (zqI g K)
set_option maxRecDepth 20000 in
theorem s_X8_otherwise {d : Nat} {g : zG} {σ : zI} {K : Int32 → zI → Prop} (hg : zGA g) {l1 : Int32} {l2 : Int32} {l3 : Int32} (h : zCV mX8_sums d [.ref 57, .int l2, .int l3] g σ (fun σ1 => p_X8_otherwise_9 d g K σ1 l1 0)) : zCI mX8_otherwise (d + 1) [.ref 57, .int l1, .int l2, .int l3] g σ K := by
  refine c_of_x pn_mX8_otherwise rfl (Nat.le_of_ble_eq_true rfl) ?_
  change zX _ _ 0 0 0 [.ref 57, .int l1, .int l2, .int l3] [] g σ _
  refine x_aload_n dX8_otherwise_0 rfl ?_
  refine x_iload_n dX8_otherwise_1 rfl ?_
  refine x_iload_n dX8_otherwise_2 rfl ?_
  refine x_callV (Y2 := mX8_sums) (as := [.int l2, .int l3]) (S := []) (kc2 := 0) (ks2 := 0) mv_mX8_sums (Or.inl ⟨8, _, rfl, rfl, (gA_57 hg)⟩) dX8_otherwise_3 lk_X8_245 mo_mX8_sums rfl rfl (Nat.le_of_ble_eq_true rfl) (Or.inl rfl) rfl rfl h ?_
  rintro _ _ σ1 ⟨rfl, rfl, h⟩
  change zX _ _ 0 0 6 _ [] _ _ _
  refine x_iconst (v := 0) dX8_otherwise_6 rfl ?_
  refine x_istore dX8_otherwise_7 rfl (Nat.le_of_ble_eq_true rfl) (L2 := [_, _, _, _, _]) rfl ?_
  exact x_wk (wC (wC (wJ (wJ (wC (wN _)))))) h
set_option maxRecDepth 20000 in
theorem s_X8_otherwise_9 {d : Nat} {g : zG} {σ : zI} {K : Int32 → zI → Prop} (hg : zGA g) {l1 : Int32} {l4 : Int32} (h : vp_in l1 4 ∧ (if ((σ 76 l1.toNatClampNeg) ≤ l4 : Prop) then K (-1) σ else vp_in (((40 * l1) + l4) + 1) 160 ∧ vp_in ((40 * l1) + l4) 160 ∧ vp_in (σ 77 (((40 * l1) + l4 : Int32).toNatClampNeg)) 100 ∧ (if ((σ 77 ((((40 * l1) + l4) + 1 : Int32).toNatClampNeg)) = (σ 68 ((σ 77 (((40 * l1) + l4 : Int32).toNatClampNeg) : Int32).toNatClampNeg)) : Prop) then p_X8_otherwise_9 d g K σ l1 (l4 + 2) else K (l4 / 2) σ))) : p_X8_otherwise_9 d g K σ l1 l4 := by
  refine x_iload dX8_otherwise_9 rfl ?_
  refine x_aload_n dX8_otherwise_11 rfl ?_
  refine x_getR dX8_otherwise_12 fl_X8_65 (gA_57 hg) rfl (gA_57_36 hg) ?_
  refine x_iload_n dX8_otherwise_15 rfl ?_
  obtain ⟨q1, h⟩ := h
  refine x_iald dX8_otherwise_16 (gA_76 hg) q1 ?_
  refine x_icmp_ge (tgt := 65) dX8_otherwise_17 rfl (fun q2 => ?_) (fun q2 => ?_)
  · replace h := itT q2 h
    refine x_iconst (v := (-1)) dX8_otherwise_65 rfl ?_
    exact x_iret (S := []) dX8_otherwise_66 rfl rfl ⟨_, rfl, rfl, h⟩
  · replace h := itF q2 h
    refine x_aload_n dX8_otherwise_20 rfl ?_
    refine x_getR dX8_otherwise_21 fl_X8_68 (gA_57 hg) rfl (gA_57_37 hg) ?_
    refine x_bipush (v := 40) dX8_otherwise_24 rfl ?_
    refine x_iload_n dX8_otherwise_26 rfl ?_
    refine x_imul dX8_otherwise_27 ?_
    refine x_iload dX8_otherwise_28 rfl ?_
    refine x_iadd dX8_otherwise_30 ?_
    refine x_iconst (v := 1) dX8_otherwise_31 rfl ?_
    refine x_iadd dX8_otherwise_32 ?_
    obtain ⟨q3, h⟩ := h
    refine x_iald dX8_otherwise_33 (gA_77 hg) q3 ?_
    refine x_aload_n dX8_otherwise_34 rfl ?_
    refine x_getR dX8_otherwise_35 fl_X8_40 (gA_57 hg) rfl (gA_57_26 hg) ?_
    refine x_aload_n dX8_otherwise_38 rfl ?_
    refine x_getR dX8_otherwise_39 fl_X8_68 (gA_57 hg) rfl (gA_57_37 hg) ?_
    refine x_bipush (v := 40) dX8_otherwise_42 rfl ?_
    refine x_iload_n dX8_otherwise_44 rfl ?_
    refine x_imul dX8_otherwise_45 ?_
    refine x_iload dX8_otherwise_46 rfl ?_
    refine x_iadd dX8_otherwise_48 ?_
    obtain ⟨q4, h⟩ := h
    refine x_iald dX8_otherwise_49 (gA_77 hg) q4 ?_
    obtain ⟨q5, h⟩ := h
    refine x_iald dX8_otherwise_50 (gA_68 hg) q5 ?_
    refine x_icmp_eq (tgt := 59) dX8_otherwise_51 rfl (fun q6 => ?_) (fun q6 => ?_)
    · replace h := itT q6 h
      refine x_iinc dX8_otherwise_59 rfl (v := l4 + 2) rfl rfl (Nat.le_of_ble_eq_true rfl) (L2 := [_, _, _, _, _]) rfl ?_
      refine x_goto (tgt := 9) dX8_otherwise_62 rfl ?_
      exact h
    · replace h := itF q6 h
      refine x_iload dX8_otherwise_54 rfl ?_
      refine x_iconst (v := 2) dX8_otherwise_56 rfl ?_
      refine x_idiv dX8_otherwise_57 (by decide) ?_
      exact x_iret (S := []) dX8_otherwise_58 rfl rfl ⟨_, rfl, rfl, h⟩
abbrev p_X8_kinds_14 (d : Nat) (g : zG) (K : Int32 → zI → Prop) (σ : zI) (l1 : Int32) (l2 : Int32) (l3 : Int32) (l4 : Int32) (l5 : Int32) (l6 : Int32) : Prop := zX mX8_kinds (d + 1) 0 0 14 [.ref 57, .int l1, .int l2, .int l3, .int l4, .int l5, .int l6] [] g σ (zqI g K)
set_option maxRecDepth 20000 in
theorem s_X8_kinds {d : Nat} {g : zG} {σ : zI} {K : Int32 → zI → Prop} (hg : zGA g) {l1 : Int32} {l2 : Int32} {l3 : Int32} (h : vp_in l2 6 ∧ p_X8_kinds_14 d g K σ l1 l2 l3 (σ 58 l2.toNatClampNeg) 0 0) : zCI mX8_kinds (d + 1) [.ref 57, .int l1, .int l2, .int l3] g σ K := by
  refine c_of_x pn_mX8_kinds rfl (Nat.le_of_ble_eq_true rfl) ?_
  change zX _ _ 0 0 0 [.ref 57, .int l1, .int l2, .int l3] [] g σ _
  refine x_aload_n dX8_kinds_0 rfl ?_
  refine x_getR dX8_kinds_1 fl_X8_7 (gA_57 hg) rfl (gA_57_2 hg) ?_
  refine x_iload_n dX8_kinds_4 rfl ?_
  obtain ⟨q1, h⟩ := h
  refine x_iald dX8_kinds_5 (gA_58 hg) q1 ?_
  refine x_istore dX8_kinds_6 rfl (Nat.le_of_ble_eq_true rfl) (L2 := [_, _, _, _, _]) rfl ?_
  refine x_iconst (v := 0) dX8_kinds_8 rfl ?_
  refine x_istore dX8_kinds_9 rfl (Nat.le_of_ble_eq_true rfl) (L2 := [_, _, _, _, _, _]) rfl ?_
  refine x_iconst (v := 0) dX8_kinds_11 rfl ?_
  refine x_istore dX8_kinds_12 rfl (Nat.le_of_ble_eq_true rfl) (L2 := [_, _, _, _, _, _, _]) rfl ?_
  exact h
set_option maxRecDepth 20000 in
theorem s_X8_kinds_14 {d : Nat} {g : zG} {σ : zI} {K : Int32 → zI → Prop} (hg : zGA g) {l1 : Int32} {l2 : Int32} {l3 : Int32} {l4 : Int32} {l5 : Int32} {l6 : Int32} (h : (if (6 ≤ l6 : Prop) then vp_in l2 6 ∧ K l5 (zsI σ 58 l2.toNatClampNeg l4) else vp_in l2 6 ∧ zCI mX8_isSo d [.ref 57, .int l1, .int l2, .int l3] g (zsI σ 58 l2.toNatClampNeg l6) (fun v1 σ1 => (if (v1 = 0 : Prop) then p_X8_kinds_14 d g K σ1 l1 l2 l3 l4 l5 (l6 + 1) else p_X8_kinds_14 d g K σ1 l1 l2 l3 l4 (l5 ||| (1 <<< (l6 &&& 31))) (l6 + 1))))) : p_X8_kinds_14 d g K σ l1 l2 l3 l4 l5 l6 := by
  refine x_iload dX8_kinds_14 rfl ?_
  refine x_bipush (v := 6) dX8_kinds_16 rfl ?_
  refine x_icmp_ge (tgt := 54) dX8_kinds_18 rfl (fun q1 => ?_) (fun q1 => ?_)
  · replace h := itT q1 h
    refine x_aload_n dX8_kinds_54 rfl ?_
    refine x_getR dX8_kinds_55 fl_X8_7 (gA_57 hg) rfl (gA_57_2 hg) ?_
    refine x_iload_n dX8_kinds_58 rfl ?_
    refine x_iload dX8_kinds_59 rfl ?_
    obtain ⟨q2, h⟩ := h
    refine x_iast dX8_kinds_61 (gA_58 hg) q2 ?_
    refine x_iload dX8_kinds_62 rfl ?_
    exact x_iret (S := []) dX8_kinds_64 rfl rfl ⟨_, rfl, rfl, h⟩
  · replace h := itF q1 h
    refine x_aload_n dX8_kinds_21 rfl ?_
    refine x_getR dX8_kinds_22 fl_X8_7 (gA_57 hg) rfl (gA_57_2 hg) ?_
    refine x_iload_n dX8_kinds_25 rfl ?_
    refine x_iload dX8_kinds_26 rfl ?_
    obtain ⟨q2, h⟩ := h
    refine x_iast dX8_kinds_28 (gA_58 hg) q2 ?_
    refine x_aload_n dX8_kinds_29 rfl ?_
    refine x_iload_n dX8_kinds_30 rfl ?_
    refine x_iload_n dX8_kinds_31 rfl ?_
    refine x_iload_n dX8_kinds_32 rfl ?_
    refine x_callV (Y2 := mX8_isSo) (as := [.int l1, .int l2, .int l3]) (S := []) (kc2 := 0) (ks2 := 0) mv_mX8_isSo (Or.inl ⟨8, _, rfl, rfl, (gA_57 hg)⟩) dX8_kinds_33 lk_X8_283 mo_mX8_isSo rfl rfl (Nat.le_of_ble_eq_true rfl) (Or.inl rfl) rfl rfl h ?_
    rintro _ _ σ1 ⟨v1, rfl, rfl, h⟩
    change zX _ _ 0 0 36 _ [.int v1] _ _ _
    refine x_if_eq (tgt := 48) dX8_kinds_36 rfl (fun q3 => ?_) (fun q3 => ?_)
    · replace h := itT q3 h
      refine x_iinc dX8_kinds_48 rfl (v := l6 + 1) rfl rfl (Nat.le_of_ble_eq_true rfl) (L2 := [_, _, _, _, _, _, _]) rfl ?_
      refine x_goto (tgt := 14) dX8_kinds_51 rfl ?_
      exact h
    · replace h := itF q3 h
      refine x_iload dX8_kinds_39 rfl ?_
      refine x_iconst (v := 1) dX8_kinds_41 rfl ?_
      refine x_iload dX8_kinds_42 rfl ?_
      refine x_ishl dX8_kinds_44 ?_
      refine x_ior dX8_kinds_45 ?_
      refine x_istore dX8_kinds_46 rfl (Nat.le_of_ble_eq_true rfl) (L2 := [_, _, _, _, _, _, _]) rfl ?_
      refine x_iinc dX8_kinds_48 rfl (v := l6 + 1) rfl rfl (Nat.le_of_ble_eq_true rfl) (L2 := [_, _, _, _, _, _, _]) rfl ?_
      refine x_goto (tgt := 14) dX8_kinds_51 rfl ?_
      exact h
set_option maxRecDepth 20000 in
theorem s_X8_isSo {d : Nat} {g : zG} {σ : zI} {K : Int32 → zI → Prop} (hg : zGA g) {l1 : Int32} {l2 : Int32} {l3 : Int32} (h : zCI mX8_otherwise d [.ref 57, .int l1, .int l2, .int l3] g σ (fun v1 σ1 => (if (v1 = (-1) : Prop) then K 1 σ1 else K 0 σ1))) : zCI mX8_isSo (d + 1) [.ref 57, .int l1, .int l2, .int l3] g σ K := by
  refine c_of_x pn_mX8_isSo rfl (Nat.le_of_ble_eq_true rfl) ?_
  change zX _ _ 0 0 0 [.ref 57, .int l1, .int l2, .int l3] [] g σ _
  refine x_aload_n dX8_isSo_0 rfl ?_
  refine x_iload_n dX8_isSo_1 rfl ?_
  refine x_iload_n dX8_isSo_2 rfl ?_
  refine x_iload_n dX8_isSo_3 rfl ?_
  refine x_callV (Y2 := mX8_otherwise) (as := [.int l1, .int l2, .int l3]) (S := []) (kc2 := 0) (ks2 := 0) mv_mX8_otherwise (Or.inl ⟨8, _, rfl, rfl, (gA_57 hg)⟩) dX8_isSo_4 lk_X8_264 mo_mX8_otherwise rfl rfl (Nat.le_of_ble_eq_true rfl) (Or.inl rfl) rfl rfl h ?_
  rintro _ _ σ1 ⟨v1, rfl, rfl, h⟩
  change zX _ _ 0 0 7 _ [.int v1] _ _ _
  refine x_iconst (v := (-1)) dX8_isSo_7 rfl ?_
  refine x_icmp_ne (tgt := 15) dX8_isSo_8 rfl (fun q1 => ?_) (fun q1 => ?_)
  · replace h := itF q1 h
    refine x_iconst (v := 0) dX8_isSo_15 rfl ?_
    exact x_iret (S := []) dX8_isSo_16 rfl rfl ⟨_, rfl, rfl, h⟩
  · replace h := itT q1 h
    refine x_iconst (v := 1) dX8_isSo_11 rfl ?_
    refine x_goto (tgt := 16) dX8_isSo_12 rfl ?_
    exact x_iret (S := []) dX8_isSo_16 rfl rfl ⟨_, rfl, rfl, h⟩
abbrev p_X8_mores_14 (d : Nat) (g : zG) (K : Int32 → zI → Prop) (σ : zI) (l1 : Int32) (l2 : Int32) (l3 : Int32) (l4 : Int32) (l5 : Int32) (l6 : Int32) : Prop := zX mX8_mores (d + 1) 0 0 14 [.ref 57, .int l1, .int l2, .int l3, .int l4, .int l5, .int l6] [] g σ (zqI g K)
set_option maxRecDepth 20000 in
theorem s_X8_mores {d : Nat} {g : zG} {σ : zI} {K : Int32 → zI → Prop} (hg : zGA g) {l1 : Int32} {l2 : Int32} {l3 : Int32} (h : vp_in l2 6 ∧ p_X8_mores_14 d g K σ l1 l2 l3 (σ 59 l2.toNatClampNeg) 0 0) : zCI mX8_mores (d + 1) [.ref 57, .int l1, .int l2, .int l3] g σ K := by
  refine c_of_x pn_mX8_mores rfl (Nat.le_of_ble_eq_true rfl) ?_
  change zX _ _ 0 0 0 [.ref 57, .int l1, .int l2, .int l3] [] g σ _
  refine x_aload_n dX8_mores_0 rfl ?_
  refine x_getR dX8_mores_1 fl_X8_13 (gA_57 hg) rfl (gA_57_3 hg) ?_
  refine x_iload_n dX8_mores_4 rfl ?_
  obtain ⟨q1, h⟩ := h
  refine x_iald dX8_mores_5 (gA_59 hg) q1 ?_
  refine x_istore dX8_mores_6 rfl (Nat.le_of_ble_eq_true rfl) (L2 := [_, _, _, _, _]) rfl ?_
  refine x_iconst (v := 0) dX8_mores_8 rfl ?_
  refine x_istore dX8_mores_9 rfl (Nat.le_of_ble_eq_true rfl) (L2 := [_, _, _, _, _, _]) rfl ?_
  refine x_iconst (v := 0) dX8_mores_11 rfl ?_
  refine x_istore dX8_mores_12 rfl (Nat.le_of_ble_eq_true rfl) (L2 := [_, _, _, _, _, _, _]) rfl ?_
  exact h
set_option maxRecDepth 20000 in
theorem s_X8_mores_14 {d : Nat} {g : zG} {σ : zI} {K : Int32 → zI → Prop} (hg : zGA g) {l1 : Int32} {l2 : Int32} {l3 : Int32} {l4 : Int32} {l5 : Int32} {l6 : Int32} (h : (if (10 ≤ l6 : Prop) then vp_in l2 6 ∧ K l5 (zsI σ 59 l2.toNatClampNeg l4) else vp_in l2 6 ∧ zCI mX8_isSo d [.ref 57, .int l1, .int l2, .int l3] g (zsI σ 59 l2.toNatClampNeg l6) (fun v1 σ1 => (if (v1 = 0 : Prop) then p_X8_mores_14 d g K σ1 l1 l2 l3 l4 l5 (l6 + 1) else p_X8_mores_14 d g K σ1 l1 l2 l3 l4 (l5 ||| (1 <<< (l6 &&& 31))) (l6 + 1))))) : p_X8_mores_14 d g K σ l1 l2 l3 l4 l5 l6 := by
  refine x_iload dX8_mores_14 rfl ?_
  refine x_bipush (v := 10) dX8_mores_16 rfl ?_
  refine x_icmp_ge (tgt := 54) dX8_mores_18 rfl (fun q1 => ?_) (fun q1 => ?_)
  · replace h := itT q1 h
    refine x_aload_n dX8_mores_54 rfl ?_
    refine x_getR dX8_mores_55 fl_X8_13 (gA_57 hg) rfl (gA_57_3 hg) ?_
    refine x_iload_n dX8_mores_58 rfl ?_
    refine x_iload dX8_mores_59 rfl ?_
    obtain ⟨q2, h⟩ := h
    refine x_iast dX8_mores_61 (gA_59 hg) q2 ?_
    refine x_iload dX8_mores_62 rfl ?_
    exact x_iret (S := []) dX8_mores_64 rfl rfl ⟨_, rfl, rfl, h⟩
  · replace h := itF q1 h
    refine x_aload_n dX8_mores_21 rfl ?_
    refine x_getR dX8_mores_22 fl_X8_13 (gA_57 hg) rfl (gA_57_3 hg) ?_
    refine x_iload_n dX8_mores_25 rfl ?_
    refine x_iload dX8_mores_26 rfl ?_
    obtain ⟨q2, h⟩ := h
    refine x_iast dX8_mores_28 (gA_59 hg) q2 ?_
    refine x_aload_n dX8_mores_29 rfl ?_
    refine x_iload_n dX8_mores_30 rfl ?_
    refine x_iload_n dX8_mores_31 rfl ?_
    refine x_iload_n dX8_mores_32 rfl ?_
    refine x_callV (Y2 := mX8_isSo) (as := [.int l1, .int l2, .int l3]) (S := []) (kc2 := 0) (ks2 := 0) mv_mX8_isSo (Or.inl ⟨8, _, rfl, rfl, (gA_57 hg)⟩) dX8_mores_33 lk_X8_283 mo_mX8_isSo rfl rfl (Nat.le_of_ble_eq_true rfl) (Or.inl rfl) rfl rfl h ?_
    rintro _ _ σ1 ⟨v1, rfl, rfl, h⟩
    change zX _ _ 0 0 36 _ [.int v1] _ _ _
    refine x_if_eq (tgt := 48) dX8_mores_36 rfl (fun q3 => ?_) (fun q3 => ?_)
    · replace h := itT q3 h
      refine x_iinc dX8_mores_48 rfl (v := l6 + 1) rfl rfl (Nat.le_of_ble_eq_true rfl) (L2 := [_, _, _, _, _, _, _]) rfl ?_
      refine x_goto (tgt := 14) dX8_mores_51 rfl ?_
      exact h
    · replace h := itF q3 h
      refine x_iload dX8_mores_39 rfl ?_
      refine x_iconst (v := 1) dX8_mores_41 rfl ?_
      refine x_iload dX8_mores_42 rfl ?_
      refine x_ishl dX8_mores_44 ?_
      refine x_ior dX8_mores_45 ?_
      refine x_istore dX8_mores_46 rfl (Nat.le_of_ble_eq_true rfl) (L2 := [_, _, _, _, _, _, _]) rfl ?_
      refine x_iinc dX8_mores_48 rfl (v := l6 + 1) rfl rfl (Nat.le_of_ble_eq_true rfl) (L2 := [_, _, _, _, _, _, _]) rfl ?_
      refine x_goto (tgt := 14) dX8_mores_51 rfl ?_
      exact h
abbrev p_X8_rules_12 (d : Nat) (g : zG) (K : Int32 → zI → Prop) (σ : zI) (l1 : Int32) (l2 : Int32) (l3 : Int32) (l4 : Int32) (l5 : Int32) (l6 : Int32) : Prop := zX mX8_rules (d + 1) 0 0 12 [.ref 57, .int l1, .int l2, .int l3, .int l4, .int l5, .int l6] [] g σ (zqI g K)
set_option maxRecDepth 20000 in
theorem s_X8_rules {d : Nat} {g : zG} {σ : zI} {K : Int32 → zI → Prop} (hg : zGA g) {l1 : Int32} {l2 : Int32} {l3 : Int32} (h : p_X8_rules_12 d g K σ l1 l2 l3 (σ 57 5) 0 0) : zCI mX8_rules (d + 1) [.ref 57, .int l1, .int l2, .int l3] g σ K := by
  refine c_of_x pn_mX8_rules rfl (Nat.le_of_ble_eq_true rfl) ?_
  change zX _ _ 0 0 0 [.ref 57, .int l1, .int l2, .int l3] [] g σ _
  refine x_aload_n dX8_rules_0 rfl ?_
  refine x_getI dX8_rules_1 fl_X8_209 (gA_57 hg) rfl ?_
  refine x_istore dX8_rules_4 rfl (Nat.le_of_ble_eq_true rfl) (L2 := [_, _, _, _, _]) rfl ?_
  refine x_iconst (v := 0) dX8_rules_6 rfl ?_
  refine x_istore dX8_rules_7 rfl (Nat.le_of_ble_eq_true rfl) (L2 := [_, _, _, _, _, _]) rfl ?_
  refine x_iconst (v := 0) dX8_rules_9 rfl ?_
  refine x_istore dX8_rules_10 rfl (Nat.le_of_ble_eq_true rfl) (L2 := [_, _, _, _, _, _, _]) rfl ?_
  exact h
set_option maxRecDepth 20000 in
theorem s_X8_rules_12 {d : Nat} {g : zG} {σ : zI} {K : Int32 → zI → Prop} (hg : zGA g) {l1 : Int32} {l2 : Int32} {l3 : Int32} {l4 : Int32} {l5 : Int32} {l6 : Int32} (h : (if ((σ 57 8) ≤ l6 : Prop) then K l5 (zsI σ 57 5 l4) else zCI mX8_isSo d [.ref 57, .int l1, .int l2, .int l3] g (zsI σ 57 5 l6) (fun v1 σ1 => (if (v1 = 0 : Prop) then p_X8_rules_12 d g K σ1 l1 l2 l3 l4 l5 (l6 + 1) else p_X8_rules_12 d g K σ1 l1 l2 l3 l4 (l5 ||| (1 <<< (l6 &&& 31))) (l6 + 1))))) : p_X8_rules_12 d g K σ l1 l2 l3 l4 l5 l6 := by
  refine x_iload dX8_rules_12 rfl ?_
  refine x_aload_n dX8_rules_14 rfl ?_
  refine x_getI dX8_rules_15 fl_X8_78 (gA_57 hg) rfl ?_
  refine x_icmp_ge (tgt := 52) dX8_rules_18 rfl (fun q1 => ?_) (fun q1 => ?_)
  · replace h := itT q1 h
    refine x_aload_n dX8_rules_52 rfl ?_
    refine x_iload dX8_rules_53 rfl ?_
    refine x_putI dX8_rules_55 fl_X8_209 (gA_57 hg) rfl rfl ?_
    refine x_iload dX8_rules_58 rfl ?_
    exact x_iret (S := []) dX8_rules_60 rfl rfl ⟨_, rfl, rfl, h⟩
  · replace h := itF q1 h
    refine x_aload_n dX8_rules_21 rfl ?_
    refine x_iload dX8_rules_22 rfl ?_
    refine x_putI dX8_rules_24 fl_X8_209 (gA_57 hg) rfl rfl ?_
    refine x_aload_n dX8_rules_27 rfl ?_
    refine x_iload_n dX8_rules_28 rfl ?_
    refine x_iload_n dX8_rules_29 rfl ?_
    refine x_iload_n dX8_rules_30 rfl ?_
    refine x_callV (Y2 := mX8_isSo) (as := [.int l1, .int l2, .int l3]) (S := []) (kc2 := 0) (ks2 := 0) mv_mX8_isSo (Or.inl ⟨8, _, rfl, rfl, (gA_57 hg)⟩) dX8_rules_31 lk_X8_283 mo_mX8_isSo rfl rfl (Nat.le_of_ble_eq_true rfl) (Or.inl rfl) rfl rfl h ?_
    rintro _ _ σ1 ⟨v1, rfl, rfl, h⟩
    change zX _ _ 0 0 34 _ [.int v1] _ _ _
    refine x_if_eq (tgt := 46) dX8_rules_34 rfl (fun q2 => ?_) (fun q2 => ?_)
    · replace h := itT q2 h
      refine x_iinc dX8_rules_46 rfl (v := l6 + 1) rfl rfl (Nat.le_of_ble_eq_true rfl) (L2 := [_, _, _, _, _, _, _]) rfl ?_
      refine x_goto (tgt := 12) dX8_rules_49 rfl ?_
      exact h
    · replace h := itF q2 h
      refine x_iload dX8_rules_37 rfl ?_
      refine x_iconst (v := 1) dX8_rules_39 rfl ?_
      refine x_iload dX8_rules_40 rfl ?_
      refine x_ishl dX8_rules_42 ?_
      refine x_ior dX8_rules_43 ?_
      refine x_istore dX8_rules_44 rfl (Nat.le_of_ble_eq_true rfl) (L2 := [_, _, _, _, _, _, _]) rfl ?_
      refine x_iinc dX8_rules_46 rfl (v := l6 + 1) rfl rfl (Nat.le_of_ble_eq_true rfl) (L2 := [_, _, _, _, _, _, _]) rfl ?_
      refine x_goto (tgt := 12) dX8_rules_49 rfl ?_
      exact h
abbrev p_X8_owns_14 (d : Nat) (g : zG) (K : Int32 → zI → Prop) (σ : zI) (l1 : Int32) (l2 : Int32) (l3 : Int32) (l4 : Int32) (l5 : Int32) (l6 : Int32) (l7 : Int32) : Prop := zX mX8_owns (d + 1) 0 0 14 [.ref 57, .int l1, .int l2, .int l3, .int l4, .int l5, .int l6, .int l7] [] g σ (zqI g K)
set_option maxRecDepth 20000 in
theorem s_X8_owns {d : Nat} {g : zG} {σ : zI} {K : Int32 → zI → Prop} (hg : zGA g) {l1 : Int32} {l2 : Int32} {l3 : Int32} {l4 : Int32} (h : vp_in l2 6 ∧ p_X8_owns_14 d g K σ l1 l2 l3 l4 (σ 60 l2.toNatClampNeg) 0 0) : zCI mX8_owns (d + 1) [.ref 57, .int l1, .int l2, .int l3, .int l4] g σ K := by
  refine c_of_x pn_mX8_owns rfl (Nat.le_of_ble_eq_true rfl) ?_
  change zX _ _ 0 0 0 [.ref 57, .int l1, .int l2, .int l3, .int l4] [] g σ _
  refine x_aload_n dX8_owns_0 rfl ?_
  refine x_getR dX8_owns_1 fl_X8_16 (gA_57 hg) rfl (gA_57_4 hg) ?_
  refine x_iload_n dX8_owns_4 rfl ?_
  obtain ⟨q1, h⟩ := h
  refine x_iald dX8_owns_5 (gA_60 hg) q1 ?_
  refine x_istore dX8_owns_6 rfl (Nat.le_of_ble_eq_true rfl) (L2 := [_, _, _, _, _, _]) rfl ?_
  refine x_iconst (v := 0) dX8_owns_8 rfl ?_
  refine x_istore dX8_owns_9 rfl (Nat.le_of_ble_eq_true rfl) (L2 := [_, _, _, _, _, _, _]) rfl ?_
  refine x_iconst (v := 0) dX8_owns_11 rfl ?_
  refine x_istore dX8_owns_12 rfl (Nat.le_of_ble_eq_true rfl) (L2 := [_, _, _, _, _, _, _, _]) rfl ?_
  exact h
set_option maxRecDepth 20000 in
theorem s_X8_owns_14 {d : Nat} {g : zG} {σ : zI} {K : Int32 → zI → Prop} (hg : zGA g) {l1 : Int32} {l2 : Int32} {l3 : Int32} {l4 : Int32} {l5 : Int32} {l6 : Int32} {l7 : Int32} (h : (if (30 ≤ l7 : Prop) then vp_in l2 6 ∧ K l6 (zsI σ 60 l2.toNatClampNeg l5) else zCI mX8_has d [.int l5, .int l7] g σ (fun v1 σ1 => (if (v1 = l4 : Prop) then vp_in l2 6 ∧ zCI mX8_isSo d [.ref 57, .int l1, .int l2, .int l3] g (zsI σ1 60 l2.toNatClampNeg (l5 ^^^ (1 <<< (l7 &&& 31)))) (fun v2 σ2 => (if (v2 = l4 : Prop) then p_X8_owns_14 d g K σ2 l1 l2 l3 l4 l5 l6 (l7 + 1) else p_X8_owns_14 d g K σ2 l1 l2 l3 l4 l5 (l6 ||| (1 <<< (l7 &&& 31))) (l7 + 1))) else p_X8_owns_14 d g K σ1 l1 l2 l3 l4 l5 l6 (l7 + 1))))) : p_X8_owns_14 d g K σ l1 l2 l3 l4 l5 l6 l7 := by
  refine x_iload dX8_owns_14 rfl ?_
  refine x_bipush (v := 30) dX8_owns_16 rfl ?_
  refine x_icmp_ge (tgt := 76) dX8_owns_18 rfl (fun q1 => ?_) (fun q1 => ?_)
  · replace h := itT q1 h
    refine x_aload_n dX8_owns_76 rfl ?_
    refine x_getR dX8_owns_77 fl_X8_16 (gA_57 hg) rfl (gA_57_4 hg) ?_
    refine x_iload_n dX8_owns_80 rfl ?_
    refine x_iload dX8_owns_81 rfl ?_
    obtain ⟨q2, h⟩ := h
    refine x_iast dX8_owns_83 (gA_60 hg) q2 ?_
    refine x_iload dX8_owns_84 rfl ?_
    exact x_iret (S := []) dX8_owns_86 rfl rfl ⟨_, rfl, rfl, h⟩
  · replace h := itF q1 h
    refine x_iload dX8_owns_21 rfl ?_
    refine x_iload dX8_owns_23 rfl ?_
    refine x_callS (Y2 := mX8_has) (as := [.int l5, .int l7]) (S := []) (kc2 := 0) (ks2 := 0) st_mX8_has dX8_owns_25 lk_X8_118 mo_mX8_has rfl rfl (Nat.le_of_ble_eq_true rfl) (Or.inl rfl) rfl rfl h ?_
    rintro _ _ σ1 ⟨v1, rfl, rfl, h⟩
    change zX _ _ 0 0 28 _ [.int v1] _ _ _
    refine x_iload dX8_owns_28 rfl ?_
    refine x_icmp_eq (tgt := 36) dX8_owns_30 rfl (fun q2 => ?_) (fun q2 => ?_)
    · replace h := itT q2 h
      refine x_aload_n dX8_owns_36 rfl ?_
      refine x_getR dX8_owns_37 fl_X8_16 (gA_57 hg) rfl (gA_57_4 hg) ?_
      refine x_iload_n dX8_owns_40 rfl ?_
      refine x_iload dX8_owns_41 rfl ?_
      refine x_iconst (v := 1) dX8_owns_43 rfl ?_
      refine x_iload dX8_owns_44 rfl ?_
      refine x_ishl dX8_owns_46 ?_
      refine x_ixor dX8_owns_47 ?_
      obtain ⟨q3, h⟩ := h
      refine x_iast dX8_owns_48 (gA_60 hg) q3 ?_
      refine x_aload_n dX8_owns_49 rfl ?_
      refine x_iload_n dX8_owns_50 rfl ?_
      refine x_iload_n dX8_owns_51 rfl ?_
      refine x_iload_n dX8_owns_52 rfl ?_
      refine x_callV (Y2 := mX8_isSo) (as := [.int l1, .int l2, .int l3]) (S := []) (kc2 := 0) (ks2 := 0) mv_mX8_isSo (Or.inl ⟨8, _, rfl, rfl, (gA_57 hg)⟩) dX8_owns_53 lk_X8_283 mo_mX8_isSo rfl rfl (Nat.le_of_ble_eq_true rfl) (Or.inl rfl) rfl rfl h ?_
      rintro _ _ σ2 ⟨v2, rfl, rfl, h⟩
      change zX _ _ 0 0 56 _ [.int v2] _ _ _
      refine x_iload dX8_owns_56 rfl ?_
      refine x_icmp_eq (tgt := 70) dX8_owns_58 rfl (fun q4 => ?_) (fun q4 => ?_)
      · replace h := itT q4 h
        refine x_iinc dX8_owns_70 rfl (v := l7 + 1) rfl rfl (Nat.le_of_ble_eq_true rfl) (L2 := [_, _, _, _, _, _, _, _]) rfl ?_
        refine x_goto (tgt := 14) dX8_owns_73 rfl ?_
        exact h
      · replace h := itF q4 h
        refine x_iload dX8_owns_61 rfl ?_
        refine x_iconst (v := 1) dX8_owns_63 rfl ?_
        refine x_iload dX8_owns_64 rfl ?_
        refine x_ishl dX8_owns_66 ?_
        refine x_ior dX8_owns_67 ?_
        refine x_istore dX8_owns_68 rfl (Nat.le_of_ble_eq_true rfl) (L2 := [_, _, _, _, _, _, _, _]) rfl ?_
        refine x_iinc dX8_owns_70 rfl (v := l7 + 1) rfl rfl (Nat.le_of_ble_eq_true rfl) (L2 := [_, _, _, _, _, _, _, _]) rfl ?_
        refine x_goto (tgt := 14) dX8_owns_73 rfl ?_
        exact h
    · replace h := itF q2 h
      refine x_goto (tgt := 70) dX8_owns_33 rfl ?_
      refine x_iinc dX8_owns_70 rfl (v := l7 + 1) rfl rfl (Nat.le_of_ble_eq_true rfl) (L2 := [_, _, _, _, _, _, _, _]) rfl ?_
      refine x_goto (tgt := 14) dX8_owns_73 rfl ?_
      exact h
abbrev p_X8_film_93 (d : Nat) (g : zG) (K : Int32 → zI → Prop) (σ : zI) (l1 : Int32) (l3 : Int32) (l5 : Int32) (l6 : Int32) : Prop := zX mX8_film (d + 1) 0 0 93 [.ref 57, .int l1, .retAddr 0, .int l3, .retAddr 0, .int l5, .int l6] [] g σ (zqI g K)
set_option maxRecDepth 20000 in
theorem s_X8_film {d : Nat} {g : zG} {σ : zI} {K : Int32 → zI → Prop} (hg : zGA g) {l1 : Int32} {l2 : Int32} {l3 : Int32} {l4 : Int32} (h : zCI mX8_isSheet d [.int l1] g σ (fun v1 σ1 => (if (v1 = 0 : Prop) then K (-2) σ1 else (if (l2 < 0 : Prop) then K (-2) σ1 else zCI mX8_areTwo d [.ref 57, .int (l2 / 10), .int (l2 - l2 / 10 * 10)] g σ1 (fun v2 σ2 => (if (v2 = 0 : Prop) then K (-2) σ2 else zCI mX8_isSum d [.int l3] g σ2 (fun v3 σ3 => (if (v3 = 0 : Prop) then K (-2) σ3 else zCI mX8_within d [.int l4, .int 0, .int 20] g σ3 (fun v4 σ4 => (if (v4 = 0 : Prop) then K (-2) σ4 else (if ((100 - l3) ≤ l4 : Prop) then zCV mX8_sums d [.ref 57, .int (l2 / 10), .int (l2 - l2 / 10 * 10)] g σ4 (fun σ5 => zCI mX8_sheet d [.ref 57, .int l1, .int 1, .int (2 * (100 - l3))] g σ5 (fun v5 σ6 => p_X8_film_93 d g K σ6 l1 l3 (100 - l3) 0)) else zCV mX8_sums d [.ref 57, .int (l2 / 10), .int (l2 - l2 / 10 * 10)] g σ4 (fun σ5 => zCI mX8_sheet d [.ref 57, .int l1, .int 1, .int (2 * l4)] g σ5 (fun v5 σ6 => p_X8_film_93 d g K σ6 l1 l3 l4 0))))))))))))) : zCI mX8_film (d + 1) [.ref 57, .int l1, .int l2, .int l3, .int l4] g σ K := by
  refine c_of_x pn_mX8_film rfl (Nat.le_of_ble_eq_true rfl) ?_
  change zX _ _ 0 0 0 [.ref 57, .int l1, .int l2, .int l3, .int l4] [] g σ _
  refine x_iload_n dX8_film_0 rfl ?_
  refine x_callS (Y2 := mX8_isSheet) (as := [.int l1]) (S := []) (kc2 := 0) (ks2 := 0) st_mX8_isSheet dX8_film_1 lk_X8_267 mo_mX8_isSheet rfl rfl (Nat.le_of_ble_eq_true rfl) (Or.inl rfl) rfl rfl h ?_
  rintro _ _ σ1 ⟨v1, rfl, rfl, h⟩
  change zX _ _ 0 0 4 _ [.int v1] _ _ _
  refine x_if_eq (tgt := 44) dX8_film_4 rfl (fun q1 => ?_) (fun q1 => ?_)
  · replace h := itT q1 h
    refine x_bipush (v := (-2)) dX8_film_44 rfl ?_
    exact x_iret (S := []) dX8_film_46 rfl rfl ⟨_, rfl, rfl, h⟩
  · replace h := itF q1 h
    refine x_iload_n dX8_film_7 rfl ?_
    refine x_if_lt (tgt := 44) dX8_film_8 rfl (fun q2 => ?_) (fun q2 => ?_)
    · replace h := itT q2 h
      refine x_bipush (v := (-2)) dX8_film_44 rfl ?_
      exact x_iret (S := []) dX8_film_46 rfl rfl ⟨_, rfl, rfl, h⟩
    · replace h := itF q2 h
      refine x_aload_n dX8_film_11 rfl ?_
      refine x_iload_n dX8_film_12 rfl ?_
      refine x_bipush (v := 10) dX8_film_13 rfl ?_
      refine x_idiv dX8_film_15 (by decide) ?_
      refine x_iload_n dX8_film_16 rfl ?_
      refine x_bipush (v := 10) dX8_film_17 rfl ?_
      refine x_irem dX8_film_19 (by decide) ?_
      refine x_callV (Y2 := mX8_areTwo) (as := [.int (l2 / 10), .int (l2 - l2 / 10 * 10)]) (S := []) (kc2 := 0) (ks2 := 0) mv_mX8_areTwo (Or.inl ⟨8, _, rfl, rfl, (gA_57 hg)⟩) dX8_film_20 lk_X8_112 mo_mX8_areTwo rfl rfl (Nat.le_of_ble_eq_true rfl) (Or.inl rfl) rfl rfl h ?_
      rintro _ _ σ2 ⟨v2, rfl, rfl, h⟩
      change zX _ _ 0 0 23 _ [.int v2] _ _ _
      refine x_if_eq (tgt := 44) dX8_film_23 rfl (fun q3 => ?_) (fun q3 => ?_)
      · replace h := itT q3 h
        refine x_bipush (v := (-2)) dX8_film_44 rfl ?_
        exact x_iret (S := []) dX8_film_46 rfl rfl ⟨_, rfl, rfl, h⟩
      · replace h := itF q3 h
        refine x_iload_n dX8_film_26 rfl ?_
        refine x_callS (Y2 := mX8_isSum) (as := [.int l3]) (S := []) (kc2 := 0) (ks2 := 0) st_mX8_isSum dX8_film_27 lk_X8_233 mo_mX8_isSum rfl rfl (Nat.le_of_ble_eq_true rfl) (Or.inl rfl) rfl rfl h ?_
        rintro _ _ σ3 ⟨v3, rfl, rfl, h⟩
        change zX _ _ 0 0 30 _ [.int v3] _ _ _
        refine x_if_eq (tgt := 44) dX8_film_30 rfl (fun q4 => ?_) (fun q4 => ?_)
        · replace h := itT q4 h
          refine x_bipush (v := (-2)) dX8_film_44 rfl ?_
          exact x_iret (S := []) dX8_film_46 rfl rfl ⟨_, rfl, rfl, h⟩
        · replace h := itF q4 h
          refine x_iload dX8_film_33 rfl ?_
          refine x_iconst (v := 0) dX8_film_35 rfl ?_
          refine x_bipush (v := 20) dX8_film_36 rfl ?_
          refine x_callS (Y2 := mX8_within) (as := [.int l4, .int 0, .int 20]) (S := []) (kc2 := 0) (ks2 := 0) st_mX8_within dX8_film_38 lk_X8_85 mo_mX8_within rfl rfl (Nat.le_of_ble_eq_true rfl) (Or.inl rfl) rfl rfl h ?_
          rintro _ _ σ4 ⟨v4, rfl, rfl, h⟩
          change zX _ _ 0 0 41 _ [.int v4] _ _ _
          refine x_if_ne (tgt := 47) dX8_film_41 rfl (fun q5 => ?_) (fun q5 => ?_)
          · replace h := itF q5 h
            refine x_iload dX8_film_47 rfl ?_
            refine x_bipush (v := 100) dX8_film_49 rfl ?_
            refine x_iload_n dX8_film_51 rfl ?_
            refine x_isub dX8_film_52 ?_
            refine x_icmp_ge (tgt := 61) dX8_film_53 rfl (fun q6 => ?_) (fun q6 => ?_)
            · replace h := itT q6 h
              refine x_bipush (v := 100) dX8_film_61 rfl ?_
              refine x_iload_n dX8_film_63 rfl ?_
              refine x_isub dX8_film_64 ?_
              refine x_istore dX8_film_65 rfl (Nat.le_of_ble_eq_true rfl) (L2 := [_, _, _, _, _, _]) rfl ?_
              refine x_aload_n dX8_film_67 rfl ?_
              refine x_iload_n dX8_film_68 rfl ?_
              refine x_bipush (v := 10) dX8_film_69 rfl ?_
              refine x_idiv dX8_film_71 (by decide) ?_
              refine x_iload_n dX8_film_72 rfl ?_
              refine x_bipush (v := 10) dX8_film_73 rfl ?_
              refine x_irem dX8_film_75 (by decide) ?_
              refine x_callV (Y2 := mX8_sums) (as := [.int (l2 / 10), .int (l2 - l2 / 10 * 10)]) (S := []) (kc2 := 0) (ks2 := 0) mv_mX8_sums (Or.inl ⟨8, _, rfl, rfl, (gA_57 hg)⟩) dX8_film_76 lk_X8_245 mo_mX8_sums rfl rfl (Nat.le_of_ble_eq_true rfl) (Or.inl rfl) rfl rfl h ?_
              rintro _ _ σ5 ⟨rfl, rfl, h⟩
              change zX _ _ 0 0 79 _ [] _ _ _
              refine x_aload_n dX8_film_79 rfl ?_
              refine x_iload_n dX8_film_80 rfl ?_
              refine x_iconst (v := 1) dX8_film_81 rfl ?_
              refine x_iconst (v := 2) dX8_film_82 rfl ?_
              refine x_iload dX8_film_83 rfl ?_
              refine x_imul dX8_film_85 ?_
              refine x_callV (Y2 := mX8_sheet) (as := [.int l1, .int 1, .int (2 * (100 - l3))]) (S := []) (kc2 := 0) (ks2 := 0) mv_mX8_sheet (Or.inl ⟨8, _, rfl, rfl, (gA_57 hg)⟩) dX8_film_86 lk_X8_286 mo_mX8_sheet rfl rfl (Nat.le_of_ble_eq_true rfl) (Or.inl rfl) rfl rfl h ?_
              rintro _ _ σ6 ⟨v5, rfl, rfl, h⟩
              change zX _ _ 0 0 89 _ [.int v5] _ _ _
              refine x_pop dX8_film_89 rfl ?_
              refine x_iconst (v := 0) dX8_film_90 rfl ?_
              refine x_istore dX8_film_91 rfl (Nat.le_of_ble_eq_true rfl) (L2 := [_, _, _, _, _, _, _]) rfl ?_
              exact x_wk (wC (wC (wJ (wC (wJ (wC (wC (wN _)))))))) h
            · replace h := itF q6 h
              refine x_iload dX8_film_56 rfl ?_
              refine x_goto (tgt := 65) dX8_film_58 rfl ?_
              refine x_istore dX8_film_65 rfl (Nat.le_of_ble_eq_true rfl) (L2 := [_, _, _, _, _, _]) rfl ?_
              refine x_aload_n dX8_film_67 rfl ?_
              refine x_iload_n dX8_film_68 rfl ?_
              refine x_bipush (v := 10) dX8_film_69 rfl ?_
              refine x_idiv dX8_film_71 (by decide) ?_
              refine x_iload_n dX8_film_72 rfl ?_
              refine x_bipush (v := 10) dX8_film_73 rfl ?_
              refine x_irem dX8_film_75 (by decide) ?_
              refine x_callV (Y2 := mX8_sums) (as := [.int (l2 / 10), .int (l2 - l2 / 10 * 10)]) (S := []) (kc2 := 0) (ks2 := 0) mv_mX8_sums (Or.inl ⟨8, _, rfl, rfl, (gA_57 hg)⟩) dX8_film_76 lk_X8_245 mo_mX8_sums rfl rfl (Nat.le_of_ble_eq_true rfl) (Or.inl rfl) rfl rfl h ?_
              rintro _ _ σ5 ⟨rfl, rfl, h⟩
              change zX _ _ 0 0 79 _ [] _ _ _
              refine x_aload_n dX8_film_79 rfl ?_
              refine x_iload_n dX8_film_80 rfl ?_
              refine x_iconst (v := 1) dX8_film_81 rfl ?_
              refine x_iconst (v := 2) dX8_film_82 rfl ?_
              refine x_iload dX8_film_83 rfl ?_
              refine x_imul dX8_film_85 ?_
              refine x_callV (Y2 := mX8_sheet) (as := [.int l1, .int 1, .int (2 * l4)]) (S := []) (kc2 := 0) (ks2 := 0) mv_mX8_sheet (Or.inl ⟨8, _, rfl, rfl, (gA_57 hg)⟩) dX8_film_86 lk_X8_286 mo_mX8_sheet rfl rfl (Nat.le_of_ble_eq_true rfl) (Or.inl rfl) rfl rfl h ?_
              rintro _ _ σ6 ⟨v5, rfl, rfl, h⟩
              change zX _ _ 0 0 89 _ [.int v5] _ _ _
              refine x_pop dX8_film_89 rfl ?_
              refine x_iconst (v := 0) dX8_film_90 rfl ?_
              refine x_istore dX8_film_91 rfl (Nat.le_of_ble_eq_true rfl) (L2 := [_, _, _, _, _, _, _]) rfl ?_
              exact x_wk (wC (wC (wJ (wC (wJ (wC (wC (wN _)))))))) h
          · replace h := itT q5 h
            refine x_bipush (v := (-2)) dX8_film_44 rfl ?_
            exact x_iret (S := []) dX8_film_46 rfl rfl ⟨_, rfl, rfl, h⟩
set_option maxRecDepth 20000 in
theorem s_X8_film_93 {d : Nat} {g : zG} {σ : zI} {K : Int32 → zI → Prop} (hg : zGA g) {l1 : Int32} {l3 : Int32} {l5 : Int32} {l6 : Int32} (h : (if (l5 ≤ l6 : Prop) then K l5 σ else vp_in ((40 * l1) + (2 * l6)) 160 ∧ vp_in (l3 + l6) 100 ∧ vp_in (((40 * l1) + (2 * l6)) + 1) 160 ∧ p_X8_film_93 d g K (zsI (zsI σ 77 (((40 * l1) + (2 * l6) : Int32).toNatClampNeg) (l3 + l6)) 77 ((((40 * l1) + (2 * l6)) + 1 : Int32).toNatClampNeg) ((σ 68 ((l3 + l6 : Int32).toNatClampNeg) : Int32).toInt16.toInt32)) l1 l3 l5 (l6 + 1))) : p_X8_film_93 d g K σ l1 l3 l5 l6 := by
  refine x_iload dX8_film_93 rfl ?_
  refine x_iload dX8_film_95 rfl ?_
  refine x_icmp_ge (tgt := 150) dX8_film_97 rfl (fun q1 => ?_) (fun q1 => ?_)
  · replace h := itT q1 h
    refine x_iload dX8_film_150 rfl ?_
    exact x_iret (S := []) dX8_film_152 rfl rfl ⟨_, rfl, rfl, h⟩
  · replace h := itF q1 h
    refine x_aload_n dX8_film_100 rfl ?_
    refine x_getR dX8_film_101 fl_X8_68 (gA_57 hg) rfl (gA_57_37 hg) ?_
    refine x_bipush (v := 40) dX8_film_104 rfl ?_
    refine x_iload_n dX8_film_106 rfl ?_
    refine x_imul dX8_film_107 ?_
    refine x_iconst (v := 2) dX8_film_108 rfl ?_
    refine x_iload dX8_film_109 rfl ?_
    refine x_imul dX8_film_111 ?_
    refine x_iadd dX8_film_112 ?_
    refine x_iload_n dX8_film_113 rfl ?_
    refine x_iload dX8_film_114 rfl ?_
    refine x_iadd dX8_film_116 ?_
    obtain ⟨q2, h⟩ := h
    refine x_iast dX8_film_117 (gA_77 hg) q2 ?_
    refine x_aload_n dX8_film_118 rfl ?_
    refine x_getR dX8_film_119 fl_X8_68 (gA_57 hg) rfl (gA_57_37 hg) ?_
    refine x_bipush (v := 40) dX8_film_122 rfl ?_
    refine x_iload_n dX8_film_124 rfl ?_
    refine x_imul dX8_film_125 ?_
    refine x_iconst (v := 2) dX8_film_126 rfl ?_
    refine x_iload dX8_film_127 rfl ?_
    refine x_imul dX8_film_129 ?_
    refine x_iadd dX8_film_130 ?_
    refine x_iconst (v := 1) dX8_film_131 rfl ?_
    refine x_iadd dX8_film_132 ?_
    refine x_aload_n dX8_film_133 rfl ?_
    refine x_getR dX8_film_134 fl_X8_40 (gA_57 hg) rfl (gA_57_26 hg) ?_
    refine x_iload_n dX8_film_137 rfl ?_
    refine x_iload dX8_film_138 rfl ?_
    refine x_iadd dX8_film_140 ?_
    obtain ⟨q3, h⟩ := h
    refine x_iald dX8_film_141 (gA_68 hg) q3 ?_
    refine x_i2s dX8_film_142 ?_
    obtain ⟨q4, h⟩ := h
    refine x_iast dX8_film_143 (gA_77 hg) q4 ?_
    refine x_iinc dX8_film_144 rfl (v := l6 + 1) rfl rfl (Nat.le_of_ble_eq_true rfl) (L2 := [_, _, _, _, _, _, _]) rfl ?_
    refine x_goto (tgt := 93) dX8_film_147 rfl ?_
    exact h
abbrev p_X8_sheet_30 (d : Nat) (g : zG) (K : Int32 → zI → Prop) (σ : zI) (l1 : Int32) (l2 : Int32) (l3 : Int32) : Prop := zX mX8_sheet (d + 1) 0 0 30 [.ref 57, .int l1, .int l2, .int l3] [] g σ (zqI g K)
abbrev p_X8_sheet_68 (d : Nat) (g : zG) (K : Int32 → zI → Prop) (σ : zI) (l1 : Int32) (l4 : Int32) : Prop := zX mX8_sheet (d + 1) 0 0 68 [.ref 57, .int l1, .retAddr 0, .retAddr 0, .int l4] [] g σ (zqI g K)
set_option maxRecDepth 20000 in
theorem s_X8_sheet {d : Nat} {g : zG} {σ : zI} {K : Int32 → zI → Prop} (hg : zGA g) {l1 : Int32} {l2 : Int32} {l3 : Int32} (h : zCI mX8_isSheet d [.int l1] g σ (fun v1 σ1 => (if (v1 = 0 : Prop) then K (-2) σ1 else zCI mX8_within d [.int l2, .int (-1), .int 2] g σ1 (fun v2 σ2 => (if (v2 = 0 : Prop) then K (-2) σ2 else (if (l2 < 0 : Prop) then p_X8_sheet_30 d g K σ2 l1 l2 l3 else (if (0 ≤ l3 : Prop) then p_X8_sheet_30 d g K σ2 l1 l2 l3 else K (-14) σ2))))))) : zCI mX8_sheet (d + 1) [.ref 57, .int l1, .int l2, .int l3] g σ K := by
  refine c_of_x pn_mX8_sheet rfl (Nat.le_of_ble_eq_true rfl) ?_
  change zX _ _ 0 0 0 [.ref 57, .int l1, .int l2, .int l3] [] g σ _
  refine x_iload_n dX8_sheet_0 rfl ?_
  refine x_callS (Y2 := mX8_isSheet) (as := [.int l1]) (S := []) (kc2 := 0) (ks2 := 0) st_mX8_isSheet dX8_sheet_1 lk_X8_267 mo_mX8_isSheet rfl rfl (Nat.le_of_ble_eq_true rfl) (Or.inl rfl) rfl rfl h ?_
  rintro _ _ σ1 ⟨v1, rfl, rfl, h⟩
  change zX _ _ 0 0 4 _ [.int v1] _ _ _
  refine x_if_eq (tgt := 16) dX8_sheet_4 rfl (fun q1 => ?_) (fun q1 => ?_)
  · replace h := itT q1 h
    refine x_bipush (v := (-2)) dX8_sheet_16 rfl ?_
    exact x_iret (S := []) dX8_sheet_18 rfl rfl ⟨_, rfl, rfl, h⟩
  · replace h := itF q1 h
    refine x_iload_n dX8_sheet_7 rfl ?_
    refine x_iconst (v := (-1)) dX8_sheet_8 rfl ?_
    refine x_iconst (v := 2) dX8_sheet_9 rfl ?_
    refine x_callS (Y2 := mX8_within) (as := [.int l2, .int (-1), .int 2]) (S := []) (kc2 := 0) (ks2 := 0) st_mX8_within dX8_sheet_10 lk_X8_85 mo_mX8_within rfl rfl (Nat.le_of_ble_eq_true rfl) (Or.inl rfl) rfl rfl h ?_
    rintro _ _ σ2 ⟨v2, rfl, rfl, h⟩
    change zX _ _ 0 0 13 _ [.int v2] _ _ _
    refine x_if_ne (tgt := 19) dX8_sheet_13 rfl (fun q2 => ?_) (fun q2 => ?_)
    · replace h := itF q2 h
      refine x_iload_n dX8_sheet_19 rfl ?_
      refine x_if_lt (tgt := 30) dX8_sheet_20 rfl (fun q3 => ?_) (fun q3 => ?_)
      · replace h := itT q3 h
        exact h
      · replace h := itF q3 h
        refine x_iload_n dX8_sheet_23 rfl ?_
        refine x_if_ge (tgt := 30) dX8_sheet_24 rfl (fun q4 => ?_) (fun q4 => ?_)
        · replace h := itT q4 h
          exact h
        · replace h := itF q4 h
          refine x_bipush (v := (-14)) dX8_sheet_27 rfl ?_
          exact x_iret (S := []) dX8_sheet_29 rfl rfl ⟨_, rfl, rfl, h⟩
    · replace h := itT q2 h
      refine x_bipush (v := (-2)) dX8_sheet_16 rfl ?_
      exact x_iret (S := []) dX8_sheet_18 rfl rfl ⟨_, rfl, rfl, h⟩
set_option maxRecDepth 20000 in
theorem s_X8_sheet_30 {d : Nat} {g : zG} {σ : zI} {K : Int32 → zI → Prop} (hg : zGA g) {l1 : Int32} {l2 : Int32} {l3 : Int32} (h : (if (l2 < 0 : Prop) then vp_in l1 4 ∧ (if (0 ≤ l2 : Prop) then vp_in l1 4 ∧ p_X8_sheet_68 d g K (zsI (zsI σ 75 l1.toNatClampNeg l2) 76 l1.toNatClampNeg l3) l1 0 else vp_in l1 4 ∧ p_X8_sheet_68 d g K (zsI (zsI σ 75 l1.toNatClampNeg l2) 76 l1.toNatClampNeg 0) l1 0) else (if (l3 ≤ 40 : Prop) then vp_in l1 4 ∧ (if (0 ≤ l2 : Prop) then vp_in l1 4 ∧ p_X8_sheet_68 d g K (zsI (zsI σ 75 l1.toNatClampNeg l2) 76 l1.toNatClampNeg l3) l1 0 else vp_in l1 4 ∧ p_X8_sheet_68 d g K (zsI (zsI σ 75 l1.toNatClampNeg l2) 76 l1.toNatClampNeg 0) l1 0) else K (-2) σ))) : p_X8_sheet_30 d g K σ l1 l2 l3 := by
  refine x_iload_n dX8_sheet_30 rfl ?_
  refine x_if_lt (tgt := 43) dX8_sheet_31 rfl (fun q1 => ?_) (fun q1 => ?_)
  · replace h := itT q1 h
    refine x_aload_n dX8_sheet_43 rfl ?_
    refine x_getR dX8_sheet_44 fl_X8_62 (gA_57 hg) rfl (gA_57_35 hg) ?_
    refine x_iload_n dX8_sheet_47 rfl ?_
    refine x_iload_n dX8_sheet_48 rfl ?_
    obtain ⟨q2, h⟩ := h
    refine x_iast dX8_sheet_49 (gA_75 hg) q2 ?_
    refine x_aload_n dX8_sheet_50 rfl ?_
    refine x_getR dX8_sheet_51 fl_X8_65 (gA_57 hg) rfl (gA_57_36 hg) ?_
    refine x_iload_n dX8_sheet_54 rfl ?_
    refine x_iload_n dX8_sheet_55 rfl ?_
    refine x_if_ge (tgt := 63) dX8_sheet_56 rfl (fun q3 => ?_) (fun q3 => ?_)
    · replace h := itT q3 h
      refine x_iload_n dX8_sheet_63 rfl ?_
      obtain ⟨q4, h⟩ := h
      refine x_iast dX8_sheet_64 (gA_76 hg) q4 ?_
      refine x_iconst (v := 0) dX8_sheet_65 rfl ?_
      refine x_istore dX8_sheet_66 rfl (Nat.le_of_ble_eq_true rfl) (L2 := [_, _, _, _, _]) rfl ?_
      exact x_wk (wC (wC (wJ (wJ (wC (wN _)))))) h
    · replace h := itF q3 h
      refine x_iconst (v := 0) dX8_sheet_59 rfl ?_
      refine x_goto (tgt := 64) dX8_sheet_60 rfl ?_
      obtain ⟨q4, h⟩ := h
      refine x_iast dX8_sheet_64 (gA_76 hg) q4 ?_
      refine x_iconst (v := 0) dX8_sheet_65 rfl ?_
      refine x_istore dX8_sheet_66 rfl (Nat.le_of_ble_eq_true rfl) (L2 := [_, _, _, _, _]) rfl ?_
      exact x_wk (wC (wC (wJ (wJ (wC (wN _)))))) h
  · replace h := itF q1 h
    refine x_iload_n dX8_sheet_34 rfl ?_
    refine x_bipush (v := 40) dX8_sheet_35 rfl ?_
    refine x_icmp_le (tgt := 43) dX8_sheet_37 rfl (fun q2 => ?_) (fun q2 => ?_)
    · replace h := itT q2 h
      refine x_aload_n dX8_sheet_43 rfl ?_
      refine x_getR dX8_sheet_44 fl_X8_62 (gA_57 hg) rfl (gA_57_35 hg) ?_
      refine x_iload_n dX8_sheet_47 rfl ?_
      refine x_iload_n dX8_sheet_48 rfl ?_
      obtain ⟨q3, h⟩ := h
      refine x_iast dX8_sheet_49 (gA_75 hg) q3 ?_
      refine x_aload_n dX8_sheet_50 rfl ?_
      refine x_getR dX8_sheet_51 fl_X8_65 (gA_57 hg) rfl (gA_57_36 hg) ?_
      refine x_iload_n dX8_sheet_54 rfl ?_
      refine x_iload_n dX8_sheet_55 rfl ?_
      refine x_if_ge (tgt := 63) dX8_sheet_56 rfl (fun q4 => ?_) (fun q4 => ?_)
      · replace h := itT q4 h
        refine x_iload_n dX8_sheet_63 rfl ?_
        obtain ⟨q5, h⟩ := h
        refine x_iast dX8_sheet_64 (gA_76 hg) q5 ?_
        refine x_iconst (v := 0) dX8_sheet_65 rfl ?_
        refine x_istore dX8_sheet_66 rfl (Nat.le_of_ble_eq_true rfl) (L2 := [_, _, _, _, _]) rfl ?_
        exact x_wk (wC (wC (wJ (wJ (wC (wN _)))))) h
      · replace h := itF q4 h
        refine x_iconst (v := 0) dX8_sheet_59 rfl ?_
        refine x_goto (tgt := 64) dX8_sheet_60 rfl ?_
        obtain ⟨q5, h⟩ := h
        refine x_iast dX8_sheet_64 (gA_76 hg) q5 ?_
        refine x_iconst (v := 0) dX8_sheet_65 rfl ?_
        refine x_istore dX8_sheet_66 rfl (Nat.le_of_ble_eq_true rfl) (L2 := [_, _, _, _, _]) rfl ?_
        exact x_wk (wC (wC (wJ (wJ (wC (wN _)))))) h
    · replace h := itF q2 h
      refine x_bipush (v := (-2)) dX8_sheet_40 rfl ?_
      exact x_iret (S := []) dX8_sheet_42 rfl rfl ⟨_, rfl, rfl, h⟩
set_option maxRecDepth 20000 in
theorem s_X8_sheet_68 {d : Nat} {g : zG} {σ : zI} {K : Int32 → zI → Prop} (hg : zGA g) {l1 : Int32} {l4 : Int32} (h : (if (40 ≤ l4 : Prop) then K 1 σ else vp_in ((40 * l1) + l4) 160 ∧ p_X8_sheet_68 d g K (zsI σ 77 (((40 * l1) + l4 : Int32).toNatClampNeg) 0) l1 (l4 + 1))) : p_X8_sheet_68 d g K σ l1 l4 := by
  refine x_iload dX8_sheet_68 rfl ?_
  refine x_bipush (v := 40) dX8_sheet_70 rfl ?_
  refine x_icmp_ge (tgt := 94) dX8_sheet_72 rfl (fun q1 => ?_) (fun q1 => ?_)
  · replace h := itT q1 h
    refine x_iconst (v := 1) dX8_sheet_94 rfl ?_
    exact x_iret (S := []) dX8_sheet_95 rfl rfl ⟨_, rfl, rfl, h⟩
  · replace h := itF q1 h
    refine x_aload_n dX8_sheet_75 rfl ?_
    refine x_getR dX8_sheet_76 fl_X8_68 (gA_57 hg) rfl (gA_57_37 hg) ?_
    refine x_bipush (v := 40) dX8_sheet_79 rfl ?_
    refine x_iload_n dX8_sheet_81 rfl ?_
    refine x_imul dX8_sheet_82 ?_
    refine x_iload dX8_sheet_83 rfl ?_
    refine x_iadd dX8_sheet_85 ?_
    refine x_iconst (v := 0) dX8_sheet_86 rfl ?_
    obtain ⟨q2, h⟩ := h
    refine x_iast dX8_sheet_87 (gA_77 hg) q2 ?_
    refine x_iinc dX8_sheet_88 rfl (v := l4 + 1) rfl rfl (Nat.le_of_ble_eq_true rfl) (L2 := [_, _, _, _, _]) rfl ?_
    refine x_goto (tgt := 68) dX8_sheet_91 rfl ?_
    exact h
set_option maxRecDepth 20000 in
theorem s_X8_drawn {d : Nat} {g : zG} {σ : zI} {K : Int32 → zI → Prop} (hg : zGA g) {l1 : Int32} (h : (if (2 ≤ (σ 57 1) : Prop) then zCI mX8_draw d [.ref 57, .int l1] g σ (fun v1 σ1 => K v1 σ1) else K (-3) σ)) : zCI mX8_drawn (d + 1) [.ref 57, .int l1] g σ K := by
  refine c_of_x pn_mX8_drawn rfl (Nat.le_of_ble_eq_true rfl) ?_
  change zX _ _ 0 0 0 [.ref 57, .int l1] [] g σ _
  refine x_aload_n dX8_drawn_0 rfl ?_
  refine x_getI dX8_drawn_1 fl_X8_82 (gA_57 hg) rfl ?_
  refine x_iconst (v := 2) dX8_drawn_4 rfl ?_
  refine x_icmp_ge (tgt := 13) dX8_drawn_5 rfl (fun q1 => ?_) (fun q1 => ?_)
  · replace h := itT q1 h
    refine x_aload_n dX8_drawn_13 rfl ?_
    refine x_iload_n dX8_drawn_14 rfl ?_
    refine x_callV (Y2 := mX8_draw) (as := [.int l1]) (S := []) (kc2 := 0) (ks2 := 0) mv_mX8_draw (Or.inl ⟨8, _, rfl, rfl, (gA_57 hg)⟩) dX8_drawn_15 lk_X8_293 mo_mX8_draw rfl rfl (Nat.le_of_ble_eq_true rfl) (Or.inl rfl) rfl rfl h ?_
    rintro _ _ σ1 ⟨v1, rfl, rfl, h⟩
    change zX _ _ 0 0 18 _ [.int v1] _ _ _
    exact x_iret (S := []) dX8_drawn_18 rfl rfl ⟨_, rfl, rfl, h⟩
  · replace h := itF q1 h
    refine x_bipush (v := (-3)) dX8_drawn_8 rfl ?_
    refine x_goto (tgt := 18) dX8_drawn_10 rfl ?_
    exact x_iret (S := []) dX8_drawn_18 rfl rfl ⟨_, rfl, rfl, h⟩
abbrev p_X8_draw_8 (d : Nat) (g : zG) (K : Int32 → zI → Prop) (σ : zI) (l2 : Int32) (l3 : Int32) : Prop := zX mX8_draw (d + 1) 0 0 8 [.ref 57, .retAddr 0, .int l2, .int l3] [] g σ (zqI g K)
abbrev p_X8_draw_85 (d : Nat) (g : zG) (K : Int32 → zI → Prop) (σ : zI) (l3 : Int32) (l4 : Int32) : Prop := zX mX8_draw (d + 1) 0 0 85 [.ref 57, .retAddr 0, .retAddr 0, .int l3, .int l4] [] g σ (zqI g K)
set_option maxRecDepth 20000 in
theorem s_X8_draw {d : Nat} {g : zG} {σ : zI} {K : Int32 → zI → Prop} (hg : zGA g) {l1 : Int32} (h : zCV mX8_keep d [.ref 57] g σ (fun σ1 => p_X8_draw_8 d g K σ1 l1 0)) : zCI mX8_draw (d + 1) [.ref 57, .int l1] g σ K := by
  refine c_of_x pn_mX8_draw rfl (Nat.le_of_ble_eq_true rfl) ?_
  change zX _ _ 0 0 0 [.ref 57, .int l1] [] g σ _
  refine x_iload_n dX8_draw_0 rfl ?_
  refine x_istore_n dX8_draw_1 rfl (Nat.le_of_ble_eq_true rfl) (L2 := [_, _, _]) rfl ?_
  refine x_aload_n dX8_draw_2 rfl ?_
  refine x_callV (Y2 := mX8_keep) (as := []) (S := []) (kc2 := 0) (ks2 := 0) mv_mX8_keep (Or.inl ⟨8, _, rfl, rfl, (gA_57 hg)⟩) dX8_draw_3 lk_X8_289 mo_mX8_keep rfl rfl (Nat.le_of_ble_eq_true rfl) (Or.inl rfl) rfl rfl h ?_
  rintro _ _ σ1 ⟨rfl, rfl, h⟩
  change zX _ _ 0 0 6 _ [] _ _ _
  refine x_iconst (v := 0) dX8_draw_6 rfl ?_
  refine x_istore_n dX8_draw_7 rfl (Nat.le_of_ble_eq_true rfl) (L2 := [_, _, _, _]) rfl ?_
  exact x_wk (wC (wJ (wC (wC (wN _))))) h
set_option maxRecDepth 20000 in
theorem s_X8_draw_8 {d : Nat} {g : zG} {σ : zI} {K : Int32 → zI → Prop} (hg : zGA g) {l2 : Int32} {l3 : Int32} (h : (if ((σ 57 1) ≤ l3 : Prop) then zCI mX8_unpaid d [.ref 57, .int 0, .int 1] g σ (fun v1 σ1 => p_X8_draw_85 d g K σ1 (99 - v1) 0) else vp_in l3 6 ∧ p_X8_draw_8 d g K (zsI σ 60 l3.toNatClampNeg (((((((((l2 * 1103515245) + 12345) * 1103515245) + 12345 : Int32).toUInt32 >>> ((9 : Int32).toUInt32 &&& Int32.toUInt32 31)).toInt32) - ((((((l2 * 1103515245) + 12345) * 1103515245) + 12345 : Int32).toUInt32 >>> ((9 : Int32).toUInt32 &&& Int32.toUInt32 31)).toInt32) / 1024 * 1024) * 1024) + (((((l2 * 1103515245) + 12345 : Int32).toUInt32 >>> ((9 : Int32).toUInt32 &&& Int32.toUInt32 31)).toInt32) - ((((l2 * 1103515245) + 12345 : Int32).toUInt32 >>> ((9 : Int32).toUInt32 &&& Int32.toUInt32 31)).toInt32) / 1024 * 1024))) ((((l2 * 1103515245) + 12345) * 1103515245) + 12345) (l3 + 1))) : p_X8_draw_8 d g K σ l2 l3 := by
  refine x_iload_n dX8_draw_8 rfl ?_
  refine x_aload_n dX8_draw_9 rfl ?_
  refine x_getI dX8_draw_10 fl_X8_82 (gA_57 hg) rfl ?_
  refine x_icmp_ge (tgt := 72) dX8_draw_13 rfl (fun q1 => ?_) (fun q1 => ?_)
  · replace h := itT q1 h
    refine x_bipush (v := 99) dX8_draw_72 rfl ?_
    refine x_aload_n dX8_draw_74 rfl ?_
    refine x_iconst (v := 0) dX8_draw_75 rfl ?_
    refine x_iconst (v := 1) dX8_draw_76 rfl ?_
    refine x_callV (Y2 := mX8_unpaid) (as := [.int 0, .int 1]) (S := [.int 99]) (kc2 := 0) (ks2 := 0) mv_mX8_unpaid (Or.inl ⟨8, _, rfl, rfl, (gA_57 hg)⟩) dX8_draw_77 lk_X8_261 mo_mX8_unpaid rfl rfl (Nat.le_of_ble_eq_true rfl) (Or.inl rfl) rfl rfl h ?_
    rintro _ _ σ1 ⟨v1, rfl, rfl, h⟩
    change zX _ _ 0 0 80 _ [.int v1, .int 99] _ _ _
    refine x_isub dX8_draw_80 ?_
    refine x_istore_n dX8_draw_81 rfl (Nat.le_of_ble_eq_true rfl) (L2 := [_, _, _, _]) rfl ?_
    refine x_iconst (v := 0) dX8_draw_82 rfl ?_
    refine x_istore dX8_draw_83 rfl (Nat.le_of_ble_eq_true rfl) (L2 := [_, _, _, _, _]) rfl ?_
    exact x_wk (wC (wJ (wJ (wC (wC (wN _)))))) h
  · replace h := itF q1 h
    refine x_iload_n dX8_draw_16 rfl ?_
    refine x_ldcw dX8_draw_17 kc_X8_292 ?_
    refine x_imul dX8_draw_20 ?_
    refine x_sipush (v := 12345) dX8_draw_21 rfl ?_
    refine x_iadd dX8_draw_24 ?_
    refine x_istore dX8_draw_25 rfl (Nat.le_of_ble_eq_true rfl) (L2 := [_, _, _, _, _]) rfl ?_
    refine x_iload dX8_draw_27 rfl ?_
    refine x_ldcw dX8_draw_29 kc_X8_292 ?_
    refine x_imul dX8_draw_32 ?_
    refine x_sipush (v := 12345) dX8_draw_33 rfl ?_
    refine x_iadd dX8_draw_36 ?_
    refine x_istore_n dX8_draw_37 rfl (Nat.le_of_ble_eq_true rfl) (L2 := [_, _, _, _, _]) rfl ?_
    refine x_aload_n dX8_draw_38 rfl ?_
    refine x_getR dX8_draw_39 fl_X8_16 (gA_57 hg) rfl (gA_57_4 hg) ?_
    refine x_iload_n dX8_draw_42 rfl ?_
    refine x_iload_n dX8_draw_43 rfl ?_
    refine x_bipush (v := 9) dX8_draw_44 rfl ?_
    refine x_iushr dX8_draw_46 ?_
    refine x_sipush (v := 1024) dX8_draw_47 rfl ?_
    refine x_irem dX8_draw_50 (by decide) ?_
    refine x_sipush (v := 1024) dX8_draw_51 rfl ?_
    refine x_imul dX8_draw_54 ?_
    refine x_iload dX8_draw_55 rfl ?_
    refine x_bipush (v := 9) dX8_draw_57 rfl ?_
    refine x_iushr dX8_draw_59 ?_
    refine x_sipush (v := 1024) dX8_draw_60 rfl ?_
    refine x_irem dX8_draw_63 (by decide) ?_
    refine x_iadd dX8_draw_64 ?_
    obtain ⟨q2, h⟩ := h
    refine x_iast dX8_draw_65 (gA_60 hg) q2 ?_
    refine x_iinc dX8_draw_66 rfl (v := l3 + 1) rfl rfl (Nat.le_of_ble_eq_true rfl) (L2 := [_, _, _, _, _]) rfl ?_
    refine x_goto (tgt := 8) dX8_draw_69 rfl ?_
    exact x_wk (wC (wJ (wC (wC (wN _))))) h
set_option maxRecDepth 20000 in
theorem s_X8_draw_85 {d : Nat} {g : zG} {σ : zI} {K : Int32 → zI → Prop} (hg : zGA g) {l3 : Int32} {l4 : Int32} (h : (if ((σ 57 1) ≤ l4 : Prop) then K l3 σ else vp_in l4 6 ∧ vp_in l4 6 ∧ p_X8_draw_85 d g K (zsI σ 60 l4.toNatClampNeg (σ 78 l4.toNatClampNeg)) l3 (l4 + 1))) : p_X8_draw_85 d g K σ l3 l4 := by
  refine x_iload dX8_draw_85 rfl ?_
  refine x_aload_n dX8_draw_87 rfl ?_
  refine x_getI dX8_draw_88 fl_X8_82 (gA_57 hg) rfl ?_
  refine x_icmp_ge (tgt := 114) dX8_draw_91 rfl (fun q1 => ?_) (fun q1 => ?_)
  · replace h := itT q1 h
    refine x_iload_n dX8_draw_114 rfl ?_
    exact x_iret (S := []) dX8_draw_115 rfl rfl ⟨_, rfl, rfl, h⟩
  · replace h := itF q1 h
    refine x_aload_n dX8_draw_94 rfl ?_
    refine x_getR dX8_draw_95 fl_X8_16 (gA_57 hg) rfl (gA_57_4 hg) ?_
    refine x_iload dX8_draw_98 rfl ?_
    refine x_aload_n dX8_draw_100 rfl ?_
    refine x_getR dX8_draw_101 fl_X8_71 (gA_57 hg) rfl (gA_57_38 hg) ?_
    refine x_iload dX8_draw_104 rfl ?_
    obtain ⟨q2, h⟩ := h
    refine x_iald dX8_draw_106 (gA_78 hg) q2 ?_
    obtain ⟨q3, h⟩ := h
    refine x_iast dX8_draw_107 (gA_60 hg) q3 ?_
    refine x_iinc dX8_draw_108 rfl (v := l4 + 1) rfl rfl (Nat.le_of_ble_eq_true rfl) (L2 := [_, _, _, _, _]) rfl ?_
    refine x_goto (tgt := 85) dX8_draw_111 rfl ?_
    exact h
abbrev p_X8_keep_2 (d : Nat) (g : zG) (K : zI → Prop) (σ : zI) (l1 : Int32) : Prop := zX mX8_keep d 0 0 2 [.ref 57, .int l1] [] g σ (zqV g K)
set_option maxRecDepth 20000 in
theorem s_X8_keep {d : Nat} {g : zG} {σ : zI} {K : zI → Prop} (hg : zGA g)  (h : p_X8_keep_2 d g K σ 0) : zCV mX8_keep d [.ref 57] g σ K := by
  refine c_of_x pn_mX8_keep rfl (Nat.le_of_ble_eq_true rfl) ?_
  change zX _ _ 0 0 0 [.ref 57] [] g σ _
  refine x_iconst (v := 0) dX8_keep_0 rfl ?_
  refine x_istore_n dX8_keep_1 rfl (Nat.le_of_ble_eq_true rfl) (L2 := [_, _]) rfl ?_
  exact h
set_option maxRecDepth 20000 in
theorem s_X8_keep_2 {d : Nat} {g : zG} {σ : zI} {K : zI → Prop} (hg : zGA g) {l1 : Int32} (h : (if (6 ≤ l1 : Prop) then K σ else vp_in l1 6 ∧ vp_in l1 6 ∧ p_X8_keep_2 d g K (zsI σ 78 l1.toNatClampNeg (σ 60 l1.toNatClampNeg)) (l1 + 1))) : p_X8_keep_2 d g K σ l1 := by
  refine x_iload_n dX8_keep_2 rfl ?_
  refine x_bipush (v := 6) dX8_keep_3 rfl ?_
  refine x_icmp_ge (tgt := 26) dX8_keep_5 rfl (fun q1 => ?_) (fun q1 => ?_)
  · replace h := itT q1 h
    exact x_vret (S := []) dX8_keep_26 rfl ⟨rfl, rfl, h⟩
  · replace h := itF q1 h
    refine x_aload_n dX8_keep_8 rfl ?_
    refine x_getR dX8_keep_9 fl_X8_71 (gA_57 hg) rfl (gA_57_38 hg) ?_
    refine x_iload_n dX8_keep_12 rfl ?_
    refine x_aload_n dX8_keep_13 rfl ?_
    refine x_getR dX8_keep_14 fl_X8_16 (gA_57 hg) rfl (gA_57_4 hg) ?_
    refine x_iload_n dX8_keep_17 rfl ?_
    obtain ⟨q2, h⟩ := h
    refine x_iald dX8_keep_18 (gA_60 hg) q2 ?_
    obtain ⟨q3, h⟩ := h
    refine x_iast dX8_keep_19 (gA_78 hg) q3 ?_
    refine x_iinc dX8_keep_20 rfl (v := l1 + 1) rfl rfl (Nat.le_of_ble_eq_true rfl) (L2 := [_, _]) rfl ?_
    refine x_goto (tgt := 2) dX8_keep_23 rfl ?_
    exact h
abbrev p_X8_chance_48 (d : Nat) (g : zG) (K : Int64 → zI → Prop) (σ : zI) (l1 : Int32) (l2 : Int32) (l3 : Int32) (l4 : Int32) (l5 : Int32) (l6 : Int32) : Prop := zX mX8_chance (d + 1) 0 0 48 [.ref 57, .int l1, .int l2, .int l3, .int l4, .int l5, .int l6] [] g σ (zqL g K)
abbrev p_X8_chance_83 (d : Nat) (g : zG) (K : Int64 → zI → Prop) (σ : zI) (l2 : Int32) (l3 : Int32) (l5 : Int32) (l6 : Int32) (l7 : Int32) : Prop := zX mX8_chance (d + 1) 0 0 83 [.retAddr 0, .retAddr 0, .int l2, .int l3, .retAddr 0, .int l5, .int l6, .int l7] [] g σ (zqL g K)
set_option maxRecDepth 20000 in
theorem s_X8_chance {d : Nat} {g : zG} {σ : zI} {K : Int64 → zI → Prop} (hg : zGA g) {l1 : Int32} {l2 : Int32} {l3 : Int32} (h : zCI mX8_within d [.int l2, .int 1, .int 20] g σ (fun v1 σ1 => (if (v1 = 0 : Prop) then K (-4611686018427387904) σ1 else zCI mX8_within d [.int l3, .int 0, .int 1] g σ1 (fun v2 σ2 => (if (v2 = 0 : Prop) then K (-4611686018427387904) σ2 else (if (2 ≤ (σ2 57 1) : Prop) then zCI mX8_unpaid d [.ref 57, .int 0, .int 1] g σ2 (fun v3 σ3 => p_X8_chance_48 d g K σ3 l1 l2 l3 (99 - v3) 0 0) else K (-4611686018427387904) σ2)))))) : zCL mX8_chance (d + 1) [.ref 57, .int l1, .int l2, .int l3] g σ K := by
  refine c_of_x pn_mX8_chance rfl (Nat.le_of_ble_eq_true rfl) ?_
  change zX _ _ 0 0 0 [.ref 57, .int l1, .int l2, .int l3] [] g σ _
  refine x_iload_n dX8_chance_0 rfl ?_
  refine x_iconst (v := 1) dX8_chance_1 rfl ?_
  refine x_bipush (v := 20) dX8_chance_2 rfl ?_
  refine x_callS (Y2 := mX8_within) (as := [.int l2, .int 1, .int 20]) (S := []) (kc2 := 0) (ks2 := 0) st_mX8_within dX8_chance_4 lk_X8_85 mo_mX8_within rfl rfl (Nat.le_of_ble_eq_true rfl) (Or.inl rfl) rfl rfl h ?_
  rintro _ _ σ1 ⟨v1, rfl, rfl, h⟩
  change zX _ _ 0 0 7 _ [.int v1] _ _ _
  refine x_if_eq (tgt := 27) dX8_chance_7 rfl (fun q1 => ?_) (fun q1 => ?_)
  · replace h := itT q1 h
    refine x_ldc2 dX8_chance_27 kc_X8_296 ?_
    exact x_lret (S := []) dX8_chance_30 rfl ⟨_, rfl, rfl, h⟩
  · replace h := itF q1 h
    refine x_iload_n dX8_chance_10 rfl ?_
    refine x_iconst (v := 0) dX8_chance_11 rfl ?_
    refine x_iconst (v := 1) dX8_chance_12 rfl ?_
    refine x_callS (Y2 := mX8_within) (as := [.int l3, .int 0, .int 1]) (S := []) (kc2 := 0) (ks2 := 0) st_mX8_within dX8_chance_13 lk_X8_85 mo_mX8_within rfl rfl (Nat.le_of_ble_eq_true rfl) (Or.inl rfl) rfl rfl h ?_
    rintro _ _ σ2 ⟨v2, rfl, rfl, h⟩
    change zX _ _ 0 0 16 _ [.int v2] _ _ _
    refine x_if_eq (tgt := 27) dX8_chance_16 rfl (fun q2 => ?_) (fun q2 => ?_)
    · replace h := itT q2 h
      refine x_ldc2 dX8_chance_27 kc_X8_296 ?_
      exact x_lret (S := []) dX8_chance_30 rfl ⟨_, rfl, rfl, h⟩
    · replace h := itF q2 h
      refine x_aload_n dX8_chance_19 rfl ?_
      refine x_getI dX8_chance_20 fl_X8_82 (gA_57 hg) rfl ?_
      refine x_iconst (v := 2) dX8_chance_23 rfl ?_
      refine x_icmp_ge (tgt := 31) dX8_chance_24 rfl (fun q3 => ?_) (fun q3 => ?_)
      · replace h := itT q3 h
        refine x_bipush (v := 99) dX8_chance_31 rfl ?_
        refine x_aload_n dX8_chance_33 rfl ?_
        refine x_iconst (v := 0) dX8_chance_34 rfl ?_
        refine x_iconst (v := 1) dX8_chance_35 rfl ?_
        refine x_callV (Y2 := mX8_unpaid) (as := [.int 0, .int 1]) (S := [.int 99]) (kc2 := 0) (ks2 := 0) mv_mX8_unpaid (Or.inl ⟨8, _, rfl, rfl, (gA_57 hg)⟩) dX8_chance_36 lk_X8_261 mo_mX8_unpaid rfl rfl (Nat.le_of_ble_eq_true rfl) (Or.inl rfl) rfl rfl h ?_
        rintro _ _ σ3 ⟨v3, rfl, rfl, h⟩
        change zX _ _ 0 0 39 _ [.int v3, .int 99] _ _ _
        refine x_isub dX8_chance_39 ?_
        refine x_istore dX8_chance_40 rfl (Nat.le_of_ble_eq_true rfl) (L2 := [_, _, _, _, _]) rfl ?_
        refine x_iconst (v := 0) dX8_chance_42 rfl ?_
        refine x_istore dX8_chance_43 rfl (Nat.le_of_ble_eq_true rfl) (L2 := [_, _, _, _, _, _]) rfl ?_
        refine x_iconst (v := 0) dX8_chance_45 rfl ?_
        refine x_istore dX8_chance_46 rfl (Nat.le_of_ble_eq_true rfl) (L2 := [_, _, _, _, _, _, _]) rfl ?_
        exact h
      · replace h := itF q3 h
        refine x_ldc2 dX8_chance_27 kc_X8_296 ?_
        exact x_lret (S := []) dX8_chance_30 rfl ⟨_, rfl, rfl, h⟩
set_option maxRecDepth 20000 in
theorem s_X8_chance_48 {d : Nat} {g : zG} {σ : zI} {K : Int64 → zI → Prop} (hg : zGA g) {l1 : Int32} {l2 : Int32} {l3 : Int32} {l4 : Int32} {l5 : Int32} {l6 : Int32} (h : (if (l2 ≤ l6 : Prop) then p_X8_chance_83 d g K σ l2 l3 l5 l5 l2 else zCI mX8_draw d [.ref 57, .int (l1 + l6)] g σ (fun v1 σ1 => (if (v1 ≤ l4 : Prop) then p_X8_chance_48 d g K σ1 l1 l2 l3 l4 l5 (l6 + 1) else p_X8_chance_48 d g K σ1 l1 l2 l3 l4 (l5 + 1) (l6 + 1))))) : p_X8_chance_48 d g K σ l1 l2 l3 l4 l5 l6 := by
  refine x_iload dX8_chance_48 rfl ?_
  refine x_iload_n dX8_chance_50 rfl ?_
  refine x_icmp_ge (tgt := 76) dX8_chance_51 rfl (fun q1 => ?_) (fun q1 => ?_)
  · replace h := itT q1 h
    refine x_iload dX8_chance_76 rfl ?_
    refine x_istore dX8_chance_78 rfl (Nat.le_of_ble_eq_true rfl) (L2 := [_, _, _, _, _, _, _]) rfl ?_
    refine x_iload_n dX8_chance_80 rfl ?_
    refine x_istore dX8_chance_81 rfl (Nat.le_of_ble_eq_true rfl) (L2 := [_, _, _, _, _, _, _, _]) rfl ?_
    exact x_wk (wJ (wJ (wC (wC (wJ (wC (wC (wC (wN _))))))))) h
  · replace h := itF q1 h
    refine x_aload_n dX8_chance_54 rfl ?_
    refine x_iload_n dX8_chance_55 rfl ?_
    refine x_iload dX8_chance_56 rfl ?_
    refine x_iadd dX8_chance_58 ?_
    refine x_callV (Y2 := mX8_draw) (as := [.int (l1 + l6)]) (S := []) (kc2 := 0) (ks2 := 0) mv_mX8_draw (Or.inl ⟨8, _, rfl, rfl, (gA_57 hg)⟩) dX8_chance_59 lk_X8_293 mo_mX8_draw rfl rfl (Nat.le_of_ble_eq_true rfl) (Or.inl rfl) rfl rfl h ?_
    rintro _ _ σ1 ⟨v1, rfl, rfl, h⟩
    change zX _ _ 0 0 62 _ [.int v1] _ _ _
    refine x_iload dX8_chance_62 rfl ?_
    refine x_icmp_le (tgt := 70) dX8_chance_64 rfl (fun q2 => ?_) (fun q2 => ?_)
    · replace h := itT q2 h
      refine x_iinc dX8_chance_70 rfl (v := l6 + 1) rfl rfl (Nat.le_of_ble_eq_true rfl) (L2 := [_, _, _, _, _, _, _]) rfl ?_
      refine x_goto (tgt := 48) dX8_chance_73 rfl ?_
      exact h
    · replace h := itF q2 h
      refine x_iinc dX8_chance_67 rfl (v := l5 + 1) rfl rfl (Nat.le_of_ble_eq_true rfl) (L2 := [_, _, _, _, _, _, _]) rfl ?_
      refine x_iinc dX8_chance_70 rfl (v := l6 + 1) rfl rfl (Nat.le_of_ble_eq_true rfl) (L2 := [_, _, _, _, _, _, _]) rfl ?_
      refine x_goto (tgt := 48) dX8_chance_73 rfl ?_
      exact h
set_option maxRecDepth 20000 in
theorem s_X8_chance_83 {d : Nat} {g : zG} {σ : zI} {K : Int64 → zI → Prop} (hg : zGA g) {l2 : Int32} {l3 : Int32} {l5 : Int32} {l6 : Int32} {l7 : Int32} (h : (if (l7 = 0 : Prop) then (if (l3 = 0 : Prop) then ¬ l6 = 0 ∧ K ((l5 / l6 : Int32).toInt64) σ else ¬ l6 = 0 ∧ K ((l2 / l6 : Int32).toInt64) σ) else ¬ l7 = 0 ∧ p_X8_chance_83 d g K σ l2 l3 l5 l7 (l6 - l6 / l7 * l7))) : p_X8_chance_83 d g K σ l2 l3 l5 l6 l7 := by
  refine x_iload dX8_chance_83 rfl ?_
  refine x_if_eq (tgt := 106) dX8_chance_85 rfl (fun q1 => ?_) (fun q1 => ?_)
  · replace h := itT q1 h
    refine x_iload_n dX8_chance_106 rfl ?_
    refine x_if_ne (tgt := 119) dX8_chance_107 rfl (fun q2 => ?_) (fun q2 => ?_)
    · replace h := itF q2 h
      refine x_iload_n dX8_chance_119 rfl ?_
      refine x_iload dX8_chance_120 rfl ?_
      obtain ⟨q3, h⟩ := h
      refine x_idiv dX8_chance_122 q3 ?_
      refine x_i2l dX8_chance_123 ?_
      exact x_lret (S := []) dX8_chance_124 rfl ⟨_, rfl, rfl, h⟩
    · replace h := itT q2 h
      refine x_iload dX8_chance_110 rfl ?_
      refine x_iload dX8_chance_112 rfl ?_
      obtain ⟨q3, h⟩ := h
      refine x_idiv dX8_chance_114 q3 ?_
      refine x_i2l dX8_chance_115 ?_
      refine x_goto (tgt := 124) dX8_chance_116 rfl ?_
      exact x_lret (S := []) dX8_chance_124 rfl ⟨_, rfl, rfl, h⟩
  · replace h := itF q1 h
    refine x_iload dX8_chance_88 rfl ?_
    refine x_iload dX8_chance_90 rfl ?_
    obtain ⟨q2, h⟩ := h
    refine x_irem dX8_chance_92 q2 ?_
    refine x_istore dX8_chance_93 rfl (Nat.le_of_ble_eq_true rfl) (L2 := [_, _, _, _, _, _, _, _, _]) rfl ?_
    refine x_iload dX8_chance_95 rfl ?_
    refine x_istore dX8_chance_97 rfl (Nat.le_of_ble_eq_true rfl) (L2 := [_, _, _, _, _, _, _, _, _]) rfl ?_
    refine x_iload dX8_chance_99 rfl ?_
    refine x_istore dX8_chance_101 rfl (Nat.le_of_ble_eq_true rfl) (L2 := [_, _, _, _, _, _, _, _, _]) rfl ?_
    refine x_goto (tgt := 83) dX8_chance_103 rfl ?_
    exact x_wk (wJ (wJ (wC (wC (wJ (wC (wC (wC (wN _))))))))) h
abbrev p_X8_image_15 (d : Nat) (g : zG) (K : Int32 → zI → Prop) (σ : zI) (l1 : Int32) : Prop := zX mX8_image d 0 0 15 [.ref 57, .int l1] [] g σ (zqI g K)
set_option maxRecDepth 20000 in
theorem s_X8_image {d : Nat} {g : zG} {σ : zI} {K : Int32 → zI → Prop} (hg : zGA g)  (h : p_X8_image_15 d g K (zsI (zsI σ 57 32 1) 57 33 (σ 57 1)) 0) : zCI mX8_image d [.ref 57] g σ K := by
  refine c_of_x pn_mX8_image rfl (Nat.le_of_ble_eq_true rfl) ?_
  change zX _ _ 0 0 0 [.ref 57] [] g σ _
  refine x_aload_n dX8_image_0 rfl ?_
  refine x_iconst (v := 1) dX8_image_1 rfl ?_
  refine x_putZ dX8_image_2 fl_X8_298 (gA_57 hg) rfl rfl (Or.inr rfl) ?_
  refine x_aload_n dX8_image_5 rfl ?_
  refine x_aload_n dX8_image_6 rfl ?_
  refine x_getI dX8_image_7 fl_X8_82 (gA_57 hg) rfl ?_
  refine x_putI dX8_image_10 fl_X8_301 (gA_57 hg) rfl rfl ?_
  refine x_iconst (v := 0) dX8_image_13 rfl ?_
  refine x_istore_n dX8_image_14 rfl (Nat.le_of_ble_eq_true rfl) (L2 := [_, _]) rfl ?_
  exact h
set_option maxRecDepth 20000 in
theorem s_X8_image_15 {d : Nat} {g : zG} {σ : zI} {K : Int32 → zI → Prop} (hg : zGA g) {l1 : Int32} (h : (if (6 ≤ l1 : Prop) then K (σ 57 1) (zsI (zsI σ 74 12 (σ 57 0)) 74 13 (σ 57 5)) else vp_in l1 6 ∧ vp_in l1 14 ∧ vp_in l1 6 ∧ vp_in (6 + l1) 14 ∧ p_X8_image_15 d g K (zsI (zsI σ 74 l1.toNatClampNeg (σ 59 l1.toNatClampNeg)) 74 ((6 + l1 : Int32).toNatClampNeg) (σ 60 l1.toNatClampNeg)) (l1 + 1))) : p_X8_image_15 d g K σ l1 := by
  refine x_iload_n dX8_image_15 rfl ?_
  refine x_bipush (v := 6) dX8_image_16 rfl ?_
  refine x_icmp_ge (tgt := 54) dX8_image_18 rfl (fun q1 => ?_) (fun q1 => ?_)
  · replace h := itT q1 h
    refine x_aload_n dX8_image_54 rfl ?_
    refine x_getR dX8_image_55 fl_X8_59 (gA_57 hg) rfl (gA_57_34 hg) ?_
    refine x_bipush (v := 12) dX8_image_58 rfl ?_
    refine x_aload_n dX8_image_60 rfl ?_
    refine x_getI dX8_image_61 fl_X8_94 (gA_57 hg) rfl ?_
    refine x_iast dX8_image_64 (gA_74 hg) (zvp rfl) ?_
    refine x_aload_n dX8_image_65 rfl ?_
    refine x_getR dX8_image_66 fl_X8_59 (gA_57 hg) rfl (gA_57_34 hg) ?_
    refine x_bipush (v := 13) dX8_image_69 rfl ?_
    refine x_aload_n dX8_image_71 rfl ?_
    refine x_getI dX8_image_72 fl_X8_209 (gA_57 hg) rfl ?_
    refine x_iast dX8_image_75 (gA_74 hg) (zvp rfl) ?_
    refine x_aload_n dX8_image_76 rfl ?_
    refine x_getI dX8_image_77 fl_X8_82 (gA_57 hg) rfl ?_
    exact x_iret (S := []) dX8_image_80 rfl rfl ⟨_, rfl, rfl, h⟩
  · replace h := itF q1 h
    refine x_aload_n dX8_image_21 rfl ?_
    refine x_getR dX8_image_22 fl_X8_59 (gA_57 hg) rfl (gA_57_34 hg) ?_
    refine x_iload_n dX8_image_25 rfl ?_
    refine x_aload_n dX8_image_26 rfl ?_
    refine x_getR dX8_image_27 fl_X8_13 (gA_57 hg) rfl (gA_57_3 hg) ?_
    refine x_iload_n dX8_image_30 rfl ?_
    obtain ⟨q2, h⟩ := h
    refine x_iald dX8_image_31 (gA_59 hg) q2 ?_
    obtain ⟨q3, h⟩ := h
    refine x_iast dX8_image_32 (gA_74 hg) q3 ?_
    refine x_aload_n dX8_image_33 rfl ?_
    refine x_getR dX8_image_34 fl_X8_59 (gA_57 hg) rfl (gA_57_34 hg) ?_
    refine x_bipush (v := 6) dX8_image_37 rfl ?_
    refine x_iload_n dX8_image_39 rfl ?_
    refine x_iadd dX8_image_40 ?_
    refine x_aload_n dX8_image_41 rfl ?_
    refine x_getR dX8_image_42 fl_X8_16 (gA_57 hg) rfl (gA_57_4 hg) ?_
    refine x_iload_n dX8_image_45 rfl ?_
    obtain ⟨q4, h⟩ := h
    refine x_iald dX8_image_46 (gA_60 hg) q4 ?_
    obtain ⟨q5, h⟩ := h
    refine x_iast dX8_image_47 (gA_74 hg) q5 ?_
    refine x_iinc dX8_image_48 rfl (v := l1 + 1) rfl rfl (Nat.le_of_ble_eq_true rfl) (L2 := [_, _]) rfl ?_
    refine x_goto (tgt := 15) dX8_image_51 rfl ?_
    exact h
abbrev p_X8_back_20 (d : Nat) (g : zG) (K : Int32 → zI → Prop) (σ : zI) (l1 : Int32) : Prop := zX mX8_back d 0 0 20 [.ref 57, .int l1] [] g σ (zqI g K)
set_option maxRecDepth 20000 in
theorem s_X8_back {d : Nat} {g : zG} {σ : zI} {K : Int32 → zI → Prop} (hg : zGA g)  (h : (if ((σ 57 32) = 0 : Prop) then K (-3) σ else p_X8_back_20 d g K (zsI σ 57 1 (σ 57 33)) 0)) : zCI mX8_back d [.ref 57] g σ K := by
  refine c_of_x pn_mX8_back rfl (Nat.le_of_ble_eq_true rfl) ?_
  change zX _ _ 0 0 0 [.ref 57] [] g σ _
  refine x_aload_n dX8_back_0 rfl ?_
  refine x_getI dX8_back_1 fl_X8_298 (gA_57 hg) rfl ?_
  refine x_if_ne (tgt := 10) dX8_back_4 rfl (fun q1 => ?_) (fun q1 => ?_)
  · replace h := itF q1 h
    refine x_aload_n dX8_back_10 rfl ?_
    refine x_aload_n dX8_back_11 rfl ?_
    refine x_getI dX8_back_12 fl_X8_301 (gA_57 hg) rfl ?_
    refine x_putI dX8_back_15 fl_X8_82 (gA_57 hg) rfl rfl ?_
    refine x_iconst (v := 0) dX8_back_18 rfl ?_
    refine x_istore_n dX8_back_19 rfl (Nat.le_of_ble_eq_true rfl) (L2 := [_, _]) rfl ?_
    exact h
  · replace h := itT q1 h
    refine x_bipush (v := (-3)) dX8_back_7 rfl ?_
    exact x_iret (S := []) dX8_back_9 rfl rfl ⟨_, rfl, rfl, h⟩
set_option maxRecDepth 20000 in
theorem s_X8_back_20 {d : Nat} {g : zG} {σ : zI} {K : Int32 → zI → Prop} (hg : zGA g) {l1 : Int32} (h : (if (6 ≤ l1 : Prop) then K (σ 57 1) (zsI (zsI σ 57 0 (σ 74 12)) 57 5 (σ 74 13)) else vp_in l1 14 ∧ vp_in l1 6 ∧ vp_in (6 + l1) 14 ∧ vp_in l1 6 ∧ p_X8_back_20 d g K (zsI (zsI σ 59 l1.toNatClampNeg (σ 74 l1.toNatClampNeg)) 60 l1.toNatClampNeg (σ 74 ((6 + l1 : Int32).toNatClampNeg))) (l1 + 1))) : p_X8_back_20 d g K σ l1 := by
  refine x_iload_n dX8_back_20 rfl ?_
  refine x_bipush (v := 6) dX8_back_21 rfl ?_
  refine x_icmp_ge (tgt := 59) dX8_back_23 rfl (fun q1 => ?_) (fun q1 => ?_)
  · replace h := itT q1 h
    refine x_aload_n dX8_back_59 rfl ?_
    refine x_aload_n dX8_back_60 rfl ?_
    refine x_getR dX8_back_61 fl_X8_59 (gA_57 hg) rfl (gA_57_34 hg) ?_
    refine x_bipush (v := 12) dX8_back_64 rfl ?_
    refine x_iald dX8_back_66 (gA_74 hg) (zvp rfl) ?_
    refine x_putI dX8_back_67 fl_X8_94 (gA_57 hg) rfl rfl ?_
    refine x_aload_n dX8_back_70 rfl ?_
    refine x_aload_n dX8_back_71 rfl ?_
    refine x_getR dX8_back_72 fl_X8_59 (gA_57 hg) rfl (gA_57_34 hg) ?_
    refine x_bipush (v := 13) dX8_back_75 rfl ?_
    refine x_iald dX8_back_77 (gA_74 hg) (zvp rfl) ?_
    refine x_putI dX8_back_78 fl_X8_209 (gA_57 hg) rfl rfl ?_
    refine x_aload_n dX8_back_81 rfl ?_
    refine x_getI dX8_back_82 fl_X8_82 (gA_57 hg) rfl ?_
    exact x_iret (S := []) dX8_back_85 rfl rfl ⟨_, rfl, rfl, h⟩
  · replace h := itF q1 h
    refine x_aload_n dX8_back_26 rfl ?_
    refine x_getR dX8_back_27 fl_X8_13 (gA_57 hg) rfl (gA_57_3 hg) ?_
    refine x_iload_n dX8_back_30 rfl ?_
    refine x_aload_n dX8_back_31 rfl ?_
    refine x_getR dX8_back_32 fl_X8_59 (gA_57 hg) rfl (gA_57_34 hg) ?_
    refine x_iload_n dX8_back_35 rfl ?_
    obtain ⟨q2, h⟩ := h
    refine x_iald dX8_back_36 (gA_74 hg) q2 ?_
    obtain ⟨q3, h⟩ := h
    refine x_iast dX8_back_37 (gA_59 hg) q3 ?_
    refine x_aload_n dX8_back_38 rfl ?_
    refine x_getR dX8_back_39 fl_X8_16 (gA_57 hg) rfl (gA_57_4 hg) ?_
    refine x_iload_n dX8_back_42 rfl ?_
    refine x_aload_n dX8_back_43 rfl ?_
    refine x_getR dX8_back_44 fl_X8_59 (gA_57 hg) rfl (gA_57_34 hg) ?_
    refine x_bipush (v := 6) dX8_back_47 rfl ?_
    refine x_iload_n dX8_back_49 rfl ?_
    refine x_iadd dX8_back_50 ?_
    obtain ⟨q4, h⟩ := h
    refine x_iald dX8_back_51 (gA_74 hg) q4 ?_
    obtain ⟨q5, h⟩ := h
    refine x_iast dX8_back_52 (gA_60 hg) q5 ?_
    refine x_iinc dX8_back_53 rfl (v := l1 + 1) rfl rfl (Nat.le_of_ble_eq_true rfl) (L2 := [_, _]) rfl ?_
    refine x_goto (tgt := 20) dX8_back_56 rfl ?_
    exact h
abbrev p_X8_count_58 (d : Nat) (g : zG) (K : Int32 → zI → Prop) (σ : zI) (l2 : Int32) (l3 : Int32) : Prop := zX mX8_count (d + 1) 0 0 58 [.ref 57, .retAddr 0, .int l2, .int l3] [] g σ (zqI g K)
set_option maxRecDepth 20000 in
theorem s_X8_count {d : Nat} {g : zG} {σ : zI} {K : Int32 → zI → Prop} (hg : zGA g) {l1 : Int32} (h : (if (l1 = 0 : Prop) then K (σ 57 1) σ else (if (l1 = 1 : Prop) then K (σ 57 8) σ else (if (l1 = 2 : Prop) then K (σ 57 6) σ else (if (l1 = 3 : Prop) then K (σ 57 5) σ else (if (l1 = 4 : Prop) then p_X8_count_58 d g K σ 0 0 else K (-2) σ)))))) : zCI mX8_count (d + 1) [.ref 57, .int l1] g σ K := by
  refine c_of_x pn_mX8_count rfl (Nat.le_of_ble_eq_true rfl) ?_
  change zX _ _ 0 0 0 [.ref 57, .int l1] [] g σ _
  refine x_iconst (v := 0) dX8_count_0 rfl ?_
  refine x_istore_n dX8_count_1 rfl (Nat.le_of_ble_eq_true rfl) (L2 := [_, _, _]) rfl ?_
  refine x_iload_n dX8_count_2 rfl ?_
  by_cases q1 : l1 = 0
  · refine x_tsw (tgt := 36) dX8_count_3 (by rw [q1]; decide) (by rw [q1]; decide) (by rw [q1]; rfl) rfl ?_
    replace h := itT q1 h
    refine x_aload_n dX8_count_36 rfl ?_
    refine x_getI dX8_count_37 fl_X8_82 (gA_57 hg) rfl ?_
    exact x_iret (S := []) dX8_count_40 rfl rfl ⟨_, rfl, rfl, h⟩
  · replace h := itF q1 h
    by_cases q2 : l1 = 1
    · refine x_tsw (tgt := 41) dX8_count_3 (by rw [q2]; decide) (by rw [q2]; decide) (by rw [q2]; rfl) rfl ?_
      replace h := itT q2 h
      refine x_aload_n dX8_count_41 rfl ?_
      refine x_getI dX8_count_42 fl_X8_78 (gA_57 hg) rfl ?_
      exact x_iret (S := []) dX8_count_45 rfl rfl ⟨_, rfl, rfl, h⟩
    · replace h := itF q2 h
      by_cases q3 : l1 = 2
      · refine x_tsw (tgt := 46) dX8_count_3 (by rw [q3]; decide) (by rw [q3]; decide) (by rw [q3]; rfl) rfl ?_
        replace h := itT q3 h
        refine x_aload_n dX8_count_46 rfl ?_
        refine x_getI dX8_count_47 fl_X8_121 (gA_57 hg) rfl ?_
        exact x_iret (S := []) dX8_count_50 rfl rfl ⟨_, rfl, rfl, h⟩
      · replace h := itF q3 h
        by_cases q4 : l1 = 3
        · refine x_tsw (tgt := 51) dX8_count_3 (by rw [q4]; decide) (by rw [q4]; decide) (by rw [q4]; rfl) rfl ?_
          replace h := itT q4 h
          refine x_aload_n dX8_count_51 rfl ?_
          refine x_getI dX8_count_52 fl_X8_209 (gA_57 hg) rfl ?_
          exact x_iret (S := []) dX8_count_55 rfl rfl ⟨_, rfl, rfl, h⟩
        · replace h := itF q4 h
          by_cases q5 : l1 = 4
          · refine x_tsw (tgt := 56) dX8_count_3 (by rw [q5]; decide) (by rw [q5]; decide) (by rw [q5]; rfl) rfl ?_
            replace h := itT q5 h
            refine x_iconst (v := 0) dX8_count_56 rfl ?_
            refine x_istore_n dX8_count_57 rfl (Nat.le_of_ble_eq_true rfl) (L2 := [_, _, _, _]) rfl ?_
            exact x_wk (wC (wJ (wC (wC (wN _))))) h
          · replace h := itF q5 h
            refine x_tswd (tgt := 86) dX8_count_3 (by have z0 := lv_neT (a := 0) q1 rfl; have z1 := lv_neT (a := 1) q2 rfl; have z2 := lv_neT (a := 2) q3 rfl; have z3 := lv_neT (a := 3) q4 rfl; have z4 := lv_neT (a := 4) q5 rfl; omega) rfl ?_
            refine x_bipush (v := (-2)) dX8_count_86 rfl ?_
            exact x_iret (S := []) dX8_count_88 rfl rfl ⟨_, rfl, rfl, h⟩
set_option maxRecDepth 20000 in
theorem s_X8_count_58 {d : Nat} {g : zG} {σ : zI} {K : Int32 → zI → Prop} (hg : zGA g) {l2 : Int32} {l3 : Int32} (h : (if ((σ 57 1) ≤ l3 : Prop) then K l2 σ else vp_in l3 6 ∧ zCI mX8_bitsOf d [.int (σ 60 l3.toNatClampNeg)] g σ (fun v1 σ1 => p_X8_count_58 d g K σ1 (l2 + v1) (l3 + 1)))) : p_X8_count_58 d g K σ l2 l3 := by
  refine x_iload_n dX8_count_58 rfl ?_
  refine x_aload_n dX8_count_59 rfl ?_
  refine x_getI dX8_count_60 fl_X8_82 (gA_57 hg) rfl ?_
  refine x_icmp_ge (tgt := 84) dX8_count_63 rfl (fun q1 => ?_) (fun q1 => ?_)
  · replace h := itT q1 h
    refine x_iload_n dX8_count_84 rfl ?_
    exact x_iret (S := []) dX8_count_85 rfl rfl ⟨_, rfl, rfl, h⟩
  · replace h := itF q1 h
    refine x_iload_n dX8_count_66 rfl ?_
    refine x_aload_n dX8_count_67 rfl ?_
    refine x_getR dX8_count_68 fl_X8_16 (gA_57 hg) rfl (gA_57_4 hg) ?_
    refine x_iload_n dX8_count_71 rfl ?_
    obtain ⟨q2, h⟩ := h
    refine x_iald dX8_count_72 (gA_60 hg) q2 ?_
    refine x_callS (Y2 := mX8_bitsOf) (as := [.int (σ 60 l3.toNatClampNeg)]) (S := [.int l2]) (kc2 := 0) (ks2 := 0) st_mX8_bitsOf dX8_count_73 lk_X8_97 mo_mX8_bitsOf rfl rfl (Nat.le_of_ble_eq_true rfl) (Or.inl rfl) rfl rfl h ?_
    rintro _ _ σ1 ⟨v1, rfl, rfl, h⟩
    change zX _ _ 0 0 76 _ [.int v1, .int l2] _ _ _
    refine x_iadd dX8_count_76 ?_
    refine x_istore_n dX8_count_77 rfl (Nat.le_of_ble_eq_true rfl) (L2 := [_, _, _, _]) rfl ?_
    refine x_iinc dX8_count_78 rfl (v := l3 + 1) rfl rfl (Nat.le_of_ble_eq_true rfl) (L2 := [_, _, _, _]) rfl ?_
    refine x_goto (tgt := 58) dX8_count_81 rfl ?_
    exact h
set_option maxRecDepth 20000 in
theorem s_X8_cell {d : Nat} {g : zG} {σ : zI} {K : Int32 → zI → Prop} (hg : zGA g) {l1 : Int32} {l2 : Int32} {l3 : Int32} (h : zCI mX8_isSheet d [.int l1] g σ (fun v1 σ1 => (if (v1 = 0 : Prop) then K (-2) σ1 else vp_in l1 4 ∧ (if (0 ≤ (σ1 75 l1.toNatClampNeg) : Prop) then vp_in l1 4 ∧ zCI mX8_within d [.int l2, .int 0, .int ((σ1 76 l1.toNatClampNeg) - 1)] g σ1 (fun v2 σ2 => (if (v2 = 0 : Prop) then K (-12) σ2 else vp_in l1 4 ∧ (if ((σ2 75 l1.toNatClampNeg) = 0 : Prop) then vp_in ((40 * l1) + l2) 160 ∧ K 1 (zsI σ2 77 (((40 * l1) + l2 : Int32).toNatClampNeg) ((l3 : Int32).toInt8.toInt32)) else vp_in l1 4 ∧ (if ((σ2 75 l1.toNatClampNeg) = 1 : Prop) then vp_in ((40 * l1) + l2) 160 ∧ K 1 (zsI σ2 77 (((40 * l1) + l2 : Int32).toNatClampNeg) ((l3 : Int32).toInt16.toInt32)) else vp_in ((40 * l1) + l2) 160 ∧ K 1 (zsI σ2 77 (((40 * l1) + l2 : Int32).toNatClampNeg) l3))))) else K (-11) σ1)))) : zCI mX8_cell (d + 1) [.ref 57, .int l1, .int l2, .int l3] g σ K := by
  refine c_of_x pn_mX8_cell rfl (Nat.le_of_ble_eq_true rfl) ?_
  change zX _ _ 0 0 0 [.ref 57, .int l1, .int l2, .int l3] [] g σ _
  refine x_iload_n dX8_cell_0 rfl ?_
  refine x_callS (Y2 := mX8_isSheet) (as := [.int l1]) (S := []) (kc2 := 0) (ks2 := 0) st_mX8_isSheet dX8_cell_1 lk_X8_267 mo_mX8_isSheet rfl rfl (Nat.le_of_ble_eq_true rfl) (Or.inl rfl) rfl rfl h ?_
  rintro _ _ σ1 ⟨v1, rfl, rfl, h⟩
  change zX _ _ 0 0 4 _ [.int v1] _ _ _
  refine x_if_ne (tgt := 10) dX8_cell_4 rfl (fun q1 => ?_) (fun q1 => ?_)
  · replace h := itF q1 h
    refine x_aload_n dX8_cell_10 rfl ?_
    refine x_getR dX8_cell_11 fl_X8_62 (gA_57 hg) rfl (gA_57_35 hg) ?_
    refine x_iload_n dX8_cell_14 rfl ?_
    obtain ⟨q2, h⟩ := h
    refine x_iald dX8_cell_15 (gA_75 hg) q2 ?_
    refine x_if_ge (tgt := 22) dX8_cell_16 rfl (fun q3 => ?_) (fun q3 => ?_)
    · replace h := itT q3 h
      refine x_iload_n dX8_cell_22 rfl ?_
      refine x_iconst (v := 0) dX8_cell_23 rfl ?_
      refine x_aload_n dX8_cell_24 rfl ?_
      refine x_getR dX8_cell_25 fl_X8_65 (gA_57 hg) rfl (gA_57_36 hg) ?_
      refine x_iload_n dX8_cell_28 rfl ?_
      obtain ⟨q4, h⟩ := h
      refine x_iald dX8_cell_29 (gA_76 hg) q4 ?_
      refine x_iconst (v := 1) dX8_cell_30 rfl ?_
      refine x_isub dX8_cell_31 ?_
      refine x_callS (Y2 := mX8_within) (as := [.int l2, .int 0, .int ((σ1 76 l1.toNatClampNeg) - 1)]) (S := []) (kc2 := 0) (ks2 := 0) st_mX8_within dX8_cell_32 lk_X8_85 mo_mX8_within rfl rfl (Nat.le_of_ble_eq_true rfl) (Or.inl rfl) rfl rfl h ?_
      rintro _ _ σ2 ⟨v2, rfl, rfl, h⟩
      change zX _ _ 0 0 35 _ [.int v2] _ _ _
      refine x_if_ne (tgt := 41) dX8_cell_35 rfl (fun q5 => ?_) (fun q5 => ?_)
      · replace h := itF q5 h
        refine x_aload_n dX8_cell_41 rfl ?_
        refine x_getR dX8_cell_42 fl_X8_68 (gA_57 hg) rfl (gA_57_37 hg) ?_
        refine x_bipush (v := 40) dX8_cell_45 rfl ?_
        refine x_iload_n dX8_cell_47 rfl ?_
        refine x_imul dX8_cell_48 ?_
        refine x_iload_n dX8_cell_49 rfl ?_
        refine x_iadd dX8_cell_50 ?_
        refine x_aload_n dX8_cell_51 rfl ?_
        refine x_getR dX8_cell_52 fl_X8_62 (gA_57 hg) rfl (gA_57_35 hg) ?_
        refine x_iload_n dX8_cell_55 rfl ?_
        obtain ⟨q6, h⟩ := h
        refine x_iald dX8_cell_56 (gA_75 hg) q6 ?_
        refine x_if_ne (tgt := 65) dX8_cell_57 rfl (fun q7 => ?_) (fun q7 => ?_)
        · replace h := itF q7 h
          refine x_aload_n dX8_cell_65 rfl ?_
          refine x_getR dX8_cell_66 fl_X8_62 (gA_57 hg) rfl (gA_57_35 hg) ?_
          refine x_iload_n dX8_cell_69 rfl ?_
          obtain ⟨q8, h⟩ := h
          refine x_iald dX8_cell_70 (gA_75 hg) q8 ?_
          refine x_iconst (v := 1) dX8_cell_71 rfl ?_
          refine x_icmp_ne (tgt := 80) dX8_cell_72 rfl (fun q9 => ?_) (fun q9 => ?_)
          · replace h := itF q9 h
            refine x_iload_n dX8_cell_80 rfl ?_
            obtain ⟨q10, h⟩ := h
            refine x_iast dX8_cell_81 (gA_77 hg) q10 ?_
            refine x_iconst (v := 1) dX8_cell_82 rfl ?_
            exact x_iret (S := []) dX8_cell_83 rfl rfl ⟨_, rfl, rfl, h⟩
          · replace h := itT q9 h
            refine x_iload_n dX8_cell_75 rfl ?_
            refine x_i2s dX8_cell_76 ?_
            refine x_goto (tgt := 81) dX8_cell_77 rfl ?_
            obtain ⟨q10, h⟩ := h
            refine x_iast dX8_cell_81 (gA_77 hg) q10 ?_
            refine x_iconst (v := 1) dX8_cell_82 rfl ?_
            exact x_iret (S := []) dX8_cell_83 rfl rfl ⟨_, rfl, rfl, h⟩
        · replace h := itT q7 h
          refine x_iload_n dX8_cell_60 rfl ?_
          refine x_i2b dX8_cell_61 ?_
          refine x_goto (tgt := 81) dX8_cell_62 rfl ?_
          obtain ⟨q8, h⟩ := h
          refine x_iast dX8_cell_81 (gA_77 hg) q8 ?_
          refine x_iconst (v := 1) dX8_cell_82 rfl ?_
          exact x_iret (S := []) dX8_cell_83 rfl rfl ⟨_, rfl, rfl, h⟩
      · replace h := itT q5 h
        refine x_bipush (v := (-12)) dX8_cell_38 rfl ?_
        exact x_iret (S := []) dX8_cell_40 rfl rfl ⟨_, rfl, rfl, h⟩
    · replace h := itF q3 h
      refine x_bipush (v := (-11)) dX8_cell_19 rfl ?_
      exact x_iret (S := []) dX8_cell_21 rfl rfl ⟨_, rfl, rfl, h⟩
  · replace h := itT q1 h
    refine x_bipush (v := (-2)) dX8_cell_7 rfl ?_
    exact x_iret (S := []) dX8_cell_9 rfl rfl ⟨_, rfl, rfl, h⟩
abbrev p_X8_copy_125 (d : Nat) (g : zG) (K : Int32 → zI → Prop) (σ : zI) (l1 : Int32) (l2 : Int32) (l3 : Int32) (l4 : Int32) (l5 : Int32) (l6 : Int32) : Prop := zX mX8_copy (d + 1) 0 0 125 [.ref 57, .int l1, .int l2, .int l3, .int l4, .int l5, .int l6] [] g σ (zqI g K)
abbrev p_X8_copy_171 (d : Nat) (g : zG) (K : Int32 → zI → Prop) (σ : zI) (l1 : Int32) (l2 : Int32) (l3 : Int32) (l4 : Int32) (l5 : Int32) (l6 : Int32) : Prop := zX mX8_copy (d + 1) 0 0 171 [.ref 57, .int l1, .int l2, .int l3, .int l4, .int l5, .int l6] [] g σ (zqI g K)
set_option maxRecDepth 20000 in
theorem s_X8_copy {d : Nat} {g : zG} {σ : zI} {K : Int32 → zI → Prop} (hg : zGA g) {l1 : Int32} {l2 : Int32} {l3 : Int32} {l4 : Int32} {l5 : Int32} (h : zCI mX8_isSheet d [.int l1] g σ (fun v1 σ1 => (if (v1 = 0 : Prop) then K (-2) σ1 else zCI mX8_isSheet d [.int l3] g σ1 (fun v2 σ2 => (if (v2 = 0 : Prop) then K (-2) σ2 else vp_in l1 4 ∧ (if ((σ2 75 l1.toNatClampNeg) < 0 : Prop) then K (-11) σ2 else vp_in l3 4 ∧ (if (0 ≤ (σ2 75 l3.toNatClampNeg) : Prop) then vp_in l1 4 ∧ vp_in l3 4 ∧ (if ((σ2 75 l1.toNatClampNeg) = (σ2 75 l3.toNatClampNeg) : Prop) then (if (l5 < 0 : Prop) then K (-12) σ2 else (if (l2 < 0 : Prop) then K (-12) σ2 else (if (l4 < 0 : Prop) then K (-12) σ2 else vp_in l1 4 ∧ (if (0 < (lg_cmp (((l2 : Int32).toInt64) + ((l5 : Int32).toInt64)) ((σ2 76 l1.toNatClampNeg : Int32).toInt64)) : Prop) then K (-12) σ2 else vp_in l3 4 ∧ (if ((lg_cmp (((l4 : Int32).toInt64) + ((l5 : Int32).toInt64)) ((σ2 76 l3.toNatClampNeg : Int32).toInt64)) ≤ 0 : Prop) then (if (l1 = l3 : Prop) then (if (l4 ≤ l2 : Prop) then p_X8_copy_171 d g K σ2 l1 l2 l3 l4 l5 0 else p_X8_copy_125 d g K σ2 l1 l2 l3 l4 l5 (l5 - 1)) else p_X8_copy_171 d g K σ2 l1 l2 l3 l4 l5 0) else K (-12) σ2))))) else K (-13) σ2) else K (-11) σ2))))))) : zCI mX8_copy (d + 1) [.ref 57, .int l1, .int l2, .int l3, .int l4, .int l5] g σ K := by
  refine c_of_x pn_mX8_copy rfl (Nat.le_of_ble_eq_true rfl) ?_
  change zX _ _ 0 0 0 [.ref 57, .int l1, .int l2, .int l3, .int l4, .int l5] [] g σ _
  refine x_iload_n dX8_copy_0 rfl ?_
  refine x_callS (Y2 := mX8_isSheet) (as := [.int l1]) (S := []) (kc2 := 0) (ks2 := 0) st_mX8_isSheet dX8_copy_1 lk_X8_267 mo_mX8_isSheet rfl rfl (Nat.le_of_ble_eq_true rfl) (Or.inl rfl) rfl rfl h ?_
  rintro _ _ σ1 ⟨v1, rfl, rfl, h⟩
  change zX _ _ 0 0 4 _ [.int v1] _ _ _
  refine x_if_eq (tgt := 14) dX8_copy_4 rfl (fun q1 => ?_) (fun q1 => ?_)
  · replace h := itT q1 h
    refine x_bipush (v := (-2)) dX8_copy_14 rfl ?_
    exact x_iret (S := []) dX8_copy_16 rfl rfl ⟨_, rfl, rfl, h⟩
  · replace h := itF q1 h
    refine x_iload_n dX8_copy_7 rfl ?_
    refine x_callS (Y2 := mX8_isSheet) (as := [.int l3]) (S := []) (kc2 := 0) (ks2 := 0) st_mX8_isSheet dX8_copy_8 lk_X8_267 mo_mX8_isSheet rfl rfl (Nat.le_of_ble_eq_true rfl) (Or.inl rfl) rfl rfl h ?_
    rintro _ _ σ2 ⟨v2, rfl, rfl, h⟩
    change zX _ _ 0 0 11 _ [.int v2] _ _ _
    refine x_if_ne (tgt := 17) dX8_copy_11 rfl (fun q2 => ?_) (fun q2 => ?_)
    · replace h := itF q2 h
      refine x_aload_n dX8_copy_17 rfl ?_
      refine x_getR dX8_copy_18 fl_X8_62 (gA_57 hg) rfl (gA_57_35 hg) ?_
      refine x_iload_n dX8_copy_21 rfl ?_
      obtain ⟨q3, h⟩ := h
      refine x_iald dX8_copy_22 (gA_75 hg) q3 ?_
      refine x_if_lt (tgt := 35) dX8_copy_23 rfl (fun q4 => ?_) (fun q4 => ?_)
      · replace h := itT q4 h
        refine x_bipush (v := (-11)) dX8_copy_35 rfl ?_
        exact x_iret (S := []) dX8_copy_37 rfl rfl ⟨_, rfl, rfl, h⟩
      · replace h := itF q4 h
        refine x_aload_n dX8_copy_26 rfl ?_
        refine x_getR dX8_copy_27 fl_X8_62 (gA_57 hg) rfl (gA_57_35 hg) ?_
        refine x_iload_n dX8_copy_30 rfl ?_
        obtain ⟨q5, h⟩ := h
        refine x_iald dX8_copy_31 (gA_75 hg) q5 ?_
        refine x_if_ge (tgt := 38) dX8_copy_32 rfl (fun q6 => ?_) (fun q6 => ?_)
        · replace h := itT q6 h
          refine x_aload_n dX8_copy_38 rfl ?_
          refine x_getR dX8_copy_39 fl_X8_62 (gA_57 hg) rfl (gA_57_35 hg) ?_
          refine x_iload_n dX8_copy_42 rfl ?_
          obtain ⟨q7, h⟩ := h
          refine x_iald dX8_copy_43 (gA_75 hg) q7 ?_
          refine x_aload_n dX8_copy_44 rfl ?_
          refine x_getR dX8_copy_45 fl_X8_62 (gA_57 hg) rfl (gA_57_35 hg) ?_
          refine x_iload_n dX8_copy_48 rfl ?_
          obtain ⟨q8, h⟩ := h
          refine x_iald dX8_copy_49 (gA_75 hg) q8 ?_
          refine x_icmp_eq (tgt := 56) dX8_copy_50 rfl (fun q9 => ?_) (fun q9 => ?_)
          · replace h := itT q9 h
            refine x_iload dX8_copy_56 rfl ?_
            refine x_if_lt (tgt := 105) dX8_copy_58 rfl (fun q10 => ?_) (fun q10 => ?_)
            · replace h := itT q10 h
              refine x_bipush (v := (-12)) dX8_copy_105 rfl ?_
              exact x_iret (S := []) dX8_copy_107 rfl rfl ⟨_, rfl, rfl, h⟩
            · replace h := itF q10 h
              refine x_iload_n dX8_copy_61 rfl ?_
              refine x_if_lt (tgt := 105) dX8_copy_62 rfl (fun q11 => ?_) (fun q11 => ?_)
              · replace h := itT q11 h
                refine x_bipush (v := (-12)) dX8_copy_105 rfl ?_
                exact x_iret (S := []) dX8_copy_107 rfl rfl ⟨_, rfl, rfl, h⟩
              · replace h := itF q11 h
                refine x_iload dX8_copy_65 rfl ?_
                refine x_if_lt (tgt := 105) dX8_copy_67 rfl (fun q12 => ?_) (fun q12 => ?_)
                · replace h := itT q12 h
                  refine x_bipush (v := (-12)) dX8_copy_105 rfl ?_
                  exact x_iret (S := []) dX8_copy_107 rfl rfl ⟨_, rfl, rfl, h⟩
                · replace h := itF q12 h
                  refine x_iload_n dX8_copy_70 rfl ?_
                  refine x_i2l dX8_copy_71 ?_
                  refine x_iload dX8_copy_72 rfl ?_
                  refine x_i2l dX8_copy_74 ?_
                  refine x_ladd dX8_copy_75 ?_
                  refine x_aload_n dX8_copy_76 rfl ?_
                  refine x_getR dX8_copy_77 fl_X8_65 (gA_57 hg) rfl (gA_57_36 hg) ?_
                  refine x_iload_n dX8_copy_80 rfl ?_
                  obtain ⟨q13, h⟩ := h
                  refine x_iald dX8_copy_81 (gA_76 hg) q13 ?_
                  refine x_i2l dX8_copy_82 ?_
                  refine x_lcmp dX8_copy_83 ?_
                  refine x_if_gt (tgt := 105) dX8_copy_84 rfl (fun q14 => ?_) (fun q14 => ?_)
                  · replace h := itT q14 h
                    refine x_bipush (v := (-12)) dX8_copy_105 rfl ?_
                    exact x_iret (S := []) dX8_copy_107 rfl rfl ⟨_, rfl, rfl, h⟩
                  · replace h := itF q14 h
                    refine x_iload dX8_copy_87 rfl ?_
                    refine x_i2l dX8_copy_89 ?_
                    refine x_iload dX8_copy_90 rfl ?_
                    refine x_i2l dX8_copy_92 ?_
                    refine x_ladd dX8_copy_93 ?_
                    refine x_aload_n dX8_copy_94 rfl ?_
                    refine x_getR dX8_copy_95 fl_X8_65 (gA_57 hg) rfl (gA_57_36 hg) ?_
                    refine x_iload_n dX8_copy_98 rfl ?_
                    obtain ⟨q15, h⟩ := h
                    refine x_iald dX8_copy_99 (gA_76 hg) q15 ?_
                    refine x_i2l dX8_copy_100 ?_
                    refine x_lcmp dX8_copy_101 ?_
                    refine x_if_le (tgt := 108) dX8_copy_102 rfl (fun q16 => ?_) (fun q16 => ?_)
                    · replace h := itT q16 h
                      refine x_iload_n dX8_copy_108 rfl ?_
                      refine x_iload_n dX8_copy_109 rfl ?_
                      refine x_icmp_ne (tgt := 168) dX8_copy_110 rfl (fun q17 => ?_) (fun q17 => ?_)
                      · replace h := itF q17 h
                        refine x_iconst (v := 0) dX8_copy_168 rfl ?_
                        refine x_istore dX8_copy_169 rfl (Nat.le_of_ble_eq_true rfl) (L2 := [_, _, _, _, _, _, _]) rfl ?_
                        exact h
                      · replace h := itT q17 h
                        refine x_iload_n dX8_copy_113 rfl ?_
                        refine x_iload dX8_copy_114 rfl ?_
                        refine x_icmp_ge (tgt := 168) dX8_copy_116 rfl (fun q18 => ?_) (fun q18 => ?_)
                        · replace h := itT q18 h
                          refine x_iconst (v := 0) dX8_copy_168 rfl ?_
                          refine x_istore dX8_copy_169 rfl (Nat.le_of_ble_eq_true rfl) (L2 := [_, _, _, _, _, _, _]) rfl ?_
                          exact h
                        · replace h := itF q18 h
                          refine x_iload dX8_copy_119 rfl ?_
                          refine x_iconst (v := 1) dX8_copy_121 rfl ?_
                          refine x_isub dX8_copy_122 ?_
                          refine x_istore dX8_copy_123 rfl (Nat.le_of_ble_eq_true rfl) (L2 := [_, _, _, _, _, _, _]) rfl ?_
                          exact h
                    · replace h := itF q16 h
                      refine x_bipush (v := (-12)) dX8_copy_105 rfl ?_
                      exact x_iret (S := []) dX8_copy_107 rfl rfl ⟨_, rfl, rfl, h⟩
          · replace h := itF q9 h
            refine x_bipush (v := (-13)) dX8_copy_53 rfl ?_
            exact x_iret (S := []) dX8_copy_55 rfl rfl ⟨_, rfl, rfl, h⟩
        · replace h := itF q6 h
          refine x_bipush (v := (-11)) dX8_copy_35 rfl ?_
          exact x_iret (S := []) dX8_copy_37 rfl rfl ⟨_, rfl, rfl, h⟩
    · replace h := itT q2 h
      refine x_bipush (v := (-2)) dX8_copy_14 rfl ?_
      exact x_iret (S := []) dX8_copy_16 rfl rfl ⟨_, rfl, rfl, h⟩
set_option maxRecDepth 20000 in
theorem s_X8_copy_171 {d : Nat} {g : zG} {σ : zI} {K : Int32 → zI → Prop} (hg : zGA g) {l1 : Int32} {l2 : Int32} {l3 : Int32} {l4 : Int32} {l5 : Int32} {l6 : Int32} (h : (if (l5 ≤ l6 : Prop) then K l5 σ else vp_in (((40 * l1) + l2) + l6) 160 ∧ vp_in (((40 * l3) + l4) + l6) 160 ∧ p_X8_copy_171 d g K (zsI σ 77 ((((40 * l3) + l4) + l6 : Int32).toNatClampNeg) (σ 77 ((((40 * l1) + l2) + l6 : Int32).toNatClampNeg))) l1 l2 l3 l4 l5 (l6 + 1))) : p_X8_copy_171 d g K σ l1 l2 l3 l4 l5 l6 := by
  refine x_iload dX8_copy_171 rfl ?_
  refine x_iload dX8_copy_173 rfl ?_
  refine x_icmp_ge (tgt := 213) dX8_copy_175 rfl (fun q1 => ?_) (fun q1 => ?_)
  · replace h := itT q1 h
    refine x_iload dX8_copy_213 rfl ?_
    exact x_iret (S := []) dX8_copy_215 rfl rfl ⟨_, rfl, rfl, h⟩
  · replace h := itF q1 h
    refine x_aload_n dX8_copy_178 rfl ?_
    refine x_getR dX8_copy_179 fl_X8_68 (gA_57 hg) rfl (gA_57_37 hg) ?_
    refine x_bipush (v := 40) dX8_copy_182 rfl ?_
    refine x_iload_n dX8_copy_184 rfl ?_
    refine x_imul dX8_copy_185 ?_
    refine x_iload dX8_copy_186 rfl ?_
    refine x_iadd dX8_copy_188 ?_
    refine x_iload dX8_copy_189 rfl ?_
    refine x_iadd dX8_copy_191 ?_
    refine x_aload_n dX8_copy_192 rfl ?_
    refine x_getR dX8_copy_193 fl_X8_68 (gA_57 hg) rfl (gA_57_37 hg) ?_
    refine x_bipush (v := 40) dX8_copy_196 rfl ?_
    refine x_iload_n dX8_copy_198 rfl ?_
    refine x_imul dX8_copy_199 ?_
    refine x_iload_n dX8_copy_200 rfl ?_
    refine x_iadd dX8_copy_201 ?_
    refine x_iload dX8_copy_202 rfl ?_
    refine x_iadd dX8_copy_204 ?_
    obtain ⟨q2, h⟩ := h
    refine x_iald dX8_copy_205 (gA_77 hg) q2 ?_
    obtain ⟨q3, h⟩ := h
    refine x_iast dX8_copy_206 (gA_77 hg) q3 ?_
    refine x_iinc dX8_copy_207 rfl (v := l6 + 1) rfl rfl (Nat.le_of_ble_eq_true rfl) (L2 := [_, _, _, _, _, _, _]) rfl ?_
    refine x_goto (tgt := 171) dX8_copy_210 rfl ?_
    exact h
set_option maxRecDepth 20000 in
theorem s_X8_copy_125 {d : Nat} {g : zG} {σ : zI} {K : Int32 → zI → Prop} (hg : zGA g) {l1 : Int32} {l2 : Int32} {l3 : Int32} {l4 : Int32} {l5 : Int32} {l6 : Int32} (h : (if (l6 < 0 : Prop) then K l5 σ else vp_in (((40 * l1) + l2) + l6) 160 ∧ vp_in (((40 * l3) + l4) + l6) 160 ∧ p_X8_copy_125 d g K (zsI σ 77 ((((40 * l3) + l4) + l6 : Int32).toNatClampNeg) (σ 77 ((((40 * l1) + l2) + l6 : Int32).toNatClampNeg))) l1 l2 l3 l4 l5 (l6 + (-1)))) : p_X8_copy_125 d g K σ l1 l2 l3 l4 l5 l6 := by
  refine x_iload dX8_copy_125 rfl ?_
  refine x_if_lt (tgt := 165) dX8_copy_127 rfl (fun q1 => ?_) (fun q1 => ?_)
  · replace h := itT q1 h
    refine x_goto (tgt := 213) dX8_copy_165 rfl ?_
    refine x_iload dX8_copy_213 rfl ?_
    exact x_iret (S := []) dX8_copy_215 rfl rfl ⟨_, rfl, rfl, h⟩
  · replace h := itF q1 h
    refine x_aload_n dX8_copy_130 rfl ?_
    refine x_getR dX8_copy_131 fl_X8_68 (gA_57 hg) rfl (gA_57_37 hg) ?_
    refine x_bipush (v := 40) dX8_copy_134 rfl ?_
    refine x_iload_n dX8_copy_136 rfl ?_
    refine x_imul dX8_copy_137 ?_
    refine x_iload dX8_copy_138 rfl ?_
    refine x_iadd dX8_copy_140 ?_
    refine x_iload dX8_copy_141 rfl ?_
    refine x_iadd dX8_copy_143 ?_
    refine x_aload_n dX8_copy_144 rfl ?_
    refine x_getR dX8_copy_145 fl_X8_68 (gA_57 hg) rfl (gA_57_37 hg) ?_
    refine x_bipush (v := 40) dX8_copy_148 rfl ?_
    refine x_iload_n dX8_copy_150 rfl ?_
    refine x_imul dX8_copy_151 ?_
    refine x_iload_n dX8_copy_152 rfl ?_
    refine x_iadd dX8_copy_153 ?_
    refine x_iload dX8_copy_154 rfl ?_
    refine x_iadd dX8_copy_156 ?_
    obtain ⟨q2, h⟩ := h
    refine x_iald dX8_copy_157 (gA_77 hg) q2 ?_
    obtain ⟨q3, h⟩ := h
    refine x_iast dX8_copy_158 (gA_77 hg) q3 ?_
    refine x_iinc dX8_copy_159 rfl (v := l6 + (-1)) rfl rfl (Nat.le_of_ble_eq_true rfl) (L2 := [_, _, _, _, _, _, _]) rfl ?_
    refine x_goto (tgt := 125) dX8_copy_162 rfl ?_
    exact h
abbrev p_X8_heirs_61 (d : Nat) (g : zG) (K : Int32 → zI → Prop) (σ : zI) (l1 : Int32) (l3 : Int32) (l4 : Int32) (l5 : Int32) (l6 : Int32) : Prop := zX mX8_heirs (d + 1) 0 0 61 [.ref 57, .int l1, .retAddr 0, .int l3, .int l4, .int l5, .int l6] [] g σ (zqI g K)
set_option maxRecDepth 20000 in
theorem s_X8_heirs {d : Nat} {g : zG} {σ : zI} {K : Int32 → zI → Prop} (hg : zGA g) {l1 : Int32} {l2 : Int32} {l3 : Int32} {l4 : Int32} (h : zCI mX8_isSheet d [.int l1] g σ (fun v1 σ1 => (if (v1 = 0 : Prop) then K (-2) σ1 else zCI mX8_within d [.int l2, .int 0, .int 2] g σ1 (fun v2 σ2 => (if (v2 = 0 : Prop) then K (-2) σ2 else zCI mX8_within d [.int l4, .int 0, .int 6] g σ2 (fun v3 σ3 => (if (v3 = 0 : Prop) then K (-2) σ3 else vp_in l1 4 ∧ (if (0 ≤ (σ3 75 l1.toNatClampNeg) : Prop) then vp_in l1 4 ∧ (if ((σ3 75 l1.toNatClampNeg) = l2 : Prop) then p_X8_heirs_61 d g K σ3 l1 l3 l4 0 0 else K (-13) σ3) else K (-11) σ3)))))))) : zCI mX8_heirs (d + 1) [.ref 57, .int l1, .int l2, .int l3, .int l4] g σ K := by
  refine c_of_x pn_mX8_heirs rfl (Nat.le_of_ble_eq_true rfl) ?_
  change zX _ _ 0 0 0 [.ref 57, .int l1, .int l2, .int l3, .int l4] [] g σ _
  refine x_iload_n dX8_heirs_0 rfl ?_
  refine x_callS (Y2 := mX8_isSheet) (as := [.int l1]) (S := []) (kc2 := 0) (ks2 := 0) st_mX8_isSheet dX8_heirs_1 lk_X8_267 mo_mX8_isSheet rfl rfl (Nat.le_of_ble_eq_true rfl) (Or.inl rfl) rfl rfl h ?_
  rintro _ _ σ1 ⟨v1, rfl, rfl, h⟩
  change zX _ _ 0 0 4 _ [.int v1] _ _ _
  refine x_if_eq (tgt := 27) dX8_heirs_4 rfl (fun q1 => ?_) (fun q1 => ?_)
  · replace h := itT q1 h
    refine x_bipush (v := (-2)) dX8_heirs_27 rfl ?_
    exact x_iret (S := []) dX8_heirs_29 rfl rfl ⟨_, rfl, rfl, h⟩
  · replace h := itF q1 h
    refine x_iload_n dX8_heirs_7 rfl ?_
    refine x_iconst (v := 0) dX8_heirs_8 rfl ?_
    refine x_iconst (v := 2) dX8_heirs_9 rfl ?_
    refine x_callS (Y2 := mX8_within) (as := [.int l2, .int 0, .int 2]) (S := []) (kc2 := 0) (ks2 := 0) st_mX8_within dX8_heirs_10 lk_X8_85 mo_mX8_within rfl rfl (Nat.le_of_ble_eq_true rfl) (Or.inl rfl) rfl rfl h ?_
    rintro _ _ σ2 ⟨v2, rfl, rfl, h⟩
    change zX _ _ 0 0 13 _ [.int v2] _ _ _
    refine x_if_eq (tgt := 27) dX8_heirs_13 rfl (fun q2 => ?_) (fun q2 => ?_)
    · replace h := itT q2 h
      refine x_bipush (v := (-2)) dX8_heirs_27 rfl ?_
      exact x_iret (S := []) dX8_heirs_29 rfl rfl ⟨_, rfl, rfl, h⟩
    · replace h := itF q2 h
      refine x_iload dX8_heirs_16 rfl ?_
      refine x_iconst (v := 0) dX8_heirs_18 rfl ?_
      refine x_bipush (v := 6) dX8_heirs_19 rfl ?_
      refine x_callS (Y2 := mX8_within) (as := [.int l4, .int 0, .int 6]) (S := []) (kc2 := 0) (ks2 := 0) st_mX8_within dX8_heirs_21 lk_X8_85 mo_mX8_within rfl rfl (Nat.le_of_ble_eq_true rfl) (Or.inl rfl) rfl rfl h ?_
      rintro _ _ σ3 ⟨v3, rfl, rfl, h⟩
      change zX _ _ 0 0 24 _ [.int v3] _ _ _
      refine x_if_ne (tgt := 30) dX8_heirs_24 rfl (fun q3 => ?_) (fun q3 => ?_)
      · replace h := itF q3 h
        refine x_aload_n dX8_heirs_30 rfl ?_
        refine x_getR dX8_heirs_31 fl_X8_62 (gA_57 hg) rfl (gA_57_35 hg) ?_
        refine x_iload_n dX8_heirs_34 rfl ?_
        obtain ⟨q4, h⟩ := h
        refine x_iald dX8_heirs_35 (gA_75 hg) q4 ?_
        refine x_if_ge (tgt := 42) dX8_heirs_36 rfl (fun q5 => ?_) (fun q5 => ?_)
        · replace h := itT q5 h
          refine x_aload_n dX8_heirs_42 rfl ?_
          refine x_getR dX8_heirs_43 fl_X8_62 (gA_57 hg) rfl (gA_57_35 hg) ?_
          refine x_iload_n dX8_heirs_46 rfl ?_
          obtain ⟨q6, h⟩ := h
          refine x_iald dX8_heirs_47 (gA_75 hg) q6 ?_
          refine x_iload_n dX8_heirs_48 rfl ?_
          refine x_icmp_eq (tgt := 55) dX8_heirs_49 rfl (fun q7 => ?_) (fun q7 => ?_)
          · replace h := itT q7 h
            refine x_iconst (v := 0) dX8_heirs_55 rfl ?_
            refine x_istore dX8_heirs_56 rfl (Nat.le_of_ble_eq_true rfl) (L2 := [_, _, _, _, _, _]) rfl ?_
            refine x_iconst (v := 0) dX8_heirs_58 rfl ?_
            refine x_istore dX8_heirs_59 rfl (Nat.le_of_ble_eq_true rfl) (L2 := [_, _, _, _, _, _, _]) rfl ?_
            exact x_wk (wC (wC (wJ (wC (wC (wC (wC (wN _)))))))) h
          · replace h := itF q7 h
            refine x_bipush (v := (-13)) dX8_heirs_52 rfl ?_
            exact x_iret (S := []) dX8_heirs_54 rfl rfl ⟨_, rfl, rfl, h⟩
        · replace h := itF q5 h
          refine x_bipush (v := (-11)) dX8_heirs_39 rfl ?_
          exact x_iret (S := []) dX8_heirs_41 rfl rfl ⟨_, rfl, rfl, h⟩
      · replace h := itT q3 h
        refine x_bipush (v := (-2)) dX8_heirs_27 rfl ?_
        exact x_iret (S := []) dX8_heirs_29 rfl rfl ⟨_, rfl, rfl, h⟩
set_option maxRecDepth 20000 in
theorem s_X8_heirs_61 {d : Nat} {g : zG} {σ : zI} {K : Int32 → zI → Prop} (hg : zGA g) {l1 : Int32} {l3 : Int32} {l4 : Int32} {l5 : Int32} {l6 : Int32} (h : (if (l4 ≤ l6 : Prop) then K l5 σ else (if ((lg_cmp (((l3 : Int32).toInt64) + (2 * ((l6 : Int32).toInt64))) 0) < 0 : Prop) then K (-12) σ else vp_in l1 4 ∧ (if ((lg_cmp ((((l3 : Int32).toInt64) + (2 * ((l6 : Int32).toInt64))) + 1) ((σ 76 l1.toNatClampNeg : Int32).toInt64)) < 0 : Prop) then vp_in ((40 * l1) + ((((l3 : Int32).toInt64) + (2 * ((l6 : Int32).toInt64)) : Int64).toInt32)) 160 ∧ vp_in (((40 * l1) + ((((l3 : Int32).toInt64) + (2 * ((l6 : Int32).toInt64)) : Int64).toInt32)) + 1) 160 ∧ zCI mX8_heir d [.ref 57, .int (σ 77 (((40 * l1) + ((((l3 : Int32).toInt64) + (2 * ((l6 : Int32).toInt64)) : Int64).toInt32) : Int32).toNatClampNeg)), .int (σ 77 ((((40 * l1) + ((((l3 : Int32).toInt64) + (2 * ((l6 : Int32).toInt64)) : Int64).toInt32)) + 1 : Int32).toNatClampNeg))] g σ (fun v1 σ1 => (if (v1 < 0 : Prop) then p_X8_heirs_61 d g K σ1 l1 l3 l4 l5 (l6 + 1) else p_X8_heirs_61 d g K σ1 l1 l3 l4 (l5 + 1) (l6 + 1))) else K (-12) σ)))) : p_X8_heirs_61 d g K σ l1 l3 l4 l5 l6 := by
  refine x_iload dX8_heirs_61 rfl ?_
  refine x_iload dX8_heirs_63 rfl ?_
  refine x_icmp_ge (tgt := 149) dX8_heirs_65 rfl (fun q1 => ?_) (fun q1 => ?_)
  · replace h := itT q1 h
    refine x_iload dX8_heirs_149 rfl ?_
    exact x_iret (S := []) dX8_heirs_151 rfl rfl ⟨_, rfl, rfl, h⟩
  · replace h := itF q1 h
    refine x_iload_n dX8_heirs_68 rfl ?_
    refine x_i2l dX8_heirs_69 ?_
    refine x_ldc2 dX8_heirs_70 kc_X8_304 ?_
    refine x_iload dX8_heirs_73 rfl ?_
    refine x_i2l dX8_heirs_75 ?_
    refine x_lmul dX8_heirs_76 ?_
    refine x_ladd dX8_heirs_77 ?_
    refine x_lstore dX8_heirs_78 rfl (Nat.le_of_ble_eq_true rfl) (L2 := [_, _, _, _, _, _, _, _, _]) rfl ?_
    refine x_lload dX8_heirs_80 rfl ?_
    refine x_lconst (v := 0) dX8_heirs_82 rfl ?_
    refine x_lcmp dX8_heirs_83 ?_
    refine x_if_lt (tgt := 102) dX8_heirs_84 rfl (fun q2 => ?_) (fun q2 => ?_)
    · replace h := itT q2 h
      refine x_bipush (v := (-12)) dX8_heirs_102 rfl ?_
      exact x_iret (S := []) dX8_heirs_104 rfl rfl ⟨_, rfl, rfl, h⟩
    · replace h := itF q2 h
      refine x_lload dX8_heirs_87 rfl ?_
      refine x_lconst (v := 1) dX8_heirs_89 rfl ?_
      refine x_ladd dX8_heirs_90 ?_
      refine x_aload_n dX8_heirs_91 rfl ?_
      refine x_getR dX8_heirs_92 fl_X8_65 (gA_57 hg) rfl (gA_57_36 hg) ?_
      refine x_iload_n dX8_heirs_95 rfl ?_
      obtain ⟨q3, h⟩ := h
      refine x_iald dX8_heirs_96 (gA_76 hg) q3 ?_
      refine x_i2l dX8_heirs_97 ?_
      refine x_lcmp dX8_heirs_98 ?_
      refine x_if_lt (tgt := 105) dX8_heirs_99 rfl (fun q4 => ?_) (fun q4 => ?_)
      · replace h := itT q4 h
        refine x_aload_n dX8_heirs_105 rfl ?_
        refine x_aload_n dX8_heirs_106 rfl ?_
        refine x_getR dX8_heirs_107 fl_X8_68 (gA_57 hg) rfl (gA_57_37 hg) ?_
        refine x_bipush (v := 40) dX8_heirs_110 rfl ?_
        refine x_iload_n dX8_heirs_112 rfl ?_
        refine x_imul dX8_heirs_113 ?_
        refine x_lload dX8_heirs_114 rfl ?_
        refine x_l2i dX8_heirs_116 ?_
        refine x_iadd dX8_heirs_117 ?_
        obtain ⟨q5, h⟩ := h
        refine x_iald dX8_heirs_118 (gA_77 hg) q5 ?_
        refine x_aload_n dX8_heirs_119 rfl ?_
        refine x_getR dX8_heirs_120 fl_X8_68 (gA_57 hg) rfl (gA_57_37 hg) ?_
        refine x_bipush (v := 40) dX8_heirs_123 rfl ?_
        refine x_iload_n dX8_heirs_125 rfl ?_
        refine x_imul dX8_heirs_126 ?_
        refine x_lload dX8_heirs_127 rfl ?_
        refine x_l2i dX8_heirs_129 ?_
        refine x_iadd dX8_heirs_130 ?_
        refine x_iconst (v := 1) dX8_heirs_131 rfl ?_
        refine x_iadd dX8_heirs_132 ?_
        obtain ⟨q6, h⟩ := h
        refine x_iald dX8_heirs_133 (gA_77 hg) q6 ?_
        refine x_callV (Y2 := mX8_heir) (as := [.int (σ 77 (((40 * l1) + ((((l3 : Int32).toInt64) + (2 * ((l6 : Int32).toInt64)) : Int64).toInt32) : Int32).toNatClampNeg)), .int (σ 77 ((((40 * l1) + ((((l3 : Int32).toInt64) + (2 * ((l6 : Int32).toInt64)) : Int64).toInt32)) + 1 : Int32).toNatClampNeg))]) (S := []) (kc2 := 0) (ks2 := 0) mv_mX8_heir (Or.inl ⟨8, _, rfl, rfl, (gA_57 hg)⟩) dX8_heirs_134 lk_X8_306 mo_mX8_heir rfl rfl (Nat.le_of_ble_eq_true rfl) (Or.inl rfl) rfl rfl h ?_
        rintro _ _ σ1 ⟨v1, rfl, rfl, h⟩
        change zX _ _ 0 0 137 _ [.int v1] _ _ _
        refine x_if_lt (tgt := 143) dX8_heirs_137 rfl (fun q7 => ?_) (fun q7 => ?_)
        · replace h := itT q7 h
          refine x_iinc dX8_heirs_143 rfl (v := l6 + 1) rfl rfl (Nat.le_of_ble_eq_true rfl) (L2 := [_, _, _, _, _, _, _, _, _]) rfl ?_
          refine x_goto (tgt := 61) dX8_heirs_146 rfl ?_
          exact x_wk (wC (wC (wJ (wC (wC (wC (wC (wN _)))))))) h
        · replace h := itF q7 h
          refine x_iinc dX8_heirs_140 rfl (v := l5 + 1) rfl rfl (Nat.le_of_ble_eq_true rfl) (L2 := [_, _, _, _, _, _, _, _, _]) rfl ?_
          refine x_iinc dX8_heirs_143 rfl (v := l6 + 1) rfl rfl (Nat.le_of_ble_eq_true rfl) (L2 := [_, _, _, _, _, _, _, _, _]) rfl ?_
          refine x_goto (tgt := 61) dX8_heirs_146 rfl ?_
          exact x_wk (wC (wC (wJ (wC (wC (wC (wC (wN _)))))))) h
      · replace h := itF q4 h
        refine x_bipush (v := (-12)) dX8_heirs_102 rfl ?_
        exact x_iret (S := []) dX8_heirs_104 rfl rfl ⟨_, rfl, rfl, h⟩
abbrev p_X8_taken_30 (d : Nat) (g : zG) (K : Int32 → zI → Prop) (σ : zI) (l1 : Int32) (l2 : Int32) (l3 : Int32) : Prop := zX mX8_taken (d + 1) 0 0 30 [.ref 57, .int l1, .int l2, .int l3] [] g σ (zqI g K)
set_option maxRecDepth 20000 in
theorem s_X8_taken {d : Nat} {g : zG} {σ : zI} {K : Int32 → zI → Prop} (hg : zGA g) {l1 : Int32} {l2 : Int32} (h : zCI mX8_within d [.int l2, .int 0, .int 5] g σ (fun v1 σ1 => (if (v1 = 0 : Prop) then K (-2) σ1 else zCI mX8_isHeir d [.ref 57, .int l1] g σ1 (fun v2 σ2 => (if (v2 = 0 : Prop) then K (-11) σ2 else vp_in l1 6 ∧ p_X8_taken_30 d g K σ2 l1 l2 (σ2 58 l1.toNatClampNeg)))))) : zCI mX8_taken (d + 1) [.ref 57, .int l1, .int l2] g σ K := by
  refine c_of_x pn_mX8_taken rfl (Nat.le_of_ble_eq_true rfl) ?_
  change zX _ _ 0 0 0 [.ref 57, .int l1, .int l2] [] g σ _
  refine x_iload_n dX8_taken_0 rfl ?_
  refine x_iconst (v := 0) dX8_taken_1 rfl ?_
  refine x_iconst (v := 5) dX8_taken_2 rfl ?_
  refine x_callS (Y2 := mX8_within) (as := [.int l2, .int 0, .int 5]) (S := []) (kc2 := 0) (ks2 := 0) st_mX8_within dX8_taken_3 lk_X8_85 mo_mX8_within rfl rfl (Nat.le_of_ble_eq_true rfl) (Or.inl rfl) rfl rfl h ?_
  rintro _ _ σ1 ⟨v1, rfl, rfl, h⟩
  change zX _ _ 0 0 6 _ [.int v1] _ _ _
  refine x_if_ne (tgt := 12) dX8_taken_6 rfl (fun q1 => ?_) (fun q1 => ?_)
  · replace h := itF q1 h
    refine x_aload_n dX8_taken_12 rfl ?_
    refine x_iload_n dX8_taken_13 rfl ?_
    refine x_callV (Y2 := mX8_isHeir) (as := [.int l1]) (S := []) (kc2 := 0) (ks2 := 0) mv_mX8_isHeir (Or.inl ⟨8, _, rfl, rfl, (gA_57 hg)⟩) dX8_taken_14 lk_X8_89 mo_mX8_isHeir rfl rfl (Nat.le_of_ble_eq_true rfl) (Or.inl rfl) rfl rfl h ?_
    rintro _ _ σ2 ⟨v2, rfl, rfl, h⟩
    change zX _ _ 0 0 17 _ [.int v2] _ _ _
    refine x_if_ne (tgt := 23) dX8_taken_17 rfl (fun q2 => ?_) (fun q2 => ?_)
    · replace h := itF q2 h
      refine x_aload_n dX8_taken_23 rfl ?_
      refine x_getR dX8_taken_24 fl_X8_7 (gA_57 hg) rfl (gA_57_2 hg) ?_
      refine x_iload_n dX8_taken_27 rfl ?_
      obtain ⟨q3, h⟩ := h
      refine x_iald dX8_taken_28 (gA_58 hg) q3 ?_
      refine x_istore_n dX8_taken_29 rfl (Nat.le_of_ble_eq_true rfl) (L2 := [_, _, _, _]) rfl ?_
      exact h
    · replace h := itT q2 h
      refine x_bipush (v := (-11)) dX8_taken_20 rfl ?_
      exact x_iret (S := []) dX8_taken_22 rfl rfl ⟨_, rfl, rfl, h⟩
  · replace h := itT q1 h
    refine x_bipush (v := (-2)) dX8_taken_9 rfl ?_
    exact x_iret (S := []) dX8_taken_11 rfl rfl ⟨_, rfl, rfl, h⟩
set_option maxRecDepth 20000 in
theorem s_X8_taken_30 {d : Nat} {g : zG} {σ : zI} {K : Int32 → zI → Prop} (hg : zGA g) {l1 : Int32} {l2 : Int32} {l3 : Int32} (h : (if (l3 = l2 : Prop) then (if (l3 = l2 : Prop) then vp_in l1 6 ∧ K (σ 59 l1.toNatClampNeg) σ else K (-13) σ) else (if (l3 ≤ 0 : Prop) then (if (l3 = l2 : Prop) then vp_in l1 6 ∧ K (σ 59 l1.toNatClampNeg) σ else K (-13) σ) else (if (l3 = 3 : Prop) then p_X8_taken_30 d g K σ l1 l2 1 else (if (l3 = 4 : Prop) then p_X8_taken_30 d g K σ l1 l2 2 else p_X8_taken_30 d g K σ l1 l2 0))))) : p_X8_taken_30 d g K σ l1 l2 l3 := by
  refine x_iload_n dX8_taken_30 rfl ?_
  refine x_iload_n dX8_taken_31 rfl ?_
  refine x_icmp_eq (tgt := 62) dX8_taken_32 rfl (fun q1 => ?_) (fun q1 => ?_)
  · replace h := itT q1 h
    refine x_iload_n dX8_taken_62 rfl ?_
    refine x_iload_n dX8_taken_63 rfl ?_
    refine x_icmp_ne (tgt := 76) dX8_taken_64 rfl (fun q2 => ?_) (fun q2 => ?_)
    · replace h := itF q2 h
      refine x_bipush (v := (-13)) dX8_taken_76 rfl ?_
      exact x_iret (S := []) dX8_taken_78 rfl rfl ⟨_, rfl, rfl, h⟩
    · replace h := itT q2 h
      refine x_aload_n dX8_taken_67 rfl ?_
      refine x_getR dX8_taken_68 fl_X8_13 (gA_57 hg) rfl (gA_57_3 hg) ?_
      refine x_iload_n dX8_taken_71 rfl ?_
      obtain ⟨q3, h⟩ := h
      refine x_iald dX8_taken_72 (gA_59 hg) q3 ?_
      refine x_goto (tgt := 78) dX8_taken_73 rfl ?_
      exact x_iret (S := []) dX8_taken_78 rfl rfl ⟨_, rfl, rfl, h⟩
  · replace h := itF q1 h
    refine x_iload_n dX8_taken_35 rfl ?_
    refine x_if_le (tgt := 62) dX8_taken_36 rfl (fun q2 => ?_) (fun q2 => ?_)
    · replace h := itT q2 h
      refine x_iload_n dX8_taken_62 rfl ?_
      refine x_iload_n dX8_taken_63 rfl ?_
      refine x_icmp_ne (tgt := 76) dX8_taken_64 rfl (fun q3 => ?_) (fun q3 => ?_)
      · replace h := itF q3 h
        refine x_bipush (v := (-13)) dX8_taken_76 rfl ?_
        exact x_iret (S := []) dX8_taken_78 rfl rfl ⟨_, rfl, rfl, h⟩
      · replace h := itT q3 h
        refine x_aload_n dX8_taken_67 rfl ?_
        refine x_getR dX8_taken_68 fl_X8_13 (gA_57 hg) rfl (gA_57_3 hg) ?_
        refine x_iload_n dX8_taken_71 rfl ?_
        obtain ⟨q4, h⟩ := h
        refine x_iald dX8_taken_72 (gA_59 hg) q4 ?_
        refine x_goto (tgt := 78) dX8_taken_73 rfl ?_
        exact x_iret (S := []) dX8_taken_78 rfl rfl ⟨_, rfl, rfl, h⟩
    · replace h := itF q2 h
      refine x_iload_n dX8_taken_39 rfl ?_
      refine x_iconst (v := 3) dX8_taken_40 rfl ?_
      refine x_icmp_ne (tgt := 48) dX8_taken_41 rfl (fun q3 => ?_) (fun q3 => ?_)
      · replace h := itF q3 h
        refine x_iload_n dX8_taken_48 rfl ?_
        refine x_iconst (v := 4) dX8_taken_49 rfl ?_
        refine x_icmp_ne (tgt := 57) dX8_taken_50 rfl (fun q4 => ?_) (fun q4 => ?_)
        · replace h := itF q4 h
          refine x_iconst (v := 0) dX8_taken_57 rfl ?_
          refine x_istore_n dX8_taken_58 rfl (Nat.le_of_ble_eq_true rfl) (L2 := [_, _, _, _]) rfl ?_
          refine x_goto (tgt := 30) dX8_taken_59 rfl ?_
          exact h
        · replace h := itT q4 h
          refine x_iconst (v := 2) dX8_taken_53 rfl ?_
          refine x_goto (tgt := 58) dX8_taken_54 rfl ?_
          refine x_istore_n dX8_taken_58 rfl (Nat.le_of_ble_eq_true rfl) (L2 := [_, _, _, _]) rfl ?_
          refine x_goto (tgt := 30) dX8_taken_59 rfl ?_
          exact h
      · replace h := itT q3 h
        refine x_iconst (v := 1) dX8_taken_44 rfl ?_
        refine x_goto (tgt := 58) dX8_taken_45 rfl ?_
        refine x_istore_n dX8_taken_58 rfl (Nat.le_of_ble_eq_true rfl) (L2 := [_, _, _, _]) rfl ?_
        refine x_goto (tgt := 30) dX8_taken_59 rfl ?_
        exact h
