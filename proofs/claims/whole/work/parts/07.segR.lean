set_option maxRecDepth 20000 in
theorem s_X4_put {d : Nat} {g : zG} {σ : zI} {K : Int32 → zI → Prop} (hg : zGL g) {l1 : Int32} (h : (if ((σ 4 1) < (nI 160) : Prop) then vp_in (σ 4 1) 160 ∧ K 1 (zsI (zsI σ 5 ((σ 4 1 : Int32).toNatClampNeg) l1) 4 1 ((σ 4 1) + 1)) else K 0 σ)) : zCI mX4_put d [.ref 4, .int l1] g σ K := by
  refine c_of_x pn_mX4_put rfl (Nat.le_of_ble_eq_true rfl) ?_
  change zX _ _ 0 0 0 [.ref 4, .int l1] [] g σ _
  refine x_aload_n dX4_put_0 rfl ?_
  refine x_getI dX4_put_1 fl_X4_15 (gL_4 hg) rfl ?_
  refine x_aload_n dX4_put_4 rfl ?_
  refine x_getR dX4_put_5 fl_X4_11 (gL_4 hg) rfl (gL_4_0 hg) ?_
  refine x_alen1 dX4_put_8 (gL_5 hg) ?_
  refine x_icmp_lt (tgt := 14) dX4_put_9 rfl (fun q1 => ?_) (fun q1 => ?_)
  · replace h := itT q1 h
    refine x_aload_n dX4_put_14 rfl ?_
    refine x_getR dX4_put_15 fl_X4_11 (gL_4 hg) rfl (gL_4_0 hg) ?_
    refine x_aload_n dX4_put_18 rfl ?_
    refine x_getI dX4_put_19 fl_X4_15 (gL_4 hg) rfl ?_
    refine x_iload_n dX4_put_22 rfl ?_
    obtain ⟨q2, h⟩ := h
    refine x_iast dX4_put_23 (gL_5 hg) q2 ?_
    refine x_aload_n dX4_put_24 rfl ?_
    refine x_dup dX4_put_25 rfl ?_
    refine x_getI dX4_put_26 fl_X4_15 (gL_4 hg) rfl ?_
    refine x_iconst (v := 1) dX4_put_29 rfl ?_
    refine x_iadd dX4_put_30 ?_
    refine x_putI dX4_put_31 fl_X4_15 (gL_4 hg) rfl rfl ?_
    refine x_iconst (v := 1) dX4_put_34 rfl ?_
    exact x_iret (S := []) dX4_put_35 rfl rfl ⟨_, rfl, rfl, h⟩
  · replace h := itF q1 h
    refine x_iconst (v := 0) dX4_put_12 rfl ?_
    exact x_iret (S := []) dX4_put_13 rfl rfl ⟨_, rfl, rfl, h⟩
abbrev p_X4_read_21 (d : Nat) (g : zG) (K : Int32 → zI → Prop) (σ : zI) (l2 : Nat) (l3 : Int32) : Prop := zX mX4_read (d + 1) 0 0 21 [.ref 4, .retAddr 0, .ref l2, .int l3] [] g σ (zqI g K)
set_option maxRecDepth 20000 in
theorem s_X4_read {d : Nat} {g : zG} {σ : zI} {K : Int32 → zI → Prop} (hg : zGL g) {l1 n1 : Nat} (h1 : zAr g l1 1 n1) {l2 n2 : Nat} (h2 : zAr g l2 1 n2) (h : zCV mX4_next d [.ref 4] g (zsI (zsI (zsI σ 4 6 (nI (l1 + 1))) 4 7 0) 4 2 0) (fun σ1 => p_X4_read_21 d g K σ1 l2 0)) : zCI mX4_read (d + 1) [.ref 4, .ref l1, .ref l2] g σ K := by
  refine c_of_x pn_mX4_read rfl (Nat.le_of_ble_eq_true rfl) ?_
  change zX _ _ 0 0 0 [.ref 4, .ref l1, .ref l2] [] g σ _
  refine x_aload_n dX4_read_0 rfl ?_
  refine x_aload_n dX4_read_1 rfl ?_
  refine x_putD dX4_read_2 fl_X4_19 (gL_4 hg) rfl h1.1 ?_
  refine x_aload_n dX4_read_5 rfl ?_
  refine x_iconst (v := 0) dX4_read_6 rfl ?_
  refine x_putI dX4_read_7 fl_X4_22 (gL_4 hg) rfl rfl ?_
  refine x_aload_n dX4_read_10 rfl ?_
  refine x_iconst (v := 0) dX4_read_11 rfl ?_
  refine x_putI dX4_read_12 fl_X4_25 (gL_4 hg) rfl rfl ?_
  refine x_aload_n dX4_read_15 rfl ?_
  refine x_callV (Y2 := mX4_next) (as := []) (S := []) (kc2 := 0) (ks2 := 0) mv_mX4_next (Or.inl ⟨4, _, rfl, rfl, (gL_4 hg)⟩) dX4_read_16 lk_X4_28 mo_mX4_next rfl rfl (Nat.le_of_ble_eq_true rfl) (Or.inl rfl) rfl rfl h ?_
  rintro _ _ σ1 ⟨rfl, rfl, h⟩
  change zX _ _ 0 0 19 _ [] _ _ _
  refine x_iconst (v := 0) dX4_read_19 rfl ?_
  refine x_istore_n dX4_read_20 rfl (Nat.le_of_ble_eq_true rfl) (L2 := [_, _, _, _]) rfl ?_
  exact x_wk (wC (wJ (wC (wC (wN _))))) h
set_option maxRecDepth 20000 in
theorem s_X4_read_21 {d : Nat} {g : zG} {σ : zI} {K : Int32 → zI → Prop} (hg : zGL g) {l2 n_l2 : Nat} (h_l2 : zAr g l2 1 n_l2) {l3 : Int32} (h : (if ((nI n_l2) ≤ l3 : Prop) then (if (l3 = (nI n_l2) : Prop) then (if ((σ 4 3) = 1 : Prop) then K (-1) (zsI σ 4 1 0) else K (σ 4 4) (zsI σ 4 1 0)) else K (σ 4 4) (zsI σ 4 1 0)) else (if ((σ 4 3) = (1006 + l3) : Prop) then vp_in l3 n_l2 ∧ zCV mX4_next d [.ref 4] g (zsI σ l2 l3.toNatClampNeg (σ 4 7)) (fun σ1 => zCI mX4_either d [.ref 4, .int 0] g σ1 (fun v1 σ2 => (if (v1 = 0 : Prop) then (if (l3 = (nI n_l2) : Prop) then (if ((σ2 4 3) = 1 : Prop) then K (-1) (zsI σ2 4 1 0) else K (σ2 4 4) (zsI σ2 4 1 0)) else K (σ2 4 4) (zsI σ2 4 1 0)) else (if ((σ2 4 3) = 59 : Prop) then zCV mX4_write d [.ref 4, .int (-30)] g σ2 (fun σ3 => zCV mX4_next d [.ref 4] g σ3 (fun σ4 => p_X4_read_21 d g K σ4 l2 (l3 + 1))) else (if (l3 = (nI n_l2) : Prop) then (if ((σ2 4 3) = 1 : Prop) then K (-1) (zsI σ2 4 1 0) else K (σ2 4 4) (zsI σ2 4 1 0)) else K (σ2 4 4) (zsI σ2 4 1 0)))))) else (if (l3 = (nI n_l2) : Prop) then (if ((σ 4 3) = 1 : Prop) then K (-1) (zsI σ 4 1 0) else K (σ 4 4) (zsI σ 4 1 0)) else K (σ 4 4) (zsI σ 4 1 0))))) : p_X4_read_21 d g K σ l2 l3 := by
  refine x_iload_n dX4_read_21 rfl ?_
  refine x_aload_n dX4_read_22 rfl ?_
  refine x_alen1 dX4_read_23 h_l2 ?_
  refine x_icmp_ge (tgt := 86) dX4_read_24 rfl (fun q1 => ?_) (fun q1 => ?_)
  · replace h := itT q1 h
    refine x_aload_n dX4_read_86 rfl ?_
    refine x_iconst (v := 0) dX4_read_87 rfl ?_
    refine x_putI dX4_read_88 fl_X4_15 (gL_4 hg) rfl rfl ?_
    refine x_iload_n dX4_read_91 rfl ?_
    refine x_aload_n dX4_read_92 rfl ?_
    refine x_alen1 dX4_read_93 h_l2 ?_
    refine x_icmp_ne (tgt := 109) dX4_read_94 rfl (fun q2 => ?_) (fun q2 => ?_)
    · replace h := itF q2 h
      refine x_aload_n dX4_read_109 rfl ?_
      refine x_getI dX4_read_110 fl_X4_42 (gL_4 hg) rfl ?_
      exact x_iret (S := []) dX4_read_113 rfl rfl ⟨_, rfl, rfl, h⟩
    · replace h := itT q2 h
      refine x_aload_n dX4_read_97 rfl ?_
      refine x_getI dX4_read_98 fl_X4_31 (gL_4 hg) rfl ?_
      refine x_iconst (v := 1) dX4_read_101 rfl ?_
      refine x_icmp_ne (tgt := 109) dX4_read_102 rfl (fun q3 => ?_) (fun q3 => ?_)
      · replace h := itF q3 h
        refine x_aload_n dX4_read_109 rfl ?_
        refine x_getI dX4_read_110 fl_X4_42 (gL_4 hg) rfl ?_
        exact x_iret (S := []) dX4_read_113 rfl rfl ⟨_, rfl, rfl, h⟩
      · replace h := itT q3 h
        refine x_iconst (v := (-1)) dX4_read_105 rfl ?_
        refine x_goto (tgt := 113) dX4_read_106 rfl ?_
        exact x_iret (S := []) dX4_read_113 rfl rfl ⟨_, rfl, rfl, h⟩
  · replace h := itF q1 h
    refine x_aload_n dX4_read_27 rfl ?_
    refine x_getI dX4_read_28 fl_X4_31 (gL_4 hg) rfl ?_
    refine x_sipush (v := 1006) dX4_read_31 rfl ?_
    refine x_iload_n dX4_read_34 rfl ?_
    refine x_iadd dX4_read_35 ?_
    refine x_icmp_ne (tgt := 86) dX4_read_36 rfl (fun q2 => ?_) (fun q2 => ?_)
    · replace h := itF q2 h
      refine x_aload_n dX4_read_86 rfl ?_
      refine x_iconst (v := 0) dX4_read_87 rfl ?_
      refine x_putI dX4_read_88 fl_X4_15 (gL_4 hg) rfl rfl ?_
      refine x_iload_n dX4_read_91 rfl ?_
      refine x_aload_n dX4_read_92 rfl ?_
      refine x_alen1 dX4_read_93 h_l2 ?_
      refine x_icmp_ne (tgt := 109) dX4_read_94 rfl (fun q3 => ?_) (fun q3 => ?_)
      · replace h := itF q3 h
        refine x_aload_n dX4_read_109 rfl ?_
        refine x_getI dX4_read_110 fl_X4_42 (gL_4 hg) rfl ?_
        exact x_iret (S := []) dX4_read_113 rfl rfl ⟨_, rfl, rfl, h⟩
      · replace h := itT q3 h
        refine x_aload_n dX4_read_97 rfl ?_
        refine x_getI dX4_read_98 fl_X4_31 (gL_4 hg) rfl ?_
        refine x_iconst (v := 1) dX4_read_101 rfl ?_
        refine x_icmp_ne (tgt := 109) dX4_read_102 rfl (fun q4 => ?_) (fun q4 => ?_)
        · replace h := itF q4 h
          refine x_aload_n dX4_read_109 rfl ?_
          refine x_getI dX4_read_110 fl_X4_42 (gL_4 hg) rfl ?_
          exact x_iret (S := []) dX4_read_113 rfl rfl ⟨_, rfl, rfl, h⟩
        · replace h := itT q4 h
          refine x_iconst (v := (-1)) dX4_read_105 rfl ?_
          refine x_goto (tgt := 113) dX4_read_106 rfl ?_
          exact x_iret (S := []) dX4_read_113 rfl rfl ⟨_, rfl, rfl, h⟩
    · replace h := itT q2 h
      refine x_aload_n dX4_read_39 rfl ?_
      refine x_iload_n dX4_read_40 rfl ?_
      refine x_aload_n dX4_read_41 rfl ?_
      refine x_getI dX4_read_42 fl_X4_22 (gL_4 hg) rfl ?_
      obtain ⟨q3, h⟩ := h
      refine x_iast dX4_read_45 h_l2 q3 ?_
      refine x_aload_n dX4_read_46 rfl ?_
      refine x_callV (Y2 := mX4_next) (as := []) (S := []) (kc2 := 0) (ks2 := 0) mv_mX4_next (Or.inl ⟨4, _, rfl, rfl, (gL_4 hg)⟩) dX4_read_47 lk_X4_28 mo_mX4_next rfl rfl (Nat.le_of_ble_eq_true rfl) (Or.inl rfl) rfl rfl h ?_
      rintro _ _ σ1 ⟨rfl, rfl, h⟩
      change zX _ _ 0 0 50 _ [] _ _ _
      refine x_aload_n dX4_read_50 rfl ?_
      refine x_iconst (v := 0) dX4_read_51 rfl ?_
      refine x_callV (Y2 := mX4_either) (as := [.int 0]) (S := []) (kc2 := 0) (ks2 := 0) mv_mX4_either (Or.inl ⟨4, _, rfl, rfl, (gL_4 hg)⟩) dX4_read_52 lk_X4_34 mo_mX4_either rfl rfl (Nat.le_of_ble_eq_true rfl) (Or.inl rfl) rfl rfl h ?_
      rintro _ _ σ2 ⟨v1, rfl, rfl, h⟩
      change zX _ _ 0 0 55 _ [.int v1] _ _ _
      refine x_if_eq (tgt := 86) dX4_read_55 rfl (fun q4 => ?_) (fun q4 => ?_)
      · replace h := itT q4 h
        refine x_aload_n dX4_read_86 rfl ?_
        refine x_iconst (v := 0) dX4_read_87 rfl ?_
        refine x_putI dX4_read_88 fl_X4_15 (gL_4 hg) rfl rfl ?_
        refine x_iload_n dX4_read_91 rfl ?_
        refine x_aload_n dX4_read_92 rfl ?_
        refine x_alen1 dX4_read_93 h_l2 ?_
        refine x_icmp_ne (tgt := 109) dX4_read_94 rfl (fun q5 => ?_) (fun q5 => ?_)
        · replace h := itF q5 h
          refine x_aload_n dX4_read_109 rfl ?_
          refine x_getI dX4_read_110 fl_X4_42 (gL_4 hg) rfl ?_
          exact x_iret (S := []) dX4_read_113 rfl rfl ⟨_, rfl, rfl, h⟩
        · replace h := itT q5 h
          refine x_aload_n dX4_read_97 rfl ?_
          refine x_getI dX4_read_98 fl_X4_31 (gL_4 hg) rfl ?_
          refine x_iconst (v := 1) dX4_read_101 rfl ?_
          refine x_icmp_ne (tgt := 109) dX4_read_102 rfl (fun q6 => ?_) (fun q6 => ?_)
          · replace h := itF q6 h
            refine x_aload_n dX4_read_109 rfl ?_
            refine x_getI dX4_read_110 fl_X4_42 (gL_4 hg) rfl ?_
            exact x_iret (S := []) dX4_read_113 rfl rfl ⟨_, rfl, rfl, h⟩
          · replace h := itT q6 h
            refine x_iconst (v := (-1)) dX4_read_105 rfl ?_
            refine x_goto (tgt := 113) dX4_read_106 rfl ?_
            exact x_iret (S := []) dX4_read_113 rfl rfl ⟨_, rfl, rfl, h⟩
      · replace h := itF q4 h
        refine x_aload_n dX4_read_58 rfl ?_
        refine x_getI dX4_read_59 fl_X4_31 (gL_4 hg) rfl ?_
        refine x_bipush (v := 59) dX4_read_62 rfl ?_
        refine x_icmp_eq (tgt := 70) dX4_read_64 rfl (fun q5 => ?_) (fun q5 => ?_)
        · replace h := itT q5 h
          refine x_aload_n dX4_read_70 rfl ?_
          refine x_bipush (v := (-30)) dX4_read_71 rfl ?_
          refine x_callV (Y2 := mX4_write) (as := [.int (-30)]) (S := []) (kc2 := 0) (ks2 := 0) mv_mX4_write (Or.inl ⟨4, _, rfl, rfl, (gL_4 hg)⟩) dX4_read_73 lk_X4_38 mo_mX4_write rfl rfl (Nat.le_of_ble_eq_true rfl) (Or.inl rfl) rfl rfl h ?_
          rintro _ _ σ3 ⟨rfl, rfl, h⟩
          change zX _ _ 0 0 76 _ [] _ _ _
          refine x_aload_n dX4_read_76 rfl ?_
          refine x_callV (Y2 := mX4_next) (as := []) (S := []) (kc2 := 0) (ks2 := 0) mv_mX4_next (Or.inl ⟨4, _, rfl, rfl, (gL_4 hg)⟩) dX4_read_77 lk_X4_28 mo_mX4_next rfl rfl (Nat.le_of_ble_eq_true rfl) (Or.inl rfl) rfl rfl h ?_
          rintro _ _ σ4 ⟨rfl, rfl, h⟩
          change zX _ _ 0 0 80 _ [] _ _ _
          refine x_iinc dX4_read_80 rfl (v := l3 + 1) rfl rfl (Nat.le_of_ble_eq_true rfl) (L2 := [_, _, _, _]) rfl ?_
          refine x_goto (tgt := 21) dX4_read_83 rfl ?_
          exact h
        · replace h := itF q5 h
          refine x_goto (tgt := 86) dX4_read_67 rfl ?_
          refine x_aload_n dX4_read_86 rfl ?_
          refine x_iconst (v := 0) dX4_read_87 rfl ?_
          refine x_putI dX4_read_88 fl_X4_15 (gL_4 hg) rfl rfl ?_
          refine x_iload_n dX4_read_91 rfl ?_
          refine x_aload_n dX4_read_92 rfl ?_
          refine x_alen1 dX4_read_93 h_l2 ?_
          refine x_icmp_ne (tgt := 109) dX4_read_94 rfl (fun q6 => ?_) (fun q6 => ?_)
          · replace h := itF q6 h
            refine x_aload_n dX4_read_109 rfl ?_
            refine x_getI dX4_read_110 fl_X4_42 (gL_4 hg) rfl ?_
            exact x_iret (S := []) dX4_read_113 rfl rfl ⟨_, rfl, rfl, h⟩
          · replace h := itT q6 h
            refine x_aload_n dX4_read_97 rfl ?_
            refine x_getI dX4_read_98 fl_X4_31 (gL_4 hg) rfl ?_
            refine x_iconst (v := 1) dX4_read_101 rfl ?_
            refine x_icmp_ne (tgt := 109) dX4_read_102 rfl (fun q7 => ?_) (fun q7 => ?_)
            · replace h := itF q7 h
              refine x_aload_n dX4_read_109 rfl ?_
              refine x_getI dX4_read_110 fl_X4_42 (gL_4 hg) rfl ?_
              exact x_iret (S := []) dX4_read_113 rfl rfl ⟨_, rfl, rfl, h⟩
            · replace h := itT q7 h
              refine x_iconst (v := (-1)) dX4_read_105 rfl ?_
              refine x_goto (tgt := 113) dX4_read_106 rfl ?_
              exact x_iret (S := []) dX4_read_113 rfl rfl ⟨_, rfl, rfl, h⟩
abbrev p_X4_next_0 (d : Nat) (g : zG) (K : zI → Prop) (σ : zI)  : Prop := zX mX4_next (d + 1) 0 0 0 [.ref 4] [] g σ (zqV g K)
abbrev p_X4_next_52 (d : Nat) (g : zG) (K : zI → Prop) (σ : zI)  : Prop := zX mX4_next (d + 1) 0 0 52 [.ref 4] [] g σ (zqV g K)
set_option maxRecDepth 20000 in
theorem s_X4_next {d : Nat} {g : zG} {σ : zI} {K : zI → Prop} (hg : zGL g)  (h : (if ((σ 4 1) ≤ (σ 4 2) : Prop) then p_X4_next_52 d g K σ else vp_in (σ 4 2) 160 ∧ (if ((σ 5 ((σ 4 2 : Int32).toNatClampNeg)) = 32 : Prop) then p_X4_next_0 d g K (zsI σ 4 2 ((σ 4 2) + 1)) else vp_in (σ 4 2) 160 ∧ (if ((σ 5 ((σ 4 2 : Int32).toNatClampNeg)) = 10 : Prop) then p_X4_next_0 d g K (zsI σ 4 2 ((σ 4 2) + 1)) else p_X4_next_52 d g K σ)))) : zCV mX4_next (d + 1) [.ref 4] g σ K := by
  refine c_of_x pn_mX4_next rfl (Nat.le_of_ble_eq_true rfl) ?_
  change zX _ _ 0 0 0 [.ref 4] [] g σ _
  refine x_aload_n dX4_next_0 rfl ?_
  refine x_getI dX4_next_1 fl_X4_25 (gL_4 hg) rfl ?_
  refine x_aload_n dX4_next_4 rfl ?_
  refine x_getI dX4_next_5 fl_X4_15 (gL_4 hg) rfl ?_
  refine x_icmp_ge (tgt := 52) dX4_next_8 rfl (fun q1 => ?_) (fun q1 => ?_)
  · replace h := itT q1 h
    exact h
  · replace h := itF q1 h
    refine x_aload_n dX4_next_11 rfl ?_
    refine x_getR dX4_next_12 fl_X4_11 (gL_4 hg) rfl (gL_4_0 hg) ?_
    refine x_aload_n dX4_next_15 rfl ?_
    refine x_getI dX4_next_16 fl_X4_25 (gL_4 hg) rfl ?_
    obtain ⟨q2, h⟩ := h
    refine x_iald dX4_next_19 (gL_5 hg) q2 ?_
    refine x_bipush (v := 32) dX4_next_20 rfl ?_
    refine x_icmp_eq (tgt := 39) dX4_next_22 rfl (fun q3 => ?_) (fun q3 => ?_)
    · replace h := itT q3 h
      refine x_aload_n dX4_next_39 rfl ?_
      refine x_dup dX4_next_40 rfl ?_
      refine x_getI dX4_next_41 fl_X4_25 (gL_4 hg) rfl ?_
      refine x_iconst (v := 1) dX4_next_44 rfl ?_
      refine x_iadd dX4_next_45 ?_
      refine x_putI dX4_next_46 fl_X4_25 (gL_4 hg) rfl rfl ?_
      refine x_goto (tgt := 0) dX4_next_49 rfl ?_
      exact h
    · replace h := itF q3 h
      refine x_aload_n dX4_next_25 rfl ?_
      refine x_getR dX4_next_26 fl_X4_11 (gL_4 hg) rfl (gL_4_0 hg) ?_
      refine x_aload_n dX4_next_29 rfl ?_
      refine x_getI dX4_next_30 fl_X4_25 (gL_4 hg) rfl ?_
      obtain ⟨q4, h⟩ := h
      refine x_iald dX4_next_33 (gL_5 hg) q4 ?_
      refine x_bipush (v := 10) dX4_next_34 rfl ?_
      refine x_icmp_ne (tgt := 52) dX4_next_36 rfl (fun q5 => ?_) (fun q5 => ?_)
      · replace h := itF q5 h
        exact h
      · replace h := itT q5 h
        refine x_aload_n dX4_next_39 rfl ?_
        refine x_dup dX4_next_40 rfl ?_
        refine x_getI dX4_next_41 fl_X4_25 (gL_4 hg) rfl ?_
        refine x_iconst (v := 1) dX4_next_44 rfl ?_
        refine x_iadd dX4_next_45 ?_
        refine x_putI dX4_next_46 fl_X4_25 (gL_4 hg) rfl rfl ?_
        refine x_goto (tgt := 0) dX4_next_49 rfl ?_
        exact h
set_option maxRecDepth 20000 in
theorem s_X4_next_52 {d : Nat} {g : zG} {σ : zI} {K : zI → Prop} (hg : zGL g)  (h : (if ((σ 4 2) < (σ 4 1) : Prop) then vp_in (σ 4 2) 160 ∧ zCI mX4_isLetter d [.int (σ 5 ((σ 4 2 : Int32).toNatClampNeg))] g (zsI (zsI σ 4 4 (σ 4 2)) 4 2 ((σ 4 2) + 1)) (fun v1 σ1 => (if (v1 = 0 : Prop) then zCI mX4_isDigit d [.int (σ 5 ((σ 4 2 : Int32).toNatClampNeg))] g σ1 (fun v2 σ2 => (if (v2 = 0 : Prop) then zCI mX4_isSign d [.int (σ 5 ((σ 4 2 : Int32).toNatClampNeg))] g σ2 (fun v3 σ3 => (if (v3 = 0 : Prop) then K (zsI σ3 4 3 0) else K (zsI σ3 4 3 (σ 5 ((σ 4 2 : Int32).toNatClampNeg))))) else zCV mX4_nextNumber d [.ref 4] g σ2 (fun σ3 => K σ3))) else zCV mX4_nextWord d [.ref 4] g σ1 (fun σ2 => K σ2))) else K (zsI (zsI σ 4 4 (σ 4 2)) 4 3 1))) : p_X4_next_52 d g K σ  := by
  refine x_aload_n dX4_next_52 rfl ?_
  refine x_aload_n dX4_next_53 rfl ?_
  refine x_getI dX4_next_54 fl_X4_25 (gL_4 hg) rfl ?_
  refine x_putI dX4_next_57 fl_X4_42 (gL_4 hg) rfl rfl ?_
  refine x_aload_n dX4_next_60 rfl ?_
  refine x_getI dX4_next_61 fl_X4_25 (gL_4 hg) rfl ?_
  refine x_aload_n dX4_next_64 rfl ?_
  refine x_getI dX4_next_65 fl_X4_15 (gL_4 hg) rfl ?_
  refine x_icmp_lt (tgt := 77) dX4_next_68 rfl (fun q1 => ?_) (fun q1 => ?_)
  · replace h := itT q1 h
    refine x_aload_n dX4_next_77 rfl ?_
    refine x_getR dX4_next_78 fl_X4_11 (gL_4 hg) rfl (gL_4_0 hg) ?_
    refine x_aload_n dX4_next_81 rfl ?_
    refine x_getI dX4_next_82 fl_X4_25 (gL_4 hg) rfl ?_
    obtain ⟨q2, h⟩ := h
    refine x_iald dX4_next_85 (gL_5 hg) q2 ?_
    refine x_istore_n dX4_next_86 rfl (Nat.le_of_ble_eq_true rfl) (L2 := [_, _]) rfl ?_
    refine x_aload_n dX4_next_87 rfl ?_
    refine x_dup dX4_next_88 rfl ?_
    refine x_getI dX4_next_89 fl_X4_25 (gL_4 hg) rfl ?_
    refine x_iconst (v := 1) dX4_next_92 rfl ?_
    refine x_iadd dX4_next_93 ?_
    refine x_putI dX4_next_94 fl_X4_25 (gL_4 hg) rfl rfl ?_
    refine x_iload_n dX4_next_97 rfl ?_
    refine x_callS (Y2 := mX4_isLetter) (as := [.int (σ 5 ((σ 4 2 : Int32).toNatClampNeg))]) (S := []) (kc2 := 0) (ks2 := 0) st_mX4_isLetter dX4_next_98 lk_X4_72 mo_mX4_isLetter rfl rfl (Nat.le_of_ble_eq_true rfl) (Or.inl rfl) rfl rfl h ?_
    rintro _ _ σ1 ⟨v1, rfl, rfl, h⟩
    change zX _ _ 0 0 101 _ [.int v1] _ _ _
    refine x_if_eq (tgt := 111) dX4_next_101 rfl (fun q3 => ?_) (fun q3 => ?_)
    · replace h := itT q3 h
      refine x_iload_n dX4_next_111 rfl ?_
      refine x_callS (Y2 := mX4_isDigit) (as := [.int (σ 5 ((σ 4 2 : Int32).toNatClampNeg))]) (S := []) (kc2 := 0) (ks2 := 0) st_mX4_isDigit dX4_next_112 lk_X4_78 mo_mX4_isDigit rfl rfl (Nat.le_of_ble_eq_true rfl) (Or.inl rfl) rfl rfl h ?_
      rintro _ _ σ2 ⟨v2, rfl, rfl, h⟩
      change zX _ _ 0 0 115 _ [.int v2] _ _ _
      refine x_if_eq (tgt := 125) dX4_next_115 rfl (fun q4 => ?_) (fun q4 => ?_)
      · replace h := itT q4 h
        refine x_aload_n dX4_next_125 rfl ?_
        refine x_iload_n dX4_next_126 rfl ?_
        refine x_callS (Y2 := mX4_isSign) (as := [.int (σ 5 ((σ 4 2 : Int32).toNatClampNeg))]) (S := [.ref 4]) (kc2 := 0) (ks2 := 0) st_mX4_isSign dX4_next_127 lk_X4_84 mo_mX4_isSign rfl rfl (Nat.le_of_ble_eq_true rfl) (Or.inl rfl) rfl rfl h ?_
        rintro _ _ σ3 ⟨v3, rfl, rfl, h⟩
        change zX _ _ 0 0 130 _ [.int v3, .ref 4] _ _ _
        refine x_if_eq (tgt := 137) dX4_next_130 rfl (fun q5 => ?_) (fun q5 => ?_)
        · replace h := itT q5 h
          refine x_iconst (v := 0) dX4_next_137 rfl ?_
          refine x_putI dX4_next_138 fl_X4_31 (gL_4 hg) rfl rfl ?_
          exact x_vret (S := []) dX4_next_141 rfl ⟨rfl, rfl, h⟩
        · replace h := itF q5 h
          refine x_iload_n dX4_next_133 rfl ?_
          refine x_goto (tgt := 138) dX4_next_134 rfl ?_
          refine x_putI dX4_next_138 fl_X4_31 (gL_4 hg) rfl rfl ?_
          exact x_vret (S := []) dX4_next_141 rfl ⟨rfl, rfl, h⟩
      · replace h := itF q4 h
        refine x_aload_n dX4_next_118 rfl ?_
        refine x_callV (Y2 := mX4_nextNumber) (as := []) (S := []) (kc2 := 0) (ks2 := 0) mv_mX4_nextNumber (Or.inl ⟨4, _, rfl, rfl, (gL_4 hg)⟩) dX4_next_119 lk_X4_81 mo_mX4_nextNumber rfl rfl (Nat.le_of_ble_eq_true rfl) (Or.inl rfl) rfl rfl h ?_
        rintro _ _ σ3 ⟨rfl, rfl, h⟩
        change zX _ _ 0 0 122 _ [] _ _ _
        refine x_goto (tgt := 141) dX4_next_122 rfl ?_
        exact x_vret (S := []) dX4_next_141 rfl ⟨rfl, rfl, h⟩
    · replace h := itF q3 h
      refine x_aload_n dX4_next_104 rfl ?_
      refine x_callV (Y2 := mX4_nextWord) (as := []) (S := []) (kc2 := 0) (ks2 := 0) mv_mX4_nextWord (Or.inl ⟨4, _, rfl, rfl, (gL_4 hg)⟩) dX4_next_105 lk_X4_75 mo_mX4_nextWord rfl rfl (Nat.le_of_ble_eq_true rfl) (Or.inl rfl) rfl rfl h ?_
      rintro _ _ σ2 ⟨rfl, rfl, h⟩
      change zX _ _ 0 0 108 _ [] _ _ _
      refine x_goto (tgt := 141) dX4_next_108 rfl ?_
      exact x_vret (S := []) dX4_next_141 rfl ⟨rfl, rfl, h⟩
  · replace h := itF q1 h
    refine x_aload_n dX4_next_71 rfl ?_
    refine x_iconst (v := 1) dX4_next_72 rfl ?_
    refine x_putI dX4_next_73 fl_X4_31 (gL_4 hg) rfl rfl ?_
    exact x_vret (S := []) dX4_next_76 rfl ⟨rfl, rfl, h⟩
set_option maxRecDepth 20000 in
theorem s_X4_next_0 {d : Nat} {g : zG} {σ : zI} {K : zI → Prop} (hg : zGL g)  (h : (if ((σ 4 1) ≤ (σ 4 2) : Prop) then p_X4_next_52 d g K σ else vp_in (σ 4 2) 160 ∧ (if ((σ 5 ((σ 4 2 : Int32).toNatClampNeg)) = 32 : Prop) then p_X4_next_0 d g K (zsI σ 4 2 ((σ 4 2) + 1)) else vp_in (σ 4 2) 160 ∧ (if ((σ 5 ((σ 4 2 : Int32).toNatClampNeg)) = 10 : Prop) then p_X4_next_0 d g K (zsI σ 4 2 ((σ 4 2) + 1)) else p_X4_next_52 d g K σ)))) : p_X4_next_0 d g K σ  := by
  refine x_aload_n dX4_next_0 rfl ?_
  refine x_getI dX4_next_1 fl_X4_25 (gL_4 hg) rfl ?_
  refine x_aload_n dX4_next_4 rfl ?_
  refine x_getI dX4_next_5 fl_X4_15 (gL_4 hg) rfl ?_
  refine x_icmp_ge (tgt := 52) dX4_next_8 rfl (fun q1 => ?_) (fun q1 => ?_)
  · replace h := itT q1 h
    exact h
  · replace h := itF q1 h
    refine x_aload_n dX4_next_11 rfl ?_
    refine x_getR dX4_next_12 fl_X4_11 (gL_4 hg) rfl (gL_4_0 hg) ?_
    refine x_aload_n dX4_next_15 rfl ?_
    refine x_getI dX4_next_16 fl_X4_25 (gL_4 hg) rfl ?_
    obtain ⟨q2, h⟩ := h
    refine x_iald dX4_next_19 (gL_5 hg) q2 ?_
    refine x_bipush (v := 32) dX4_next_20 rfl ?_
    refine x_icmp_eq (tgt := 39) dX4_next_22 rfl (fun q3 => ?_) (fun q3 => ?_)
    · replace h := itT q3 h
      refine x_aload_n dX4_next_39 rfl ?_
      refine x_dup dX4_next_40 rfl ?_
      refine x_getI dX4_next_41 fl_X4_25 (gL_4 hg) rfl ?_
      refine x_iconst (v := 1) dX4_next_44 rfl ?_
      refine x_iadd dX4_next_45 ?_
      refine x_putI dX4_next_46 fl_X4_25 (gL_4 hg) rfl rfl ?_
      refine x_goto (tgt := 0) dX4_next_49 rfl ?_
      exact h
    · replace h := itF q3 h
      refine x_aload_n dX4_next_25 rfl ?_
      refine x_getR dX4_next_26 fl_X4_11 (gL_4 hg) rfl (gL_4_0 hg) ?_
      refine x_aload_n dX4_next_29 rfl ?_
      refine x_getI dX4_next_30 fl_X4_25 (gL_4 hg) rfl ?_
      obtain ⟨q4, h⟩ := h
      refine x_iald dX4_next_33 (gL_5 hg) q4 ?_
      refine x_bipush (v := 10) dX4_next_34 rfl ?_
      refine x_icmp_ne (tgt := 52) dX4_next_36 rfl (fun q5 => ?_) (fun q5 => ?_)
      · replace h := itF q5 h
        exact h
      · replace h := itT q5 h
        refine x_aload_n dX4_next_39 rfl ?_
        refine x_dup dX4_next_40 rfl ?_
        refine x_getI dX4_next_41 fl_X4_25 (gL_4 hg) rfl ?_
        refine x_iconst (v := 1) dX4_next_44 rfl ?_
        refine x_iadd dX4_next_45 ?_
        refine x_putI dX4_next_46 fl_X4_25 (gL_4 hg) rfl rfl ?_
        refine x_goto (tgt := 0) dX4_next_49 rfl ?_
        exact h
set_option maxRecDepth 20000 in
theorem s_X4_isLetter {d : Nat} {g : zG} {σ : zI} {K : Int32 → zI → Prop} (hg : zGL g) {l0 : Int32} (h : (if (l0 < 97 : Prop) then K 0 σ else (if (122 < l0 : Prop) then K 0 σ else K 1 σ))) : zCI mX4_isLetter d [.int l0] g σ K := by
  refine c_of_x pn_mX4_isLetter rfl (Nat.le_of_ble_eq_true rfl) ?_
  change zX _ _ 0 0 0 [.int l0] [] g σ _
  refine x_iload_n dX4_isLetter_0 rfl ?_
  refine x_bipush (v := 97) dX4_isLetter_1 rfl ?_
  refine x_icmp_lt (tgt := 16) dX4_isLetter_3 rfl (fun q1 => ?_) (fun q1 => ?_)
  · replace h := itT q1 h
    refine x_iconst (v := 0) dX4_isLetter_16 rfl ?_
    exact x_iret (S := []) dX4_isLetter_17 rfl rfl ⟨_, rfl, rfl, h⟩
  · replace h := itF q1 h
    refine x_iload_n dX4_isLetter_6 rfl ?_
    refine x_bipush (v := 122) dX4_isLetter_7 rfl ?_
    refine x_icmp_gt (tgt := 16) dX4_isLetter_9 rfl (fun q2 => ?_) (fun q2 => ?_)
    · replace h := itT q2 h
      refine x_iconst (v := 0) dX4_isLetter_16 rfl ?_
      exact x_iret (S := []) dX4_isLetter_17 rfl rfl ⟨_, rfl, rfl, h⟩
    · replace h := itF q2 h
      refine x_iconst (v := 1) dX4_isLetter_12 rfl ?_
      refine x_goto (tgt := 17) dX4_isLetter_13 rfl ?_
      exact x_iret (S := []) dX4_isLetter_17 rfl rfl ⟨_, rfl, rfl, h⟩
abbrev p_X4_nextWord_0 (d : Nat) (g : zG) (K : zI → Prop) (σ : zI)  : Prop := zX mX4_nextWord (d + 1) 0 0 0 [.ref 4] [] g σ (zqV g K)
abbrev p_X4_nextWord_46 (d : Nat) (g : zG) (K : zI → Prop) (σ : zI) (l1 : Int32) : Prop := zX mX4_nextWord (d + 1) 0 0 46 [.ref 4, .int l1] [] g σ (zqV g K)
set_option maxRecDepth 20000 in
theorem s_X4_nextWord {d : Nat} {g : zG} {σ : zI} {K : zI → Prop} (hg : zGL g)  (h : (if ((σ 4 1) ≤ (σ 4 2) : Prop) then p_X4_nextWord_46 d g K (zsI σ 4 3 0) 0 else vp_in (σ 4 2) 160 ∧ zCI mX4_isLetter d [.int (σ 5 ((σ 4 2 : Int32).toNatClampNeg))] g σ (fun v1 σ1 => (if (v1 = 0 : Prop) then p_X4_nextWord_46 d g K (zsI σ1 4 3 0) 0 else p_X4_nextWord_0 d g K (zsI σ1 4 2 ((σ1 4 2) + 1)))))) : zCV mX4_nextWord (d + 1) [.ref 4] g σ K := by
  refine c_of_x pn_mX4_nextWord rfl (Nat.le_of_ble_eq_true rfl) ?_
  change zX _ _ 0 0 0 [.ref 4] [] g σ _
  refine x_aload_n dX4_nextWord_0 rfl ?_
  refine x_getI dX4_nextWord_1 fl_X4_25 (gL_4 hg) rfl ?_
  refine x_aload_n dX4_nextWord_4 rfl ?_
  refine x_getI dX4_nextWord_5 fl_X4_15 (gL_4 hg) rfl ?_
  refine x_icmp_ge (tgt := 39) dX4_nextWord_8 rfl (fun q1 => ?_) (fun q1 => ?_)
  · replace h := itT q1 h
    refine x_aload_n dX4_nextWord_39 rfl ?_
    refine x_iconst (v := 0) dX4_nextWord_40 rfl ?_
    refine x_putI dX4_nextWord_41 fl_X4_31 (gL_4 hg) rfl rfl ?_
    refine x_iconst (v := 0) dX4_nextWord_44 rfl ?_
    refine x_istore_n dX4_nextWord_45 rfl (Nat.le_of_ble_eq_true rfl) (L2 := [_, _]) rfl ?_
    exact h
  · replace h := itF q1 h
    refine x_aload_n dX4_nextWord_11 rfl ?_
    refine x_getR dX4_nextWord_12 fl_X4_11 (gL_4 hg) rfl (gL_4_0 hg) ?_
    refine x_aload_n dX4_nextWord_15 rfl ?_
    refine x_getI dX4_nextWord_16 fl_X4_25 (gL_4 hg) rfl ?_
    obtain ⟨q2, h⟩ := h
    refine x_iald dX4_nextWord_19 (gL_5 hg) q2 ?_
    refine x_callS (Y2 := mX4_isLetter) (as := [.int (σ 5 ((σ 4 2 : Int32).toNatClampNeg))]) (S := []) (kc2 := 0) (ks2 := 0) st_mX4_isLetter dX4_nextWord_20 lk_X4_72 mo_mX4_isLetter rfl rfl (Nat.le_of_ble_eq_true rfl) (Or.inl rfl) rfl rfl h ?_
    rintro _ _ σ1 ⟨v1, rfl, rfl, h⟩
    change zX _ _ 0 0 23 _ [.int v1] _ _ _
    refine x_if_eq (tgt := 39) dX4_nextWord_23 rfl (fun q3 => ?_) (fun q3 => ?_)
    · replace h := itT q3 h
      refine x_aload_n dX4_nextWord_39 rfl ?_
      refine x_iconst (v := 0) dX4_nextWord_40 rfl ?_
      refine x_putI dX4_nextWord_41 fl_X4_31 (gL_4 hg) rfl rfl ?_
      refine x_iconst (v := 0) dX4_nextWord_44 rfl ?_
      refine x_istore_n dX4_nextWord_45 rfl (Nat.le_of_ble_eq_true rfl) (L2 := [_, _]) rfl ?_
      exact h
    · replace h := itF q3 h
      refine x_aload_n dX4_nextWord_26 rfl ?_
      refine x_dup dX4_nextWord_27 rfl ?_
      refine x_getI dX4_nextWord_28 fl_X4_25 (gL_4 hg) rfl ?_
      refine x_iconst (v := 1) dX4_nextWord_31 rfl ?_
      refine x_iadd dX4_nextWord_32 ?_
      refine x_putI dX4_nextWord_33 fl_X4_25 (gL_4 hg) rfl rfl ?_
      refine x_goto (tgt := 0) dX4_nextWord_36 rfl ?_
      exact h
set_option maxRecDepth 20000 in
theorem s_X4_nextWord_46 {d : Nat} {g : zG} {σ : zI} {K : zI → Prop} (hg : zGL g) {l1 : Int32} (h : (if (12 ≤ l1 : Prop) then K σ else zCR mX4_word d [.int l1] g σ (fun x1 σ1 => ∃ j1, x1 = some (1000 + j1) ∧ j1 < zNS ∧ zCI mX4_stands d [.ref 4, .ref (1000 + j1)] g σ1 (fun v1 σ2 => (if (v1 = 0 : Prop) then p_X4_nextWord_46 d g K σ2 (l1 + 1) else p_X4_nextWord_46 d g K (zsI σ2 4 3 (1000 + l1)) (l1 + 1)))))) : p_X4_nextWord_46 d g K σ l1 := by
  refine x_iload_n dX4_nextWord_46 rfl ?_
  refine x_bipush (v := 12) dX4_nextWord_47 rfl ?_
  refine x_icmp_ge (tgt := 78) dX4_nextWord_49 rfl (fun q1 => ?_) (fun q1 => ?_)
  · replace h := itT q1 h
    exact x_vret (S := []) dX4_nextWord_78 rfl ⟨rfl, rfl, h⟩
  · replace h := itF q1 h
    refine x_aload_n dX4_nextWord_52 rfl ?_
    refine x_iload_n dX4_nextWord_53 rfl ?_
    refine x_callS (Y2 := mX4_word) (as := [.int l1]) (S := [.ref 4]) (kc2 := 0) (ks2 := 0) st_mX4_word dX4_nextWord_54 lk_X4_87 mo_mX4_word rfl rfl (Nat.le_of_ble_eq_true rfl) (Or.inl rfl) rfl rfl h ?_
    rintro _ _ σ1 ⟨x1, rfl, rfl, h⟩
    obtain ⟨j1, rfl, q2, h⟩ := h
    change zX _ _ 0 0 57 _ [.ref (1000 + j1), .ref 4] _ _ _
    refine x_callV (Y2 := mX4_stands) (as := [.ref (1000 + j1)]) (S := []) (kc2 := 0) (ks2 := 0) mv_mX4_stands (Or.inl ⟨4, _, rfl, rfl, (gL_4 hg)⟩) dX4_nextWord_57 lk_X4_91 mo_mX4_stands rfl rfl (Nat.le_of_ble_eq_true rfl) (Or.inl rfl) rfl rfl h ?_
    rintro _ _ σ2 ⟨v1, rfl, rfl, h⟩
    change zX _ _ 0 0 60 _ [.int v1] _ _ _
    refine x_if_eq (tgt := 72) dX4_nextWord_60 rfl (fun q3 => ?_) (fun q3 => ?_)
    · replace h := itT q3 h
      refine x_iinc dX4_nextWord_72 rfl (v := l1 + 1) rfl rfl (Nat.le_of_ble_eq_true rfl) (L2 := [_, _]) rfl ?_
      refine x_goto (tgt := 46) dX4_nextWord_75 rfl ?_
      exact h
    · replace h := itF q3 h
      refine x_aload_n dX4_nextWord_63 rfl ?_
      refine x_sipush (v := 1000) dX4_nextWord_64 rfl ?_
      refine x_iload_n dX4_nextWord_67 rfl ?_
      refine x_iadd dX4_nextWord_68 ?_
      refine x_putI dX4_nextWord_69 fl_X4_31 (gL_4 hg) rfl rfl ?_
      refine x_iinc dX4_nextWord_72 rfl (v := l1 + 1) rfl rfl (Nat.le_of_ble_eq_true rfl) (L2 := [_, _]) rfl ?_
      refine x_goto (tgt := 46) dX4_nextWord_75 rfl ?_
      exact h
set_option maxRecDepth 20000 in
theorem s_X4_nextWord_0 {d : Nat} {g : zG} {σ : zI} {K : zI → Prop} (hg : zGL g)  (h : (if ((σ 4 1) ≤ (σ 4 2) : Prop) then p_X4_nextWord_46 d g K (zsI σ 4 3 0) 0 else vp_in (σ 4 2) 160 ∧ zCI mX4_isLetter d [.int (σ 5 ((σ 4 2 : Int32).toNatClampNeg))] g σ (fun v1 σ1 => (if (v1 = 0 : Prop) then p_X4_nextWord_46 d g K (zsI σ1 4 3 0) 0 else p_X4_nextWord_0 d g K (zsI σ1 4 2 ((σ1 4 2) + 1)))))) : p_X4_nextWord_0 d g K σ  := by
  refine x_aload_n dX4_nextWord_0 rfl ?_
  refine x_getI dX4_nextWord_1 fl_X4_25 (gL_4 hg) rfl ?_
  refine x_aload_n dX4_nextWord_4 rfl ?_
  refine x_getI dX4_nextWord_5 fl_X4_15 (gL_4 hg) rfl ?_
  refine x_icmp_ge (tgt := 39) dX4_nextWord_8 rfl (fun q1 => ?_) (fun q1 => ?_)
  · replace h := itT q1 h
    refine x_aload_n dX4_nextWord_39 rfl ?_
    refine x_iconst (v := 0) dX4_nextWord_40 rfl ?_
    refine x_putI dX4_nextWord_41 fl_X4_31 (gL_4 hg) rfl rfl ?_
    refine x_iconst (v := 0) dX4_nextWord_44 rfl ?_
    refine x_istore_n dX4_nextWord_45 rfl (Nat.le_of_ble_eq_true rfl) (L2 := [_, _]) rfl ?_
    exact h
  · replace h := itF q1 h
    refine x_aload_n dX4_nextWord_11 rfl ?_
    refine x_getR dX4_nextWord_12 fl_X4_11 (gL_4 hg) rfl (gL_4_0 hg) ?_
    refine x_aload_n dX4_nextWord_15 rfl ?_
    refine x_getI dX4_nextWord_16 fl_X4_25 (gL_4 hg) rfl ?_
    obtain ⟨q2, h⟩ := h
    refine x_iald dX4_nextWord_19 (gL_5 hg) q2 ?_
    refine x_callS (Y2 := mX4_isLetter) (as := [.int (σ 5 ((σ 4 2 : Int32).toNatClampNeg))]) (S := []) (kc2 := 0) (ks2 := 0) st_mX4_isLetter dX4_nextWord_20 lk_X4_72 mo_mX4_isLetter rfl rfl (Nat.le_of_ble_eq_true rfl) (Or.inl rfl) rfl rfl h ?_
    rintro _ _ σ1 ⟨v1, rfl, rfl, h⟩
    change zX _ _ 0 0 23 _ [.int v1] _ _ _
    refine x_if_eq (tgt := 39) dX4_nextWord_23 rfl (fun q3 => ?_) (fun q3 => ?_)
    · replace h := itT q3 h
      refine x_aload_n dX4_nextWord_39 rfl ?_
      refine x_iconst (v := 0) dX4_nextWord_40 rfl ?_
      refine x_putI dX4_nextWord_41 fl_X4_31 (gL_4 hg) rfl rfl ?_
      refine x_iconst (v := 0) dX4_nextWord_44 rfl ?_
      refine x_istore_n dX4_nextWord_45 rfl (Nat.le_of_ble_eq_true rfl) (L2 := [_, _]) rfl ?_
      exact h
    · replace h := itF q3 h
      refine x_aload_n dX4_nextWord_26 rfl ?_
      refine x_dup dX4_nextWord_27 rfl ?_
      refine x_getI dX4_nextWord_28 fl_X4_25 (gL_4 hg) rfl ?_
      refine x_iconst (v := 1) dX4_nextWord_31 rfl ?_
      refine x_iadd dX4_nextWord_32 ?_
      refine x_putI dX4_nextWord_33 fl_X4_25 (gL_4 hg) rfl rfl ?_
      refine x_goto (tgt := 0) dX4_nextWord_36 rfl ?_
      exact h
set_option maxRecDepth 20000 in
theorem s_X4_word {d : Nat} {g : zG} {σ : zI} {K : Option Nat → zI → Prop} (hg : zGL g) {l0 : Int32} (h : (if (l0 = 0 : Prop) then K (some 1001) σ else (if (l0 = 1 : Prop) then K (some 1002) σ else (if (l0 = 2 : Prop) then K (some 1003) σ else (if (l0 = 3 : Prop) then K (some 1004) σ else (if (l0 = 4 : Prop) then K (some 1005) σ else (if (l0 = 5 : Prop) then K (some 1006) σ else (if (l0 = 6 : Prop) then K (some 1007) σ else (if (l0 = 7 : Prop) then K (some 1008) σ else (if (l0 = 8 : Prop) then K (some 1009) σ else (if (l0 = 9 : Prop) then K (some 1010) σ else (if (l0 = 10 : Prop) then K (some 1011) σ else K (some 1012) σ)))))))))))) : zCR mX4_word d [.int l0] g σ K := by
  refine c_of_x pn_mX4_word rfl (Nat.le_of_ble_eq_true rfl) ?_
  change zX _ _ 0 0 0 [.int l0] [] g σ _
  refine x_iload_n dX4_word_0 rfl ?_
  by_cases q1 : l0 = 0
  · refine x_tsw (tgt := 60) dX4_word_1 (by rw [q1]; decide) (by rw [q1]; decide) (by rw [q1]; rfl) rfl ?_
    replace h := itT q1 h
    refine x_ldcs (j := 1) dX4_word_60 (List.mem_of_getElem? (i := 1) rfl) ?_
    exact x_aret (S := []) dX4_word_62 rfl (Or.inl ⟨_, rfl⟩) ⟨some 1001, rfl, rfl, h⟩
  · replace h := itF q1 h
    by_cases q2 : l0 = 1
    · refine x_tsw (tgt := 63) dX4_word_1 (by rw [q2]; decide) (by rw [q2]; decide) (by rw [q2]; rfl) rfl ?_
      replace h := itT q2 h
      refine x_ldcs (j := 2) dX4_word_63 (List.mem_of_getElem? (i := 2) rfl) ?_
      exact x_aret (S := []) dX4_word_65 rfl (Or.inl ⟨_, rfl⟩) ⟨some 1002, rfl, rfl, h⟩
    · replace h := itF q2 h
      by_cases q3 : l0 = 2
      · refine x_tsw (tgt := 66) dX4_word_1 (by rw [q3]; decide) (by rw [q3]; decide) (by rw [q3]; rfl) rfl ?_
        replace h := itT q3 h
        refine x_ldcs (j := 3) dX4_word_66 (List.mem_of_getElem? (i := 3) rfl) ?_
        exact x_aret (S := []) dX4_word_68 rfl (Or.inl ⟨_, rfl⟩) ⟨some 1003, rfl, rfl, h⟩
      · replace h := itF q3 h
        by_cases q4 : l0 = 3
        · refine x_tsw (tgt := 69) dX4_word_1 (by rw [q4]; decide) (by rw [q4]; decide) (by rw [q4]; rfl) rfl ?_
          replace h := itT q4 h
          refine x_ldcs (j := 4) dX4_word_69 (List.mem_of_getElem? (i := 4) rfl) ?_
          exact x_aret (S := []) dX4_word_71 rfl (Or.inl ⟨_, rfl⟩) ⟨some 1004, rfl, rfl, h⟩
        · replace h := itF q4 h
          by_cases q5 : l0 = 4
          · refine x_tsw (tgt := 72) dX4_word_1 (by rw [q5]; decide) (by rw [q5]; decide) (by rw [q5]; rfl) rfl ?_
            replace h := itT q5 h
            refine x_ldcs (j := 5) dX4_word_72 (List.mem_of_getElem? (i := 5) rfl) ?_
            exact x_aret (S := []) dX4_word_74 rfl (Or.inl ⟨_, rfl⟩) ⟨some 1005, rfl, rfl, h⟩
          · replace h := itF q5 h
            by_cases q6 : l0 = 5
            · refine x_tsw (tgt := 75) dX4_word_1 (by rw [q6]; decide) (by rw [q6]; decide) (by rw [q6]; rfl) rfl ?_
              replace h := itT q6 h
              refine x_ldcs (j := 6) dX4_word_75 (List.mem_of_getElem? (i := 6) rfl) ?_
              exact x_aret (S := []) dX4_word_77 rfl (Or.inl ⟨_, rfl⟩) ⟨some 1006, rfl, rfl, h⟩
            · replace h := itF q6 h
              by_cases q7 : l0 = 6
              · refine x_tsw (tgt := 78) dX4_word_1 (by rw [q7]; decide) (by rw [q7]; decide) (by rw [q7]; rfl) rfl ?_
                replace h := itT q7 h
                refine x_ldcs (j := 7) dX4_word_78 (List.mem_of_getElem? (i := 7) rfl) ?_
                exact x_aret (S := []) dX4_word_80 rfl (Or.inl ⟨_, rfl⟩) ⟨some 1007, rfl, rfl, h⟩
              · replace h := itF q7 h
                by_cases q8 : l0 = 7
                · refine x_tsw (tgt := 81) dX4_word_1 (by rw [q8]; decide) (by rw [q8]; decide) (by rw [q8]; rfl) rfl ?_
                  replace h := itT q8 h
                  refine x_ldcs (j := 8) dX4_word_81 (List.mem_of_getElem? (i := 8) rfl) ?_
                  exact x_aret (S := []) dX4_word_83 rfl (Or.inl ⟨_, rfl⟩) ⟨some 1008, rfl, rfl, h⟩
                · replace h := itF q8 h
                  by_cases q9 : l0 = 8
                  · refine x_tsw (tgt := 84) dX4_word_1 (by rw [q9]; decide) (by rw [q9]; decide) (by rw [q9]; rfl) rfl ?_
                    replace h := itT q9 h
                    refine x_ldcs (j := 9) dX4_word_84 (List.mem_of_getElem? (i := 9) rfl) ?_
                    exact x_aret (S := []) dX4_word_86 rfl (Or.inl ⟨_, rfl⟩) ⟨some 1009, rfl, rfl, h⟩
                  · replace h := itF q9 h
                    by_cases q10 : l0 = 9
                    · refine x_tsw (tgt := 87) dX4_word_1 (by rw [q10]; decide) (by rw [q10]; decide) (by rw [q10]; rfl) rfl ?_
                      replace h := itT q10 h
                      refine x_ldcs (j := 10) dX4_word_87 (List.mem_of_getElem? (i := 10) rfl) ?_
                      exact x_aret (S := []) dX4_word_89 rfl (Or.inl ⟨_, rfl⟩) ⟨some 1010, rfl, rfl, h⟩
                    · replace h := itF q10 h
                      by_cases q11 : l0 = 10
                      · refine x_tsw (tgt := 90) dX4_word_1 (by rw [q11]; decide) (by rw [q11]; decide) (by rw [q11]; rfl) rfl ?_
                        replace h := itT q11 h
                        refine x_ldcs (j := 11) dX4_word_90 (List.mem_of_getElem? (i := 11) rfl) ?_
                        exact x_aret (S := []) dX4_word_92 rfl (Or.inl ⟨_, rfl⟩) ⟨some 1011, rfl, rfl, h⟩
                      · replace h := itF q11 h
                        refine x_tswd (tgt := 93) dX4_word_1 (by have z0 := lv_neT (a := 0) q1 rfl; have z1 := lv_neT (a := 1) q2 rfl; have z2 := lv_neT (a := 2) q3 rfl; have z3 := lv_neT (a := 3) q4 rfl; have z4 := lv_neT (a := 4) q5 rfl; have z5 := lv_neT (a := 5) q6 rfl; have z6 := lv_neT (a := 6) q7 rfl; have z7 := lv_neT (a := 7) q8 rfl; have z8 := lv_neT (a := 8) q9 rfl; have z9 := lv_neT (a := 9) q10 rfl; have z10 := lv_neT (a := 10) q11 rfl; omega) rfl ?_
                        refine x_ldcs (j := 12) dX4_word_93 (List.mem_of_getElem? (i := 12) rfl) ?_
                        exact x_aret (S := []) dX4_word_95 rfl (Or.inl ⟨_, rfl⟩) ⟨some 1012, rfl, rfl, h⟩
abbrev p_X4_stands_20 (d : Nat) (g : zG) (K : Int32 → zI → Prop) (σ : zI) (l1 : Nat) (l2 : Int32) : Prop := zX mX4_stands (d + 1) 0 0 20 [.ref 4, .ref (1000 + l1), .int l2] [] g σ (zqI g K)
set_option maxRecDepth 20000 in
theorem s_X4_stands {d : Nat} {g : zG} {σ : zI} {K : Int32 → zI → Prop} (hg : zGL g) {l1 : Nat} (h1 : l1 < zNS) (h : zCI mJ0_length_8abf5 d [.ref (1000 + l1)] g σ (fun v1 σ1 => (if (v1 = ((σ1 4 2) - (σ1 4 4)) : Prop) then p_X4_stands_20 d g K σ1 l1 0 else K 0 σ1))) : zCI mX4_stands (d + 1) [.ref 4, .ref (1000 + l1)] g σ K := by
  refine c_of_x pn_mX4_stands rfl (Nat.le_of_ble_eq_true rfl) ?_
  change zX _ _ 0 0 0 [.ref 4, .ref (1000 + l1)] [] g σ _
  refine x_aload_n dX4_stands_0 rfl ?_
  refine x_callV (Y2 := mJ0_length_8abf5) (as := []) (S := []) (kc2 := 0) (ks2 := 0) mv_mJ0_length_8abf5 (Or.inr ⟨rfl, l1, h1, rfl⟩) dX4_stands_1 lk_X4_95 mo_mJ0_length_8abf5 rfl rfl (Nat.le_of_ble_eq_true rfl) (Or.inl rfl) rfl rfl h ?_
  rintro _ _ σ1 ⟨v1, rfl, rfl, h⟩
  change zX _ _ 0 0 4 _ [.int v1] _ _ _
  refine x_aload_n dX4_stands_4 rfl ?_
  refine x_getI dX4_stands_5 fl_X4_25 (gL_4 hg) rfl ?_
  refine x_aload_n dX4_stands_8 rfl ?_
  refine x_getI dX4_stands_9 fl_X4_42 (gL_4 hg) rfl ?_
  refine x_isub dX4_stands_12 ?_
  refine x_icmp_eq (tgt := 18) dX4_stands_13 rfl (fun q1 => ?_) (fun q1 => ?_)
  · replace h := itT q1 h
    refine x_iconst (v := 0) dX4_stands_18 rfl ?_
    refine x_istore_n dX4_stands_19 rfl (Nat.le_of_ble_eq_true rfl) (L2 := [_, _, _]) rfl ?_
    exact h
  · replace h := itF q1 h
    refine x_iconst (v := 0) dX4_stands_16 rfl ?_
    exact x_iret (S := []) dX4_stands_17 rfl rfl ⟨_, rfl, rfl, h⟩
set_option maxRecDepth 20000 in
theorem s_X4_stands_20 {d : Nat} {g : zG} {σ : zI} {K : Int32 → zI → Prop} (hg : zGL g) {l1 : Nat} (h_l1 : l1 < zNS) {l2 : Int32} (h : zCI mJ0_length_8abf5 d [.ref (1000 + l1)] g σ (fun v1 σ1 => (if (v1 ≤ l2 : Prop) then K 1 σ1 else zCI mJ0_charAt_5068e d [.ref (1000 + l1), .int l2] g σ1 (fun v2 σ2 => vp_in ((σ2 4 4) + l2) 160 ∧ (if (v2 = (σ2 5 (((σ2 4 4) + l2 : Int32).toNatClampNeg)) : Prop) then p_X4_stands_20 d g K σ2 l1 (l2 + 1) else K 0 σ2))))) : p_X4_stands_20 d g K σ l1 l2 := by
  refine x_iload_n dX4_stands_20 rfl ?_
  refine x_aload_n dX4_stands_21 rfl ?_
  refine x_callV (Y2 := mJ0_length_8abf5) (as := []) (S := [.int l2]) (kc2 := 0) (ks2 := 0) mv_mJ0_length_8abf5 (Or.inr ⟨rfl, l1, h_l1, rfl⟩) dX4_stands_22 lk_X4_95 mo_mJ0_length_8abf5 rfl rfl (Nat.le_of_ble_eq_true rfl) (Or.inl rfl) rfl rfl h ?_
  rintro _ _ σ1 ⟨v1, rfl, rfl, h⟩
  change zX _ _ 0 0 25 _ [.int v1, .int l2] _ _ _
  refine x_icmp_ge (tgt := 55) dX4_stands_25 rfl (fun q1 => ?_) (fun q1 => ?_)
  · replace h := itT q1 h
    refine x_iconst (v := 1) dX4_stands_55 rfl ?_
    exact x_iret (S := []) dX4_stands_56 rfl rfl ⟨_, rfl, rfl, h⟩
  · replace h := itF q1 h
    refine x_aload_n dX4_stands_28 rfl ?_
    refine x_iload_n dX4_stands_29 rfl ?_
    refine x_callV (Y2 := mJ0_charAt_5068e) (as := [.int l2]) (S := []) (kc2 := 0) (ks2 := 0) mv_mJ0_charAt_5068e (Or.inr ⟨rfl, l1, h_l1, rfl⟩) dX4_stands_30 lk_X4_101 mo_mJ0_charAt_5068e rfl rfl (Nat.le_of_ble_eq_true rfl) (Or.inl rfl) rfl rfl h ?_
    rintro _ _ σ2 ⟨v2, rfl, rfl, h⟩
    change zX _ _ 0 0 33 _ [.int v2] _ _ _
    refine x_aload_n dX4_stands_33 rfl ?_
    refine x_getR dX4_stands_34 fl_X4_11 (gL_4 hg) rfl (gL_4_0 hg) ?_
    refine x_aload_n dX4_stands_37 rfl ?_
    refine x_getI dX4_stands_38 fl_X4_42 (gL_4 hg) rfl ?_
    refine x_iload_n dX4_stands_41 rfl ?_
    refine x_iadd dX4_stands_42 ?_
    obtain ⟨q2, h⟩ := h
    refine x_iald dX4_stands_43 (gL_5 hg) q2 ?_
    refine x_icmp_eq (tgt := 49) dX4_stands_44 rfl (fun q3 => ?_) (fun q3 => ?_)
    · replace h := itT q3 h
      refine x_iinc dX4_stands_49 rfl (v := l2 + 1) rfl rfl (Nat.le_of_ble_eq_true rfl) (L2 := [_, _, _]) rfl ?_
      refine x_goto (tgt := 20) dX4_stands_52 rfl ?_
      exact h
    · replace h := itF q3 h
      refine x_iconst (v := 0) dX4_stands_47 rfl ?_
      exact x_iret (S := []) dX4_stands_48 rfl rfl ⟨_, rfl, rfl, h⟩
set_option maxRecDepth 20000 in
theorem s_X4_isDigit {d : Nat} {g : zG} {σ : zI} {K : Int32 → zI → Prop} (hg : zGL g) {l0 : Int32} (h : (if (l0 < 48 : Prop) then K 0 σ else (if (57 < l0 : Prop) then K 0 σ else K 1 σ))) : zCI mX4_isDigit d [.int l0] g σ K := by
  refine c_of_x pn_mX4_isDigit rfl (Nat.le_of_ble_eq_true rfl) ?_
  change zX _ _ 0 0 0 [.int l0] [] g σ _
  refine x_iload_n dX4_isDigit_0 rfl ?_
  refine x_bipush (v := 48) dX4_isDigit_1 rfl ?_
  refine x_icmp_lt (tgt := 16) dX4_isDigit_3 rfl (fun q1 => ?_) (fun q1 => ?_)
  · replace h := itT q1 h
    refine x_iconst (v := 0) dX4_isDigit_16 rfl ?_
    exact x_iret (S := []) dX4_isDigit_17 rfl rfl ⟨_, rfl, rfl, h⟩
  · replace h := itF q1 h
    refine x_iload_n dX4_isDigit_6 rfl ?_
    refine x_bipush (v := 57) dX4_isDigit_7 rfl ?_
    refine x_icmp_gt (tgt := 16) dX4_isDigit_9 rfl (fun q2 => ?_) (fun q2 => ?_)
    · replace h := itT q2 h
      refine x_iconst (v := 0) dX4_isDigit_16 rfl ?_
      exact x_iret (S := []) dX4_isDigit_17 rfl rfl ⟨_, rfl, rfl, h⟩
    · replace h := itF q2 h
      refine x_iconst (v := 1) dX4_isDigit_12 rfl ?_
      refine x_goto (tgt := 17) dX4_isDigit_13 rfl ?_
      exact x_iret (S := []) dX4_isDigit_17 rfl rfl ⟨_, rfl, rfl, h⟩
abbrev p_X4_nextNumber_0 (d : Nat) (g : zG) (K : zI → Prop) (σ : zI)  : Prop := zX mX4_nextNumber (d + 1) 0 0 0 [.ref 4] [] g σ (zqV g K)
abbrev p_X4_nextNumber_49 (d : Nat) (g : zG) (K : zI → Prop) (σ : zI) (l1 : Int32) : Prop := zX mX4_nextNumber (d + 1) 0 0 49 [.ref 4, .int l1] [] g σ (zqV g K)
set_option maxRecDepth 20000 in
theorem s_X4_nextNumber {d : Nat} {g : zG} {σ : zI} {K : zI → Prop} (hg : zGL g)  (h : (if ((σ 4 1) ≤ (σ 4 2) : Prop) then p_X4_nextNumber_49 d g K (zsI σ 4 5 0) (σ 4 4) else vp_in (σ 4 2) 160 ∧ zCI mX4_isDigit d [.int (σ 5 ((σ 4 2 : Int32).toNatClampNeg))] g σ (fun v1 σ1 => (if (v1 = 0 : Prop) then p_X4_nextNumber_49 d g K (zsI σ1 4 5 0) (σ1 4 4) else p_X4_nextNumber_0 d g K (zsI σ1 4 2 ((σ1 4 2) + 1)))))) : zCV mX4_nextNumber (d + 1) [.ref 4] g σ K := by
  refine c_of_x pn_mX4_nextNumber rfl (Nat.le_of_ble_eq_true rfl) ?_
  change zX _ _ 0 0 0 [.ref 4] [] g σ _
  refine x_aload_n dX4_nextNumber_0 rfl ?_
  refine x_getI dX4_nextNumber_1 fl_X4_25 (gL_4 hg) rfl ?_
  refine x_aload_n dX4_nextNumber_4 rfl ?_
  refine x_getI dX4_nextNumber_5 fl_X4_15 (gL_4 hg) rfl ?_
  refine x_icmp_ge (tgt := 39) dX4_nextNumber_8 rfl (fun q1 => ?_) (fun q1 => ?_)
  · replace h := itT q1 h
    refine x_aload_n dX4_nextNumber_39 rfl ?_
    refine x_iconst (v := 0) dX4_nextNumber_40 rfl ?_
    refine x_putI dX4_nextNumber_41 fl_X4_63 (gL_4 hg) rfl rfl ?_
    refine x_aload_n dX4_nextNumber_44 rfl ?_
    refine x_getI dX4_nextNumber_45 fl_X4_42 (gL_4 hg) rfl ?_
    refine x_istore_n dX4_nextNumber_48 rfl (Nat.le_of_ble_eq_true rfl) (L2 := [_, _]) rfl ?_
    exact h
  · replace h := itF q1 h
    refine x_aload_n dX4_nextNumber_11 rfl ?_
    refine x_getR dX4_nextNumber_12 fl_X4_11 (gL_4 hg) rfl (gL_4_0 hg) ?_
    refine x_aload_n dX4_nextNumber_15 rfl ?_
    refine x_getI dX4_nextNumber_16 fl_X4_25 (gL_4 hg) rfl ?_
    obtain ⟨q2, h⟩ := h
    refine x_iald dX4_nextNumber_19 (gL_5 hg) q2 ?_
    refine x_callS (Y2 := mX4_isDigit) (as := [.int (σ 5 ((σ 4 2 : Int32).toNatClampNeg))]) (S := []) (kc2 := 0) (ks2 := 0) st_mX4_isDigit dX4_nextNumber_20 lk_X4_78 mo_mX4_isDigit rfl rfl (Nat.le_of_ble_eq_true rfl) (Or.inl rfl) rfl rfl h ?_
    rintro _ _ σ1 ⟨v1, rfl, rfl, h⟩
    change zX _ _ 0 0 23 _ [.int v1] _ _ _
    refine x_if_eq (tgt := 39) dX4_nextNumber_23 rfl (fun q3 => ?_) (fun q3 => ?_)
    · replace h := itT q3 h
      refine x_aload_n dX4_nextNumber_39 rfl ?_
      refine x_iconst (v := 0) dX4_nextNumber_40 rfl ?_
      refine x_putI dX4_nextNumber_41 fl_X4_63 (gL_4 hg) rfl rfl ?_
      refine x_aload_n dX4_nextNumber_44 rfl ?_
      refine x_getI dX4_nextNumber_45 fl_X4_42 (gL_4 hg) rfl ?_
      refine x_istore_n dX4_nextNumber_48 rfl (Nat.le_of_ble_eq_true rfl) (L2 := [_, _]) rfl ?_
      exact h
    · replace h := itF q3 h
      refine x_aload_n dX4_nextNumber_26 rfl ?_
      refine x_dup dX4_nextNumber_27 rfl ?_
      refine x_getI dX4_nextNumber_28 fl_X4_25 (gL_4 hg) rfl ?_
      refine x_iconst (v := 1) dX4_nextNumber_31 rfl ?_
      refine x_iadd dX4_nextNumber_32 ?_
      refine x_putI dX4_nextNumber_33 fl_X4_25 (gL_4 hg) rfl rfl ?_
      refine x_goto (tgt := 0) dX4_nextNumber_36 rfl ?_
      exact h
set_option maxRecDepth 20000 in
theorem s_X4_nextNumber_49 {d : Nat} {g : zG} {σ : zI} {K : zI → Prop} (hg : zGL g) {l1 : Int32} (h : (if ((σ 4 2) ≤ l1 : Prop) then (if (((σ 4 2) - (σ 4 4)) ≤ 4 : Prop) then K (zsI σ 4 3 2) else K (zsI σ 4 3 0)) else (if (((σ 4 4) + 4) ≤ l1 : Prop) then (if (((σ 4 2) - (σ 4 4)) ≤ 4 : Prop) then K (zsI σ 4 3 2) else K (zsI σ 4 3 0)) else vp_in l1 160 ∧ p_X4_nextNumber_49 d g K (zsI σ 4 5 (((10 * (σ 4 5)) + (σ 5 l1.toNatClampNeg)) - 48)) (l1 + 1)))) : p_X4_nextNumber_49 d g K σ l1 := by
  refine x_iload_n dX4_nextNumber_49 rfl ?_
  refine x_aload_n dX4_nextNumber_50 rfl ?_
  refine x_getI dX4_nextNumber_51 fl_X4_25 (gL_4 hg) rfl ?_
  refine x_icmp_ge (tgt := 94) dX4_nextNumber_54 rfl (fun q1 => ?_) (fun q1 => ?_)
  · replace h := itT q1 h
    refine x_aload_n dX4_nextNumber_94 rfl ?_
    refine x_aload_n dX4_nextNumber_95 rfl ?_
    refine x_getI dX4_nextNumber_96 fl_X4_25 (gL_4 hg) rfl ?_
    refine x_aload_n dX4_nextNumber_99 rfl ?_
    refine x_getI dX4_nextNumber_100 fl_X4_42 (gL_4 hg) rfl ?_
    refine x_isub dX4_nextNumber_103 ?_
    refine x_iconst (v := 4) dX4_nextNumber_104 rfl ?_
    refine x_icmp_le (tgt := 112) dX4_nextNumber_105 rfl (fun q2 => ?_) (fun q2 => ?_)
    · replace h := itT q2 h
      refine x_iconst (v := 2) dX4_nextNumber_112 rfl ?_
      refine x_putI dX4_nextNumber_113 fl_X4_31 (gL_4 hg) rfl rfl ?_
      exact x_vret (S := []) dX4_nextNumber_116 rfl ⟨rfl, rfl, h⟩
    · replace h := itF q2 h
      refine x_iconst (v := 0) dX4_nextNumber_108 rfl ?_
      refine x_goto (tgt := 113) dX4_nextNumber_109 rfl ?_
      refine x_putI dX4_nextNumber_113 fl_X4_31 (gL_4 hg) rfl rfl ?_
      exact x_vret (S := []) dX4_nextNumber_116 rfl ⟨rfl, rfl, h⟩
  · replace h := itF q1 h
    refine x_iload_n dX4_nextNumber_57 rfl ?_
    refine x_aload_n dX4_nextNumber_58 rfl ?_
    refine x_getI dX4_nextNumber_59 fl_X4_42 (gL_4 hg) rfl ?_
    refine x_iconst (v := 4) dX4_nextNumber_62 rfl ?_
    refine x_iadd dX4_nextNumber_63 ?_
    refine x_icmp_ge (tgt := 94) dX4_nextNumber_64 rfl (fun q2 => ?_) (fun q2 => ?_)
    · replace h := itT q2 h
      refine x_aload_n dX4_nextNumber_94 rfl ?_
      refine x_aload_n dX4_nextNumber_95 rfl ?_
      refine x_getI dX4_nextNumber_96 fl_X4_25 (gL_4 hg) rfl ?_
      refine x_aload_n dX4_nextNumber_99 rfl ?_
      refine x_getI dX4_nextNumber_100 fl_X4_42 (gL_4 hg) rfl ?_
      refine x_isub dX4_nextNumber_103 ?_
      refine x_iconst (v := 4) dX4_nextNumber_104 rfl ?_
      refine x_icmp_le (tgt := 112) dX4_nextNumber_105 rfl (fun q3 => ?_) (fun q3 => ?_)
      · replace h := itT q3 h
        refine x_iconst (v := 2) dX4_nextNumber_112 rfl ?_
        refine x_putI dX4_nextNumber_113 fl_X4_31 (gL_4 hg) rfl rfl ?_
        exact x_vret (S := []) dX4_nextNumber_116 rfl ⟨rfl, rfl, h⟩
      · replace h := itF q3 h
        refine x_iconst (v := 0) dX4_nextNumber_108 rfl ?_
        refine x_goto (tgt := 113) dX4_nextNumber_109 rfl ?_
        refine x_putI dX4_nextNumber_113 fl_X4_31 (gL_4 hg) rfl rfl ?_
        exact x_vret (S := []) dX4_nextNumber_116 rfl ⟨rfl, rfl, h⟩
    · replace h := itF q2 h
      refine x_aload_n dX4_nextNumber_67 rfl ?_
      refine x_bipush (v := 10) dX4_nextNumber_68 rfl ?_
      refine x_aload_n dX4_nextNumber_70 rfl ?_
      refine x_getI dX4_nextNumber_71 fl_X4_63 (gL_4 hg) rfl ?_
      refine x_imul dX4_nextNumber_74 ?_
      refine x_aload_n dX4_nextNumber_75 rfl ?_
      refine x_getR dX4_nextNumber_76 fl_X4_11 (gL_4 hg) rfl (gL_4_0 hg) ?_
      refine x_iload_n dX4_nextNumber_79 rfl ?_
      obtain ⟨q3, h⟩ := h
      refine x_iald dX4_nextNumber_80 (gL_5 hg) q3 ?_
      refine x_iadd dX4_nextNumber_81 ?_
      refine x_bipush (v := 48) dX4_nextNumber_82 rfl ?_
      refine x_isub dX4_nextNumber_84 ?_
      refine x_putI dX4_nextNumber_85 fl_X4_63 (gL_4 hg) rfl rfl ?_
      refine x_iinc dX4_nextNumber_88 rfl (v := l1 + 1) rfl rfl (Nat.le_of_ble_eq_true rfl) (L2 := [_, _]) rfl ?_
      refine x_goto (tgt := 49) dX4_nextNumber_91 rfl ?_
      exact h
set_option maxRecDepth 20000 in
theorem s_X4_nextNumber_0 {d : Nat} {g : zG} {σ : zI} {K : zI → Prop} (hg : zGL g)  (h : (if ((σ 4 1) ≤ (σ 4 2) : Prop) then p_X4_nextNumber_49 d g K (zsI σ 4 5 0) (σ 4 4) else vp_in (σ 4 2) 160 ∧ zCI mX4_isDigit d [.int (σ 5 ((σ 4 2 : Int32).toNatClampNeg))] g σ (fun v1 σ1 => (if (v1 = 0 : Prop) then p_X4_nextNumber_49 d g K (zsI σ1 4 5 0) (σ1 4 4) else p_X4_nextNumber_0 d g K (zsI σ1 4 2 ((σ1 4 2) + 1)))))) : p_X4_nextNumber_0 d g K σ  := by
  refine x_aload_n dX4_nextNumber_0 rfl ?_
  refine x_getI dX4_nextNumber_1 fl_X4_25 (gL_4 hg) rfl ?_
  refine x_aload_n dX4_nextNumber_4 rfl ?_
  refine x_getI dX4_nextNumber_5 fl_X4_15 (gL_4 hg) rfl ?_
  refine x_icmp_ge (tgt := 39) dX4_nextNumber_8 rfl (fun q1 => ?_) (fun q1 => ?_)
  · replace h := itT q1 h
    refine x_aload_n dX4_nextNumber_39 rfl ?_
    refine x_iconst (v := 0) dX4_nextNumber_40 rfl ?_
    refine x_putI dX4_nextNumber_41 fl_X4_63 (gL_4 hg) rfl rfl ?_
    refine x_aload_n dX4_nextNumber_44 rfl ?_
    refine x_getI dX4_nextNumber_45 fl_X4_42 (gL_4 hg) rfl ?_
    refine x_istore_n dX4_nextNumber_48 rfl (Nat.le_of_ble_eq_true rfl) (L2 := [_, _]) rfl ?_
    exact h
  · replace h := itF q1 h
    refine x_aload_n dX4_nextNumber_11 rfl ?_
    refine x_getR dX4_nextNumber_12 fl_X4_11 (gL_4 hg) rfl (gL_4_0 hg) ?_
    refine x_aload_n dX4_nextNumber_15 rfl ?_
    refine x_getI dX4_nextNumber_16 fl_X4_25 (gL_4 hg) rfl ?_
    obtain ⟨q2, h⟩ := h
    refine x_iald dX4_nextNumber_19 (gL_5 hg) q2 ?_
    refine x_callS (Y2 := mX4_isDigit) (as := [.int (σ 5 ((σ 4 2 : Int32).toNatClampNeg))]) (S := []) (kc2 := 0) (ks2 := 0) st_mX4_isDigit dX4_nextNumber_20 lk_X4_78 mo_mX4_isDigit rfl rfl (Nat.le_of_ble_eq_true rfl) (Or.inl rfl) rfl rfl h ?_
    rintro _ _ σ1 ⟨v1, rfl, rfl, h⟩
    change zX _ _ 0 0 23 _ [.int v1] _ _ _
    refine x_if_eq (tgt := 39) dX4_nextNumber_23 rfl (fun q3 => ?_) (fun q3 => ?_)
    · replace h := itT q3 h
      refine x_aload_n dX4_nextNumber_39 rfl ?_
      refine x_iconst (v := 0) dX4_nextNumber_40 rfl ?_
      refine x_putI dX4_nextNumber_41 fl_X4_63 (gL_4 hg) rfl rfl ?_
      refine x_aload_n dX4_nextNumber_44 rfl ?_
      refine x_getI dX4_nextNumber_45 fl_X4_42 (gL_4 hg) rfl ?_
      refine x_istore_n dX4_nextNumber_48 rfl (Nat.le_of_ble_eq_true rfl) (L2 := [_, _]) rfl ?_
      exact h
    · replace h := itF q3 h
      refine x_aload_n dX4_nextNumber_26 rfl ?_
      refine x_dup dX4_nextNumber_27 rfl ?_
      refine x_getI dX4_nextNumber_28 fl_X4_25 (gL_4 hg) rfl ?_
      refine x_iconst (v := 1) dX4_nextNumber_31 rfl ?_
      refine x_iadd dX4_nextNumber_32 ?_
      refine x_putI dX4_nextNumber_33 fl_X4_25 (gL_4 hg) rfl rfl ?_
      refine x_goto (tgt := 0) dX4_nextNumber_36 rfl ?_
      exact h
set_option maxRecDepth 20000 in
theorem s_X4_isSign {d : Nat} {g : zG} {σ : zI} {K : Int32 → zI → Prop} (hg : zGL g) {l0 : Int32} (h : zCI mJ0_indexOf_0f7a4 d [.ref 1013, .int (((l0 : Int32).toUInt32 % 65536).toInt32)] g σ (fun v1 σ1 => (if (v1 < 0 : Prop) then K 0 σ1 else K 1 σ1))) : zCI mX4_isSign (d + 1) [.int l0] g σ K := by
  refine c_of_x pn_mX4_isSign rfl (Nat.le_of_ble_eq_true rfl) ?_
  change zX _ _ 0 0 0 [.int l0] [] g σ _
  refine x_ldcs (j := 13) dX4_isSign_0 (List.mem_of_getElem? (i := 13) rfl) ?_
  refine x_iload_n dX4_isSign_2 rfl ?_
  refine x_i2c dX4_isSign_3 ?_
  refine x_callV (Y2 := mJ0_indexOf_0f7a4) (as := [.int (((l0 : Int32).toUInt32 % 65536).toInt32)]) (S := []) (kc2 := 0) (ks2 := 0) mv_mJ0_indexOf_0f7a4 (Or.inr ⟨rfl, 13, (show 13 < zNS by decide), rfl⟩) dX4_isSign_4 lk_X4_130 mo_mJ0_indexOf_0f7a4 rfl rfl (Nat.le_of_ble_eq_true rfl) (Or.inl rfl) rfl rfl h ?_
  rintro _ _ σ1 ⟨v1, rfl, rfl, h⟩
  change zX _ _ 0 0 7 _ [.int v1] _ _ _
  refine x_if_lt (tgt := 14) dX4_isSign_7 rfl (fun q1 => ?_) (fun q1 => ?_)
  · replace h := itT q1 h
    refine x_iconst (v := 0) dX4_isSign_14 rfl ?_
    exact x_iret (S := []) dX4_isSign_15 rfl rfl ⟨_, rfl, rfl, h⟩
  · replace h := itF q1 h
    refine x_iconst (v := 1) dX4_isSign_10 rfl ?_
    refine x_goto (tgt := 15) dX4_isSign_11 rfl ?_
    exact x_iret (S := []) dX4_isSign_15 rfl rfl ⟨_, rfl, rfl, h⟩
abbrev p_X4_either_12 (d : Nat) (g : zG) (K : Int32 → zI → Prop) (σ : zI) (l1 : Int32) (l2 : Int32) : Prop := zX mX4_either (d + 1) 0 0 12 [.ref 4, .int l1, .int l2] [] g σ (zqI g K)
set_option maxRecDepth 20000 in
theorem s_X4_either {d : Nat} {g : zG} {σ : zI} {K : Int32 → zI → Prop} (hg : zGL g) {l1 : Int32} (h : zCI mX4_both d [.ref 4, .int l1] g σ (fun v1 σ1 => (if (v1 = 0 : Prop) then K 0 σ1 else p_X4_either_12 d g K σ1 l1 0))) : zCI mX4_either (d + 1) [.ref 4, .int l1] g σ K := by
  refine c_of_x pn_mX4_either rfl (Nat.le_of_ble_eq_true rfl) ?_
  change zX _ _ 0 0 0 [.ref 4, .int l1] [] g σ _
  refine x_aload_n dX4_either_0 rfl ?_
  refine x_iload_n dX4_either_1 rfl ?_
  refine x_callV (Y2 := mX4_both) (as := [.int l1]) (S := []) (kc2 := 0) (ks2 := 0) mv_mX4_both (Or.inl ⟨4, _, rfl, rfl, (gL_4 hg)⟩) dX4_either_2 lk_X4_45 mo_mX4_both rfl rfl (Nat.le_of_ble_eq_true rfl) (Or.inl rfl) rfl rfl h ?_
  rintro _ _ σ1 ⟨v1, rfl, rfl, h⟩
  change zX _ _ 0 0 5 _ [.int v1] _ _ _
  refine x_if_ne (tgt := 10) dX4_either_5 rfl (fun q1 => ?_) (fun q1 => ?_)
  · replace h := itF q1 h
    refine x_iconst (v := 0) dX4_either_10 rfl ?_
    refine x_istore_n dX4_either_11 rfl (Nat.le_of_ble_eq_true rfl) (L2 := [_, _, _]) rfl ?_
    exact h
  · replace h := itT q1 h
    refine x_iconst (v := 0) dX4_either_8 rfl ?_
    exact x_iret (S := []) dX4_either_9 rfl rfl ⟨_, rfl, rfl, h⟩
set_option maxRecDepth 20000 in
theorem s_X4_either_12 {d : Nat} {g : zG} {σ : zI} {K : Int32 → zI → Prop} (hg : zGL g) {l1 : Int32} {l2 : Int32} (h : (if ((σ 4 1) ≤ l2 : Prop) then K 1 σ else (if ((σ 4 3) = 1009 : Prop) then zCV mX4_next d [.ref 4] g σ (fun σ1 => zCI mX4_both d [.ref 4, .int l1] g σ1 (fun v1 σ2 => (if (v1 = 0 : Prop) then K 0 σ2 else zCV mX4_write d [.ref 4, .int (-26)] g σ2 (fun σ3 => p_X4_either_12 d g K σ3 l1 (l2 + 1))))) else K 1 σ))) : p_X4_either_12 d g K σ l1 l2 := by
  refine x_iload_n dX4_either_12 rfl ?_
  refine x_aload_n dX4_either_13 rfl ?_
  refine x_getI dX4_either_14 fl_X4_15 (gL_4 hg) rfl ?_
  refine x_icmp_ge (tgt := 56) dX4_either_17 rfl (fun q1 => ?_) (fun q1 => ?_)
  · replace h := itT q1 h
    refine x_iconst (v := 1) dX4_either_56 rfl ?_
    exact x_iret (S := []) dX4_either_57 rfl rfl ⟨_, rfl, rfl, h⟩
  · replace h := itF q1 h
    refine x_aload_n dX4_either_20 rfl ?_
    refine x_getI dX4_either_21 fl_X4_31 (gL_4 hg) rfl ?_
    refine x_sipush (v := 1009) dX4_either_24 rfl ?_
    refine x_icmp_ne (tgt := 56) dX4_either_27 rfl (fun q2 => ?_) (fun q2 => ?_)
    · replace h := itF q2 h
      refine x_iconst (v := 1) dX4_either_56 rfl ?_
      exact x_iret (S := []) dX4_either_57 rfl rfl ⟨_, rfl, rfl, h⟩
    · replace h := itT q2 h
      refine x_aload_n dX4_either_30 rfl ?_
      refine x_callV (Y2 := mX4_next) (as := []) (S := []) (kc2 := 0) (ks2 := 0) mv_mX4_next (Or.inl ⟨4, _, rfl, rfl, (gL_4 hg)⟩) dX4_either_31 lk_X4_28 mo_mX4_next rfl rfl (Nat.le_of_ble_eq_true rfl) (Or.inl rfl) rfl rfl h ?_
      rintro _ _ σ1 ⟨rfl, rfl, h⟩
      change zX _ _ 0 0 34 _ [] _ _ _
      refine x_aload_n dX4_either_34 rfl ?_
      refine x_iload_n dX4_either_35 rfl ?_
      refine x_callV (Y2 := mX4_both) (as := [.int l1]) (S := []) (kc2 := 0) (ks2 := 0) mv_mX4_both (Or.inl ⟨4, _, rfl, rfl, (gL_4 hg)⟩) dX4_either_36 lk_X4_45 mo_mX4_both rfl rfl (Nat.le_of_ble_eq_true rfl) (Or.inl rfl) rfl rfl h ?_
      rintro _ _ σ2 ⟨v1, rfl, rfl, h⟩
      change zX _ _ 0 0 39 _ [.int v1] _ _ _
      refine x_if_ne (tgt := 44) dX4_either_39 rfl (fun q3 => ?_) (fun q3 => ?_)
      · replace h := itF q3 h
        refine x_aload_n dX4_either_44 rfl ?_
        refine x_bipush (v := (-26)) dX4_either_45 rfl ?_
        refine x_callV (Y2 := mX4_write) (as := [.int (-26)]) (S := []) (kc2 := 0) (ks2 := 0) mv_mX4_write (Or.inl ⟨4, _, rfl, rfl, (gL_4 hg)⟩) dX4_either_47 lk_X4_38 mo_mX4_write rfl rfl (Nat.le_of_ble_eq_true rfl) (Or.inl rfl) rfl rfl h ?_
        rintro _ _ σ3 ⟨rfl, rfl, h⟩
        change zX _ _ 0 0 50 _ [] _ _ _
        refine x_iinc dX4_either_50 rfl (v := l2 + 1) rfl rfl (Nat.le_of_ble_eq_true rfl) (L2 := [_, _, _]) rfl ?_
        refine x_goto (tgt := 12) dX4_either_53 rfl ?_
        exact h
      · replace h := itT q3 h
        refine x_iconst (v := 0) dX4_either_42 rfl ?_
        exact x_iret (S := []) dX4_either_43 rfl rfl ⟨_, rfl, rfl, h⟩
abbrev p_X4_both_12 (d : Nat) (g : zG) (K : Int32 → zI → Prop) (σ : zI) (l1 : Int32) (l2 : Int32) : Prop := zX mX4_both (d + 1) 0 0 12 [.ref 4, .int l1, .int l2] [] g σ (zqI g K)
set_option maxRecDepth 20000 in
theorem s_X4_both {d : Nat} {g : zG} {σ : zI} {K : Int32 → zI → Prop} (hg : zGL g) {l1 : Int32} (h : zCI mX4_not d [.ref 4, .int l1] g σ (fun v1 σ1 => (if (v1 = 0 : Prop) then K 0 σ1 else p_X4_both_12 d g K σ1 l1 0))) : zCI mX4_both (d + 1) [.ref 4, .int l1] g σ K := by
  refine c_of_x pn_mX4_both rfl (Nat.le_of_ble_eq_true rfl) ?_
  change zX _ _ 0 0 0 [.ref 4, .int l1] [] g σ _
  refine x_aload_n dX4_both_0 rfl ?_
  refine x_iload_n dX4_both_1 rfl ?_
  refine x_callV (Y2 := mX4_not) (as := [.int l1]) (S := []) (kc2 := 0) (ks2 := 0) mv_mX4_not (Or.inl ⟨4, _, rfl, rfl, (gL_4 hg)⟩) dX4_both_2 lk_X4_48 mo_mX4_not rfl rfl (Nat.le_of_ble_eq_true rfl) (Or.inl rfl) rfl rfl h ?_
  rintro _ _ σ1 ⟨v1, rfl, rfl, h⟩
  change zX _ _ 0 0 5 _ [.int v1] _ _ _
  refine x_if_ne (tgt := 10) dX4_both_5 rfl (fun q1 => ?_) (fun q1 => ?_)
  · replace h := itF q1 h
    refine x_iconst (v := 0) dX4_both_10 rfl ?_
    refine x_istore_n dX4_both_11 rfl (Nat.le_of_ble_eq_true rfl) (L2 := [_, _, _]) rfl ?_
    exact h
  · replace h := itT q1 h
    refine x_iconst (v := 0) dX4_both_8 rfl ?_
    exact x_iret (S := []) dX4_both_9 rfl rfl ⟨_, rfl, rfl, h⟩
set_option maxRecDepth 20000 in
theorem s_X4_both_12 {d : Nat} {g : zG} {σ : zI} {K : Int32 → zI → Prop} (hg : zGL g) {l1 : Int32} {l2 : Int32} (h : (if ((σ 4 1) ≤ l2 : Prop) then K 1 σ else (if ((σ 4 3) = 1010 : Prop) then zCV mX4_next d [.ref 4] g σ (fun σ1 => zCI mX4_not d [.ref 4, .int l1] g σ1 (fun v1 σ2 => (if (v1 = 0 : Prop) then K 0 σ2 else zCV mX4_write d [.ref 4, .int (-25)] g σ2 (fun σ3 => p_X4_both_12 d g K σ3 l1 (l2 + 1))))) else K 1 σ))) : p_X4_both_12 d g K σ l1 l2 := by
  refine x_iload_n dX4_both_12 rfl ?_
  refine x_aload_n dX4_both_13 rfl ?_
  refine x_getI dX4_both_14 fl_X4_15 (gL_4 hg) rfl ?_
  refine x_icmp_ge (tgt := 56) dX4_both_17 rfl (fun q1 => ?_) (fun q1 => ?_)
  · replace h := itT q1 h
    refine x_iconst (v := 1) dX4_both_56 rfl ?_
    exact x_iret (S := []) dX4_both_57 rfl rfl ⟨_, rfl, rfl, h⟩
  · replace h := itF q1 h
    refine x_aload_n dX4_both_20 rfl ?_
    refine x_getI dX4_both_21 fl_X4_31 (gL_4 hg) rfl ?_
    refine x_sipush (v := 1010) dX4_both_24 rfl ?_
    refine x_icmp_ne (tgt := 56) dX4_both_27 rfl (fun q2 => ?_) (fun q2 => ?_)
    · replace h := itF q2 h
      refine x_iconst (v := 1) dX4_both_56 rfl ?_
      exact x_iret (S := []) dX4_both_57 rfl rfl ⟨_, rfl, rfl, h⟩
    · replace h := itT q2 h
      refine x_aload_n dX4_both_30 rfl ?_
      refine x_callV (Y2 := mX4_next) (as := []) (S := []) (kc2 := 0) (ks2 := 0) mv_mX4_next (Or.inl ⟨4, _, rfl, rfl, (gL_4 hg)⟩) dX4_both_31 lk_X4_28 mo_mX4_next rfl rfl (Nat.le_of_ble_eq_true rfl) (Or.inl rfl) rfl rfl h ?_
      rintro _ _ σ1 ⟨rfl, rfl, h⟩
      change zX _ _ 0 0 34 _ [] _ _ _
      refine x_aload_n dX4_both_34 rfl ?_
      refine x_iload_n dX4_both_35 rfl ?_
      refine x_callV (Y2 := mX4_not) (as := [.int l1]) (S := []) (kc2 := 0) (ks2 := 0) mv_mX4_not (Or.inl ⟨4, _, rfl, rfl, (gL_4 hg)⟩) dX4_both_36 lk_X4_48 mo_mX4_not rfl rfl (Nat.le_of_ble_eq_true rfl) (Or.inl rfl) rfl rfl h ?_
      rintro _ _ σ2 ⟨v1, rfl, rfl, h⟩
      change zX _ _ 0 0 39 _ [.int v1] _ _ _
      refine x_if_ne (tgt := 44) dX4_both_39 rfl (fun q3 => ?_) (fun q3 => ?_)
      · replace h := itF q3 h
        refine x_aload_n dX4_both_44 rfl ?_
        refine x_bipush (v := (-25)) dX4_both_45 rfl ?_
        refine x_callV (Y2 := mX4_write) (as := [.int (-25)]) (S := []) (kc2 := 0) (ks2 := 0) mv_mX4_write (Or.inl ⟨4, _, rfl, rfl, (gL_4 hg)⟩) dX4_both_47 lk_X4_38 mo_mX4_write rfl rfl (Nat.le_of_ble_eq_true rfl) (Or.inl rfl) rfl rfl h ?_
        rintro _ _ σ3 ⟨rfl, rfl, h⟩
        change zX _ _ 0 0 50 _ [] _ _ _
        refine x_iinc dX4_both_50 rfl (v := l2 + 1) rfl rfl (Nat.le_of_ble_eq_true rfl) (L2 := [_, _, _]) rfl ?_
        refine x_goto (tgt := 12) dX4_both_53 rfl ?_
        exact h
      · replace h := itT q3 h
        refine x_iconst (v := 0) dX4_both_42 rfl ?_
        exact x_iret (S := []) dX4_both_43 rfl rfl ⟨_, rfl, rfl, h⟩
set_option maxRecDepth 20000 in
theorem s_X4_not {d : Nat} {g : zG} {σ : zI} {K : Int32 → zI → Prop} (hg : zGL g) {l1 : Int32} (h : (if ((σ 4 3) = 1011 : Prop) then (if (l1 < 5 : Prop) then zCV mX4_next d [.ref 4] g σ (fun σ1 => zCI mX4_not d [.ref 4, .int (l1 + 1)] g σ1 (fun v1 σ2 => (if (v1 = 0 : Prop) then K 0 σ2 else zCV mX4_write d [.ref 4, .int (-11)] g σ2 (fun σ3 => K 1 σ3)))) else K 0 σ) else zCI mX4_compared d [.ref 4, .int l1] g σ (fun v1 σ1 => (v1 = 0 ∨ v1 = 1) ∧ K v1 σ1))) : zCI mX4_not (d + 1) [.ref 4, .int l1] g σ K := by
  refine c_of_x pn_mX4_not rfl (Nat.le_of_ble_eq_true rfl) ?_
  change zX _ _ 0 0 0 [.ref 4, .int l1] [] g σ _
  refine x_aload_n dX4_not_0 rfl ?_
  refine x_getI dX4_not_1 fl_X4_31 (gL_4 hg) rfl ?_
  refine x_sipush (v := 1011) dX4_not_4 rfl ?_
  refine x_icmp_eq (tgt := 16) dX4_not_7 rfl (fun q1 => ?_) (fun q1 => ?_)
  · replace h := itT q1 h
    refine x_iload_n dX4_not_16 rfl ?_
    refine x_iconst (v := 5) dX4_not_17 rfl ?_
    refine x_icmp_lt (tgt := 23) dX4_not_18 rfl (fun q2 => ?_) (fun q2 => ?_)
    · replace h := itT q2 h
      refine x_aload_n dX4_not_23 rfl ?_
      refine x_callV (Y2 := mX4_next) (as := []) (S := []) (kc2 := 0) (ks2 := 0) mv_mX4_next (Or.inl ⟨4, _, rfl, rfl, (gL_4 hg)⟩) dX4_not_24 lk_X4_28 mo_mX4_next rfl rfl (Nat.le_of_ble_eq_true rfl) (Or.inl rfl) rfl rfl h ?_
      rintro _ _ σ1 ⟨rfl, rfl, h⟩
      change zX _ _ 0 0 27 _ [] _ _ _
      refine x_aload_n dX4_not_27 rfl ?_
      refine x_iload_n dX4_not_28 rfl ?_
      refine x_iconst (v := 1) dX4_not_29 rfl ?_
      refine x_iadd dX4_not_30 ?_
      refine x_callV (Y2 := mX4_not) (as := [.int (l1 + 1)]) (S := []) (kc2 := 0) (ks2 := 0) mv_mX4_not (Or.inl ⟨4, _, rfl, rfl, (gL_4 hg)⟩) dX4_not_31 lk_X4_48 mo_mX4_not rfl rfl (Nat.le_of_ble_eq_true rfl) (Or.inl rfl) rfl rfl h ?_
      rintro _ _ σ2 ⟨v1, rfl, rfl, h⟩
      change zX _ _ 0 0 34 _ [.int v1] _ _ _
      refine x_if_ne (tgt := 39) dX4_not_34 rfl (fun q3 => ?_) (fun q3 => ?_)
      · replace h := itF q3 h
        refine x_aload_n dX4_not_39 rfl ?_
        refine x_bipush (v := (-11)) dX4_not_40 rfl ?_
        refine x_callV (Y2 := mX4_write) (as := [.int (-11)]) (S := []) (kc2 := 0) (ks2 := 0) mv_mX4_write (Or.inl ⟨4, _, rfl, rfl, (gL_4 hg)⟩) dX4_not_42 lk_X4_38 mo_mX4_write rfl rfl (Nat.le_of_ble_eq_true rfl) (Or.inl rfl) rfl rfl h ?_
        rintro _ _ σ3 ⟨rfl, rfl, h⟩
        change zX _ _ 0 0 45 _ [] _ _ _
        refine x_iconst (v := 1) dX4_not_45 rfl ?_
        exact x_iret (S := []) dX4_not_46 rfl rfl ⟨_, rfl, rfl, h⟩
      · replace h := itT q3 h
        refine x_iconst (v := 0) dX4_not_37 rfl ?_
        exact x_iret (S := []) dX4_not_38 rfl rfl ⟨_, rfl, rfl, h⟩
    · replace h := itF q2 h
      refine x_iconst (v := 0) dX4_not_21 rfl ?_
      exact x_iret (S := []) dX4_not_22 rfl rfl ⟨_, rfl, rfl, h⟩
  · replace h := itF q1 h
    refine x_aload_n dX4_not_10 rfl ?_
    refine x_iload_n dX4_not_11 rfl ?_
    refine x_callV (Y2 := mX4_compared) (as := [.int l1]) (S := []) (kc2 := 0) (ks2 := 0) mv_mX4_compared (Or.inl ⟨4, _, rfl, rfl, (gL_4 hg)⟩) dX4_not_12 lk_X4_51 mo_mX4_compared rfl rfl (Nat.le_of_ble_eq_true rfl) (Or.inl rfl) rfl rfl h ?_
    rintro _ _ σ1 ⟨v1, rfl, rfl, h⟩
    change zX _ _ 0 0 15 _ [.int v1] _ _ _
    obtain ⟨q2, h⟩ := h
    exact x_iret (S := []) dX4_not_15 rfl (zbz q2) ⟨_, rfl, rfl, h⟩
abbrev p_X4_compared_30 (d : Nat) (g : zG) (K : Int32 → zI → Prop) (σ : zI) (l1 : Int32) : Prop := zX mX4_compared (d + 1) 0 0 30 [.ref 4, .int l1] [] g σ (zqI g K)
set_option maxRecDepth 20000 in
theorem s_X4_compared {d : Nat} {g : zG} {σ : zI} {K : Int32 → zI → Prop} (hg : zGL g) {l1 : Int32} (h : zCI mX4_sum d [.ref 4, .int l1] g σ (fun v1 σ1 => (if (v1 = 0 : Prop) then K 0 σ1 else (if ((σ1 4 3) = 60 : Prop) then p_X4_compared_30 d g K σ1 l1 else (if ((σ1 4 3) = 61 : Prop) then p_X4_compared_30 d g K σ1 l1 else K 1 σ1))))) : zCI mX4_compared (d + 1) [.ref 4, .int l1] g σ K := by
  refine c_of_x pn_mX4_compared rfl (Nat.le_of_ble_eq_true rfl) ?_
  change zX _ _ 0 0 0 [.ref 4, .int l1] [] g σ _
  refine x_aload_n dX4_compared_0 rfl ?_
  refine x_iload_n dX4_compared_1 rfl ?_
  refine x_callV (Y2 := mX4_sum) (as := [.int l1]) (S := []) (kc2 := 0) (ks2 := 0) mv_mX4_sum (Or.inl ⟨4, _, rfl, rfl, (gL_4 hg)⟩) dX4_compared_2 lk_X4_54 mo_mX4_sum rfl rfl (Nat.le_of_ble_eq_true rfl) (Or.inl rfl) rfl rfl h ?_
  rintro _ _ σ1 ⟨v1, rfl, rfl, h⟩
  change zX _ _ 0 0 5 _ [.int v1] _ _ _
  refine x_if_ne (tgt := 10) dX4_compared_5 rfl (fun q1 => ?_) (fun q1 => ?_)
  · replace h := itF q1 h
    refine x_aload_n dX4_compared_10 rfl ?_
    refine x_getI dX4_compared_11 fl_X4_31 (gL_4 hg) rfl ?_
    refine x_bipush (v := 60) dX4_compared_14 rfl ?_
    refine x_icmp_eq (tgt := 30) dX4_compared_16 rfl (fun q2 => ?_) (fun q2 => ?_)
    · replace h := itT q2 h
      exact h
    · replace h := itF q2 h
      refine x_aload_n dX4_compared_19 rfl ?_
      refine x_getI dX4_compared_20 fl_X4_31 (gL_4 hg) rfl ?_
      refine x_bipush (v := 61) dX4_compared_23 rfl ?_
      refine x_icmp_eq (tgt := 30) dX4_compared_25 rfl (fun q3 => ?_) (fun q3 => ?_)
      · replace h := itT q3 h
        exact h
      · replace h := itF q3 h
        refine x_iconst (v := 1) dX4_compared_28 rfl ?_
        exact x_iret (S := []) dX4_compared_29 rfl rfl ⟨_, rfl, rfl, h⟩
  · replace h := itT q1 h
    refine x_iconst (v := 0) dX4_compared_8 rfl ?_
    exact x_iret (S := []) dX4_compared_9 rfl rfl ⟨_, rfl, rfl, h⟩
set_option maxRecDepth 20000 in
theorem s_X4_compared_30 {d : Nat} {g : zG} {σ : zI} {K : Int32 → zI → Prop} (hg : zGL g) {l1 : Int32} (h : (if ((σ 4 3) = 60 : Prop) then zCV mX4_next d [.ref 4] g σ (fun σ1 => zCI mX4_sum d [.ref 4, .int l1] g σ1 (fun v1 σ2 => (if (v1 = 0 : Prop) then K 0 σ2 else zCV mX4_write d [.ref 4, .int (-23)] g σ2 (fun σ3 => K 1 σ3)))) else zCV mX4_next d [.ref 4] g σ (fun σ1 => zCI mX4_sum d [.ref 4, .int l1] g σ1 (fun v1 σ2 => (if (v1 = 0 : Prop) then K 0 σ2 else zCV mX4_write d [.ref 4, .int (-24)] g σ2 (fun σ3 => K 1 σ3)))))) : p_X4_compared_30 d g K σ l1 := by
  refine x_aload_n dX4_compared_30 rfl ?_
  refine x_getI dX4_compared_31 fl_X4_31 (gL_4 hg) rfl ?_
  refine x_bipush (v := 60) dX4_compared_34 rfl ?_
  refine x_icmp_ne (tgt := 44) dX4_compared_36 rfl (fun q1 => ?_) (fun q1 => ?_)
  · replace h := itF q1 h
    refine x_bipush (v := (-24)) dX4_compared_44 rfl ?_
    refine x_istore_n dX4_compared_46 rfl (Nat.le_of_ble_eq_true rfl) (L2 := [_, _, _]) rfl ?_
    refine x_aload_n dX4_compared_47 rfl ?_
    refine x_callV (Y2 := mX4_next) (as := []) (S := []) (kc2 := 0) (ks2 := 0) mv_mX4_next (Or.inl ⟨4, _, rfl, rfl, (gL_4 hg)⟩) dX4_compared_48 lk_X4_28 mo_mX4_next rfl rfl (Nat.le_of_ble_eq_true rfl) (Or.inl rfl) rfl rfl h ?_
    rintro _ _ σ1 ⟨rfl, rfl, h⟩
    change zX _ _ 0 0 51 _ [] _ _ _
    refine x_aload_n dX4_compared_51 rfl ?_
    refine x_iload_n dX4_compared_52 rfl ?_
    refine x_callV (Y2 := mX4_sum) (as := [.int l1]) (S := []) (kc2 := 0) (ks2 := 0) mv_mX4_sum (Or.inl ⟨4, _, rfl, rfl, (gL_4 hg)⟩) dX4_compared_53 lk_X4_54 mo_mX4_sum rfl rfl (Nat.le_of_ble_eq_true rfl) (Or.inl rfl) rfl rfl h ?_
    rintro _ _ σ2 ⟨v1, rfl, rfl, h⟩
    change zX _ _ 0 0 56 _ [.int v1] _ _ _
    refine x_if_ne (tgt := 61) dX4_compared_56 rfl (fun q2 => ?_) (fun q2 => ?_)
    · replace h := itF q2 h
      refine x_aload_n dX4_compared_61 rfl ?_
      refine x_iload_n dX4_compared_62 rfl ?_
      refine x_callV (Y2 := mX4_write) (as := [.int (-24)]) (S := []) (kc2 := 0) (ks2 := 0) mv_mX4_write (Or.inl ⟨4, _, rfl, rfl, (gL_4 hg)⟩) dX4_compared_63 lk_X4_38 mo_mX4_write rfl rfl (Nat.le_of_ble_eq_true rfl) (Or.inl rfl) rfl rfl h ?_
      rintro _ _ σ3 ⟨rfl, rfl, h⟩
      change zX _ _ 0 0 66 _ [] _ _ _
      refine x_iconst (v := 1) dX4_compared_66 rfl ?_
      exact x_iret (S := []) dX4_compared_67 rfl rfl ⟨_, rfl, rfl, h⟩
    · replace h := itT q2 h
      refine x_iconst (v := 0) dX4_compared_59 rfl ?_
      exact x_iret (S := []) dX4_compared_60 rfl rfl ⟨_, rfl, rfl, h⟩
  · replace h := itT q1 h
    refine x_bipush (v := (-23)) dX4_compared_39 rfl ?_
    refine x_goto (tgt := 46) dX4_compared_41 rfl ?_
    refine x_istore_n dX4_compared_46 rfl (Nat.le_of_ble_eq_true rfl) (L2 := [_, _, _]) rfl ?_
    refine x_aload_n dX4_compared_47 rfl ?_
    refine x_callV (Y2 := mX4_next) (as := []) (S := []) (kc2 := 0) (ks2 := 0) mv_mX4_next (Or.inl ⟨4, _, rfl, rfl, (gL_4 hg)⟩) dX4_compared_48 lk_X4_28 mo_mX4_next rfl rfl (Nat.le_of_ble_eq_true rfl) (Or.inl rfl) rfl rfl h ?_
    rintro _ _ σ1 ⟨rfl, rfl, h⟩
    change zX _ _ 0 0 51 _ [] _ _ _
    refine x_aload_n dX4_compared_51 rfl ?_
    refine x_iload_n dX4_compared_52 rfl ?_
    refine x_callV (Y2 := mX4_sum) (as := [.int l1]) (S := []) (kc2 := 0) (ks2 := 0) mv_mX4_sum (Or.inl ⟨4, _, rfl, rfl, (gL_4 hg)⟩) dX4_compared_53 lk_X4_54 mo_mX4_sum rfl rfl (Nat.le_of_ble_eq_true rfl) (Or.inl rfl) rfl rfl h ?_
    rintro _ _ σ2 ⟨v1, rfl, rfl, h⟩
    change zX _ _ 0 0 56 _ [.int v1] _ _ _
    refine x_if_ne (tgt := 61) dX4_compared_56 rfl (fun q2 => ?_) (fun q2 => ?_)
    · replace h := itF q2 h
      refine x_aload_n dX4_compared_61 rfl ?_
      refine x_iload_n dX4_compared_62 rfl ?_
      refine x_callV (Y2 := mX4_write) (as := [.int (-23)]) (S := []) (kc2 := 0) (ks2 := 0) mv_mX4_write (Or.inl ⟨4, _, rfl, rfl, (gL_4 hg)⟩) dX4_compared_63 lk_X4_38 mo_mX4_write rfl rfl (Nat.le_of_ble_eq_true rfl) (Or.inl rfl) rfl rfl h ?_
      rintro _ _ σ3 ⟨rfl, rfl, h⟩
      change zX _ _ 0 0 66 _ [] _ _ _
      refine x_iconst (v := 1) dX4_compared_66 rfl ?_
      exact x_iret (S := []) dX4_compared_67 rfl rfl ⟨_, rfl, rfl, h⟩
    · replace h := itT q2 h
      refine x_iconst (v := 0) dX4_compared_59 rfl ?_
      exact x_iret (S := []) dX4_compared_60 rfl rfl ⟨_, rfl, rfl, h⟩
abbrev p_X4_sum_12 (d : Nat) (g : zG) (K : Int32 → zI → Prop) (σ : zI) (l1 : Int32) (l2 : Int32) : Prop := zX mX4_sum (d + 1) 0 0 12 [.ref 4, .int l1, .int l2] [] g σ (zqI g K)
abbrev p_X4_sum_38 (d : Nat) (g : zG) (K : Int32 → zI → Prop) (σ : zI) (l1 : Int32) (l2 : Int32) : Prop := zX mX4_sum (d + 1) 0 0 38 [.ref 4, .int l1, .int l2] [] g σ (zqI g K)
set_option maxRecDepth 20000 in
theorem s_X4_sum {d : Nat} {g : zG} {σ : zI} {K : Int32 → zI → Prop} (hg : zGL g) {l1 : Int32} (h : zCI mX4_term d [.ref 4, .int l1] g σ (fun v1 σ1 => (if (v1 = 0 : Prop) then K 0 σ1 else p_X4_sum_12 d g K σ1 l1 0))) : zCI mX4_sum (d + 1) [.ref 4, .int l1] g σ K := by
  refine c_of_x pn_mX4_sum rfl (Nat.le_of_ble_eq_true rfl) ?_
  change zX _ _ 0 0 0 [.ref 4, .int l1] [] g σ _
  refine x_aload_n dX4_sum_0 rfl ?_
  refine x_iload_n dX4_sum_1 rfl ?_
  refine x_callV (Y2 := mX4_term) (as := [.int l1]) (S := []) (kc2 := 0) (ks2 := 0) mv_mX4_term (Or.inl ⟨4, _, rfl, rfl, (gL_4 hg)⟩) dX4_sum_2 lk_X4_57 mo_mX4_term rfl rfl (Nat.le_of_ble_eq_true rfl) (Or.inl rfl) rfl rfl h ?_
  rintro _ _ σ1 ⟨v1, rfl, rfl, h⟩
  change zX _ _ 0 0 5 _ [.int v1] _ _ _
  refine x_if_ne (tgt := 10) dX4_sum_5 rfl (fun q1 => ?_) (fun q1 => ?_)
  · replace h := itF q1 h
    refine x_iconst (v := 0) dX4_sum_10 rfl ?_
    refine x_istore_n dX4_sum_11 rfl (Nat.le_of_ble_eq_true rfl) (L2 := [_, _, _]) rfl ?_
    exact h
  · replace h := itT q1 h
    refine x_iconst (v := 0) dX4_sum_8 rfl ?_
    exact x_iret (S := []) dX4_sum_9 rfl rfl ⟨_, rfl, rfl, h⟩
set_option maxRecDepth 20000 in
theorem s_X4_sum_12 {d : Nat} {g : zG} {σ : zI} {K : Int32 → zI → Prop} (hg : zGL g) {l1 : Int32} {l2 : Int32} (h : (if ((σ 4 1) ≤ l2 : Prop) then K 1 σ else (if ((σ 4 3) = 43 : Prop) then p_X4_sum_38 d g K σ l1 l2 else (if ((σ 4 3) = 45 : Prop) then p_X4_sum_38 d g K σ l1 l2 else K 1 σ)))) : p_X4_sum_12 d g K σ l1 l2 := by
  refine x_iload_n dX4_sum_12 rfl ?_
  refine x_aload_n dX4_sum_13 rfl ?_
  refine x_getI dX4_sum_14 fl_X4_15 (gL_4 hg) rfl ?_
  refine x_icmp_ge (tgt := 80) dX4_sum_17 rfl (fun q1 => ?_) (fun q1 => ?_)
  · replace h := itT q1 h
    refine x_iconst (v := 1) dX4_sum_80 rfl ?_
    exact x_iret (S := []) dX4_sum_81 rfl rfl ⟨_, rfl, rfl, h⟩
  · replace h := itF q1 h
    refine x_aload_n dX4_sum_20 rfl ?_
    refine x_getI dX4_sum_21 fl_X4_31 (gL_4 hg) rfl ?_
    refine x_bipush (v := 43) dX4_sum_24 rfl ?_
    refine x_icmp_eq (tgt := 38) dX4_sum_26 rfl (fun q2 => ?_) (fun q2 => ?_)
    · replace h := itT q2 h
      exact h
    · replace h := itF q2 h
      refine x_aload_n dX4_sum_29 rfl ?_
      refine x_getI dX4_sum_30 fl_X4_31 (gL_4 hg) rfl ?_
      refine x_bipush (v := 45) dX4_sum_33 rfl ?_
      refine x_icmp_ne (tgt := 80) dX4_sum_35 rfl (fun q3 => ?_) (fun q3 => ?_)
      · replace h := itF q3 h
        refine x_iconst (v := 1) dX4_sum_80 rfl ?_
        exact x_iret (S := []) dX4_sum_81 rfl rfl ⟨_, rfl, rfl, h⟩
      · replace h := itT q3 h
        exact h
set_option maxRecDepth 20000 in
theorem s_X4_sum_38 {d : Nat} {g : zG} {σ : zI} {K : Int32 → zI → Prop} (hg : zGL g) {l1 : Int32} {l2 : Int32} (h : (if ((σ 4 3) = 43 : Prop) then zCV mX4_next d [.ref 4] g σ (fun σ1 => zCI mX4_term d [.ref 4, .int l1] g σ1 (fun v1 σ2 => (if (v1 = 0 : Prop) then K 0 σ2 else zCV mX4_write d [.ref 4, .int (-21)] g σ2 (fun σ3 => p_X4_sum_12 d g K σ3 l1 (l2 + 1))))) else zCV mX4_next d [.ref 4] g σ (fun σ1 => zCI mX4_term d [.ref 4, .int l1] g σ1 (fun v1 σ2 => (if (v1 = 0 : Prop) then K 0 σ2 else zCV mX4_write d [.ref 4, .int (-22)] g σ2 (fun σ3 => p_X4_sum_12 d g K σ3 l1 (l2 + 1))))))) : p_X4_sum_38 d g K σ l1 l2 := by
  refine x_aload_n dX4_sum_38 rfl ?_
  refine x_getI dX4_sum_39 fl_X4_31 (gL_4 hg) rfl ?_
  refine x_bipush (v := 43) dX4_sum_42 rfl ?_
  refine x_icmp_ne (tgt := 52) dX4_sum_44 rfl (fun q1 => ?_) (fun q1 => ?_)
  · replace h := itF q1 h
    refine x_bipush (v := (-22)) dX4_sum_52 rfl ?_
    refine x_istore_n dX4_sum_54 rfl (Nat.le_of_ble_eq_true rfl) (L2 := [_, _, _, _]) rfl ?_
    refine x_aload_n dX4_sum_55 rfl ?_
    refine x_callV (Y2 := mX4_next) (as := []) (S := []) (kc2 := 0) (ks2 := 0) mv_mX4_next (Or.inl ⟨4, _, rfl, rfl, (gL_4 hg)⟩) dX4_sum_56 lk_X4_28 mo_mX4_next rfl rfl (Nat.le_of_ble_eq_true rfl) (Or.inl rfl) rfl rfl h ?_
    rintro _ _ σ1 ⟨rfl, rfl, h⟩
    change zX _ _ 0 0 59 _ [] _ _ _
    refine x_aload_n dX4_sum_59 rfl ?_
    refine x_iload_n dX4_sum_60 rfl ?_
    refine x_callV (Y2 := mX4_term) (as := [.int l1]) (S := []) (kc2 := 0) (ks2 := 0) mv_mX4_term (Or.inl ⟨4, _, rfl, rfl, (gL_4 hg)⟩) dX4_sum_61 lk_X4_57 mo_mX4_term rfl rfl (Nat.le_of_ble_eq_true rfl) (Or.inl rfl) rfl rfl h ?_
    rintro _ _ σ2 ⟨v1, rfl, rfl, h⟩
    change zX _ _ 0 0 64 _ [.int v1] _ _ _
    refine x_if_ne (tgt := 69) dX4_sum_64 rfl (fun q2 => ?_) (fun q2 => ?_)
    · replace h := itF q2 h
      refine x_aload_n dX4_sum_69 rfl ?_
      refine x_iload_n dX4_sum_70 rfl ?_
      refine x_callV (Y2 := mX4_write) (as := [.int (-22)]) (S := []) (kc2 := 0) (ks2 := 0) mv_mX4_write (Or.inl ⟨4, _, rfl, rfl, (gL_4 hg)⟩) dX4_sum_71 lk_X4_38 mo_mX4_write rfl rfl (Nat.le_of_ble_eq_true rfl) (Or.inl rfl) rfl rfl h ?_
      rintro _ _ σ3 ⟨rfl, rfl, h⟩
      change zX _ _ 0 0 74 _ [] _ _ _
      refine x_iinc dX4_sum_74 rfl (v := l2 + 1) rfl rfl (Nat.le_of_ble_eq_true rfl) (L2 := [_, _, _, _]) rfl ?_
      refine x_goto (tgt := 12) dX4_sum_77 rfl ?_
      exact x_wk (wC (wC (wC (wN _)))) h
    · replace h := itT q2 h
      refine x_iconst (v := 0) dX4_sum_67 rfl ?_
      exact x_iret (S := []) dX4_sum_68 rfl rfl ⟨_, rfl, rfl, h⟩
  · replace h := itT q1 h
    refine x_bipush (v := (-21)) dX4_sum_47 rfl ?_
    refine x_goto (tgt := 54) dX4_sum_49 rfl ?_
    refine x_istore_n dX4_sum_54 rfl (Nat.le_of_ble_eq_true rfl) (L2 := [_, _, _, _]) rfl ?_
    refine x_aload_n dX4_sum_55 rfl ?_
    refine x_callV (Y2 := mX4_next) (as := []) (S := []) (kc2 := 0) (ks2 := 0) mv_mX4_next (Or.inl ⟨4, _, rfl, rfl, (gL_4 hg)⟩) dX4_sum_56 lk_X4_28 mo_mX4_next rfl rfl (Nat.le_of_ble_eq_true rfl) (Or.inl rfl) rfl rfl h ?_
    rintro _ _ σ1 ⟨rfl, rfl, h⟩
    change zX _ _ 0 0 59 _ [] _ _ _
    refine x_aload_n dX4_sum_59 rfl ?_
    refine x_iload_n dX4_sum_60 rfl ?_
    refine x_callV (Y2 := mX4_term) (as := [.int l1]) (S := []) (kc2 := 0) (ks2 := 0) mv_mX4_term (Or.inl ⟨4, _, rfl, rfl, (gL_4 hg)⟩) dX4_sum_61 lk_X4_57 mo_mX4_term rfl rfl (Nat.le_of_ble_eq_true rfl) (Or.inl rfl) rfl rfl h ?_
    rintro _ _ σ2 ⟨v1, rfl, rfl, h⟩
    change zX _ _ 0 0 64 _ [.int v1] _ _ _
    refine x_if_ne (tgt := 69) dX4_sum_64 rfl (fun q2 => ?_) (fun q2 => ?_)
    · replace h := itF q2 h
      refine x_aload_n dX4_sum_69 rfl ?_
      refine x_iload_n dX4_sum_70 rfl ?_
      refine x_callV (Y2 := mX4_write) (as := [.int (-21)]) (S := []) (kc2 := 0) (ks2 := 0) mv_mX4_write (Or.inl ⟨4, _, rfl, rfl, (gL_4 hg)⟩) dX4_sum_71 lk_X4_38 mo_mX4_write rfl rfl (Nat.le_of_ble_eq_true rfl) (Or.inl rfl) rfl rfl h ?_
      rintro _ _ σ3 ⟨rfl, rfl, h⟩
      change zX _ _ 0 0 74 _ [] _ _ _
      refine x_iinc dX4_sum_74 rfl (v := l2 + 1) rfl rfl (Nat.le_of_ble_eq_true rfl) (L2 := [_, _, _, _]) rfl ?_
      refine x_goto (tgt := 12) dX4_sum_77 rfl ?_
      exact x_wk (wC (wC (wC (wN _)))) h
    · replace h := itT q2 h
      refine x_iconst (v := 0) dX4_sum_67 rfl ?_
      exact x_iret (S := []) dX4_sum_68 rfl rfl ⟨_, rfl, rfl, h⟩
abbrev p_X4_term_12 (d : Nat) (g : zG) (K : Int32 → zI → Prop) (σ : zI) (l1 : Int32) (l2 : Int32) : Prop := zX mX4_term (d + 1) 0 0 12 [.ref 4, .int l1, .int l2] [] g σ (zqI g K)
set_option maxRecDepth 20000 in
theorem s_X4_term {d : Nat} {g : zG} {σ : zI} {K : Int32 → zI → Prop} (hg : zGL g) {l1 : Int32} (h : zCI mX4_single d [.ref 4, .int l1] g σ (fun v1 σ1 => (if (v1 = 0 : Prop) then K 0 σ1 else p_X4_term_12 d g K σ1 l1 0))) : zCI mX4_term (d + 1) [.ref 4, .int l1] g σ K := by
  refine c_of_x pn_mX4_term rfl (Nat.le_of_ble_eq_true rfl) ?_
  change zX _ _ 0 0 0 [.ref 4, .int l1] [] g σ _
  refine x_aload_n dX4_term_0 rfl ?_
  refine x_iload_n dX4_term_1 rfl ?_
  refine x_callV (Y2 := mX4_single) (as := [.int l1]) (S := []) (kc2 := 0) (ks2 := 0) mv_mX4_single (Or.inl ⟨4, _, rfl, rfl, (gL_4 hg)⟩) dX4_term_2 lk_X4_60 mo_mX4_single rfl rfl (Nat.le_of_ble_eq_true rfl) (Or.inl rfl) rfl rfl h ?_
  rintro _ _ σ1 ⟨v1, rfl, rfl, h⟩
  change zX _ _ 0 0 5 _ [.int v1] _ _ _
  refine x_if_ne (tgt := 10) dX4_term_5 rfl (fun q1 => ?_) (fun q1 => ?_)
  · replace h := itF q1 h
    refine x_iconst (v := 0) dX4_term_10 rfl ?_
    refine x_istore_n dX4_term_11 rfl (Nat.le_of_ble_eq_true rfl) (L2 := [_, _, _]) rfl ?_
    exact h
  · replace h := itT q1 h
    refine x_iconst (v := 0) dX4_term_8 rfl ?_
    exact x_iret (S := []) dX4_term_9 rfl rfl ⟨_, rfl, rfl, h⟩
set_option maxRecDepth 20000 in
theorem s_X4_term_12 {d : Nat} {g : zG} {σ : zI} {K : Int32 → zI → Prop} (hg : zGL g) {l1 : Int32} {l2 : Int32} (h : (if ((σ 4 1) ≤ l2 : Prop) then K 1 σ else (if ((σ 4 3) = 42 : Prop) then zCV mX4_next d [.ref 4] g σ (fun σ1 => zCI mX4_single d [.ref 4, .int l1] g σ1 (fun v1 σ2 => (if (v1 = 0 : Prop) then K 0 σ2 else zCV mX4_write d [.ref 4, .int (-20)] g σ2 (fun σ3 => p_X4_term_12 d g K σ3 l1 (l2 + 1))))) else K 1 σ))) : p_X4_term_12 d g K σ l1 l2 := by
  refine x_iload_n dX4_term_12 rfl ?_
  refine x_aload_n dX4_term_13 rfl ?_
  refine x_getI dX4_term_14 fl_X4_15 (gL_4 hg) rfl ?_
  refine x_icmp_ge (tgt := 55) dX4_term_17 rfl (fun q1 => ?_) (fun q1 => ?_)
  · replace h := itT q1 h
    refine x_iconst (v := 1) dX4_term_55 rfl ?_
    exact x_iret (S := []) dX4_term_56 rfl rfl ⟨_, rfl, rfl, h⟩
  · replace h := itF q1 h
    refine x_aload_n dX4_term_20 rfl ?_
    refine x_getI dX4_term_21 fl_X4_31 (gL_4 hg) rfl ?_
    refine x_bipush (v := 42) dX4_term_24 rfl ?_
    refine x_icmp_ne (tgt := 55) dX4_term_26 rfl (fun q2 => ?_) (fun q2 => ?_)
    · replace h := itF q2 h
      refine x_iconst (v := 1) dX4_term_55 rfl ?_
      exact x_iret (S := []) dX4_term_56 rfl rfl ⟨_, rfl, rfl, h⟩
    · replace h := itT q2 h
      refine x_aload_n dX4_term_29 rfl ?_
      refine x_callV (Y2 := mX4_next) (as := []) (S := []) (kc2 := 0) (ks2 := 0) mv_mX4_next (Or.inl ⟨4, _, rfl, rfl, (gL_4 hg)⟩) dX4_term_30 lk_X4_28 mo_mX4_next rfl rfl (Nat.le_of_ble_eq_true rfl) (Or.inl rfl) rfl rfl h ?_
      rintro _ _ σ1 ⟨rfl, rfl, h⟩
      change zX _ _ 0 0 33 _ [] _ _ _
      refine x_aload_n dX4_term_33 rfl ?_
      refine x_iload_n dX4_term_34 rfl ?_
      refine x_callV (Y2 := mX4_single) (as := [.int l1]) (S := []) (kc2 := 0) (ks2 := 0) mv_mX4_single (Or.inl ⟨4, _, rfl, rfl, (gL_4 hg)⟩) dX4_term_35 lk_X4_60 mo_mX4_single rfl rfl (Nat.le_of_ble_eq_true rfl) (Or.inl rfl) rfl rfl h ?_
      rintro _ _ σ2 ⟨v1, rfl, rfl, h⟩
      change zX _ _ 0 0 38 _ [.int v1] _ _ _
      refine x_if_ne (tgt := 43) dX4_term_38 rfl (fun q3 => ?_) (fun q3 => ?_)
      · replace h := itF q3 h
        refine x_aload_n dX4_term_43 rfl ?_
        refine x_bipush (v := (-20)) dX4_term_44 rfl ?_
        refine x_callV (Y2 := mX4_write) (as := [.int (-20)]) (S := []) (kc2 := 0) (ks2 := 0) mv_mX4_write (Or.inl ⟨4, _, rfl, rfl, (gL_4 hg)⟩) dX4_term_46 lk_X4_38 mo_mX4_write rfl rfl (Nat.le_of_ble_eq_true rfl) (Or.inl rfl) rfl rfl h ?_
        rintro _ _ σ3 ⟨rfl, rfl, h⟩
        change zX _ _ 0 0 49 _ [] _ _ _
        refine x_iinc dX4_term_49 rfl (v := l2 + 1) rfl rfl (Nat.le_of_ble_eq_true rfl) (L2 := [_, _, _]) rfl ?_
        refine x_goto (tgt := 12) dX4_term_52 rfl ?_
        exact h
      · replace h := itT q3 h
        refine x_iconst (v := 0) dX4_term_41 rfl ?_
        exact x_iret (S := []) dX4_term_42 rfl rfl ⟨_, rfl, rfl, h⟩
abbrev p_X4_single_62 (d : Nat) (g : zG) (K : Int32 → zI → Prop) (σ : zI) (l1 : Int32) : Prop := zX mX4_single (d + 1) 0 0 62 [.ref 4, .int l1] [] g σ (zqI g K)
set_option maxRecDepth 20000 in
theorem s_X4_single {d : Nat} {g : zG} {σ : zI} {K : Int32 → zI → Prop} (hg : zGL g) {l1 : Int32} (h : (if ((σ 4 3) = 2 : Prop) then zCV mX4_write d [.ref 4, .int (σ 4 5)] g σ (fun σ1 => zCV mX4_next d [.ref 4] g σ1 (fun σ2 => K 1 σ2)) else (if ((σ 4 3) < 1000 : Prop) then p_X4_single_62 d g K σ l1 else (if (1006 ≤ (σ 4 3) : Prop) then p_X4_single_62 d g K σ l1 else zCV mX4_write d [.ref 4, .int ((-1) - ((σ 4 3) - 1000))] g σ (fun σ1 => zCV mX4_next d [.ref 4] g σ1 (fun σ2 => K 1 σ2)))))) : zCI mX4_single (d + 1) [.ref 4, .int l1] g σ K := by
  refine c_of_x pn_mX4_single rfl (Nat.le_of_ble_eq_true rfl) ?_
  change zX _ _ 0 0 0 [.ref 4, .int l1] [] g σ _
  refine x_aload_n dX4_single_0 rfl ?_
  refine x_getI dX4_single_1 fl_X4_31 (gL_4 hg) rfl ?_
  refine x_iconst (v := 2) dX4_single_4 rfl ?_
  refine x_icmp_ne (tgt := 22) dX4_single_5 rfl (fun q1 => ?_) (fun q1 => ?_)
  · replace h := itF q1 h
    refine x_aload_n dX4_single_22 rfl ?_
    refine x_getI dX4_single_23 fl_X4_31 (gL_4 hg) rfl ?_
    refine x_sipush (v := 1000) dX4_single_26 rfl ?_
    refine x_icmp_lt (tgt := 62) dX4_single_29 rfl (fun q2 => ?_) (fun q2 => ?_)
    · replace h := itT q2 h
      exact h
    · replace h := itF q2 h
      refine x_aload_n dX4_single_32 rfl ?_
      refine x_getI dX4_single_33 fl_X4_31 (gL_4 hg) rfl ?_
      refine x_sipush (v := 1006) dX4_single_36 rfl ?_
      refine x_icmp_ge (tgt := 62) dX4_single_39 rfl (fun q3 => ?_) (fun q3 => ?_)
      · replace h := itT q3 h
        exact h
      · replace h := itF q3 h
        refine x_aload_n dX4_single_42 rfl ?_
        refine x_iconst (v := (-1)) dX4_single_43 rfl ?_
        refine x_aload_n dX4_single_44 rfl ?_
        refine x_getI dX4_single_45 fl_X4_31 (gL_4 hg) rfl ?_
        refine x_sipush (v := 1000) dX4_single_48 rfl ?_
        refine x_isub dX4_single_51 ?_
        refine x_isub dX4_single_52 ?_
        refine x_callV (Y2 := mX4_write) (as := [.int ((-1) - ((σ 4 3) - 1000))]) (S := []) (kc2 := 0) (ks2 := 0) mv_mX4_write (Or.inl ⟨4, _, rfl, rfl, (gL_4 hg)⟩) dX4_single_53 lk_X4_38 mo_mX4_write rfl rfl (Nat.le_of_ble_eq_true rfl) (Or.inl rfl) rfl rfl h ?_
        rintro _ _ σ1 ⟨rfl, rfl, h⟩
        change zX _ _ 0 0 56 _ [] _ _ _
        refine x_aload_n dX4_single_56 rfl ?_
        refine x_callV (Y2 := mX4_next) (as := []) (S := []) (kc2 := 0) (ks2 := 0) mv_mX4_next (Or.inl ⟨4, _, rfl, rfl, (gL_4 hg)⟩) dX4_single_57 lk_X4_28 mo_mX4_next rfl rfl (Nat.le_of_ble_eq_true rfl) (Or.inl rfl) rfl rfl h ?_
        rintro _ _ σ2 ⟨rfl, rfl, h⟩
        change zX _ _ 0 0 60 _ [] _ _ _
        refine x_iconst (v := 1) dX4_single_60 rfl ?_
        exact x_iret (S := []) dX4_single_61 rfl rfl ⟨_, rfl, rfl, h⟩
  · replace h := itT q1 h
    refine x_aload_n dX4_single_8 rfl ?_
    refine x_aload_n dX4_single_9 rfl ?_
    refine x_getI dX4_single_10 fl_X4_63 (gL_4 hg) rfl ?_
    refine x_callV (Y2 := mX4_write) (as := [.int (σ 4 5)]) (S := []) (kc2 := 0) (ks2 := 0) mv_mX4_write (Or.inl ⟨4, _, rfl, rfl, (gL_4 hg)⟩) dX4_single_13 lk_X4_38 mo_mX4_write rfl rfl (Nat.le_of_ble_eq_true rfl) (Or.inl rfl) rfl rfl h ?_
    rintro _ _ σ1 ⟨rfl, rfl, h⟩
    change zX _ _ 0 0 16 _ [] _ _ _
    refine x_aload_n dX4_single_16 rfl ?_
    refine x_callV (Y2 := mX4_next) (as := []) (S := []) (kc2 := 0) (ks2 := 0) mv_mX4_next (Or.inl ⟨4, _, rfl, rfl, (gL_4 hg)⟩) dX4_single_17 lk_X4_28 mo_mX4_next rfl rfl (Nat.le_of_ble_eq_true rfl) (Or.inl rfl) rfl rfl h ?_
    rintro _ _ σ2 ⟨rfl, rfl, h⟩
    change zX _ _ 0 0 20 _ [] _ _ _
    refine x_iconst (v := 1) dX4_single_20 rfl ?_
    exact x_iret (S := []) dX4_single_21 rfl rfl ⟨_, rfl, rfl, h⟩
set_option maxRecDepth 20000 in
theorem s_X4_single_62 {d : Nat} {g : zG} {σ : zI} {K : Int32 → zI → Prop} (hg : zGL g) {l1 : Int32} (h : (if ((σ 4 3) = 40 : Prop) then (if (l1 < 5 : Prop) then (if ((σ 4 3) = 40 : Prop) then zCI mX4_bracket d [.ref 4, .int (l1 + 1)] g σ (fun v1 σ1 => (v1 = 0 ∨ v1 = 1) ∧ K v1 σ1) else zCI mX4_negated d [.ref 4, .int (l1 + 1)] g σ (fun v1 σ1 => (v1 = 0 ∨ v1 = 1) ∧ K v1 σ1)) else K 0 σ) else (if ((σ 4 3) = 45 : Prop) then (if (l1 < 5 : Prop) then (if ((σ 4 3) = 40 : Prop) then zCI mX4_bracket d [.ref 4, .int (l1 + 1)] g σ (fun v1 σ1 => (v1 = 0 ∨ v1 = 1) ∧ K v1 σ1) else zCI mX4_negated d [.ref 4, .int (l1 + 1)] g σ (fun v1 σ1 => (v1 = 0 ∨ v1 = 1) ∧ K v1 σ1)) else K 0 σ) else K 0 σ))) : p_X4_single_62 d g K σ l1 := by
  refine x_aload_n dX4_single_62 rfl ?_
  refine x_getI dX4_single_63 fl_X4_31 (gL_4 hg) rfl ?_
  refine x_bipush (v := 40) dX4_single_66 rfl ?_
  refine x_icmp_eq (tgt := 80) dX4_single_68 rfl (fun q1 => ?_) (fun q1 => ?_)
  · replace h := itT q1 h
    refine x_iload_n dX4_single_80 rfl ?_
    refine x_iconst (v := 5) dX4_single_81 rfl ?_
    refine x_icmp_lt (tgt := 87) dX4_single_82 rfl (fun q2 => ?_) (fun q2 => ?_)
    · replace h := itT q2 h
      refine x_aload_n dX4_single_87 rfl ?_
      refine x_getI dX4_single_88 fl_X4_31 (gL_4 hg) rfl ?_
      refine x_bipush (v := 40) dX4_single_91 rfl ?_
      refine x_icmp_ne (tgt := 106) dX4_single_93 rfl (fun q3 => ?_) (fun q3 => ?_)
      · replace h := itF q3 h
        refine x_aload_n dX4_single_106 rfl ?_
        refine x_iload_n dX4_single_107 rfl ?_
        refine x_iconst (v := 1) dX4_single_108 rfl ?_
        refine x_iadd dX4_single_109 ?_
        refine x_callV (Y2 := mX4_negated) (as := [.int (l1 + 1)]) (S := []) (kc2 := 0) (ks2 := 0) mv_mX4_negated (Or.inl ⟨4, _, rfl, rfl, (gL_4 hg)⟩) dX4_single_110 lk_X4_69 mo_mX4_negated rfl rfl (Nat.le_of_ble_eq_true rfl) (Or.inl rfl) rfl rfl h ?_
        rintro _ _ σ1 ⟨v1, rfl, rfl, h⟩
        change zX _ _ 0 0 113 _ [.int v1] _ _ _
        obtain ⟨q4, h⟩ := h
        exact x_iret (S := []) dX4_single_113 rfl (zbz q4) ⟨_, rfl, rfl, h⟩
      · replace h := itT q3 h
        refine x_aload_n dX4_single_96 rfl ?_
        refine x_iload_n dX4_single_97 rfl ?_
        refine x_iconst (v := 1) dX4_single_98 rfl ?_
        refine x_iadd dX4_single_99 ?_
        refine x_callV (Y2 := mX4_bracket) (as := [.int (l1 + 1)]) (S := []) (kc2 := 0) (ks2 := 0) mv_mX4_bracket (Or.inl ⟨4, _, rfl, rfl, (gL_4 hg)⟩) dX4_single_100 lk_X4_66 mo_mX4_bracket rfl rfl (Nat.le_of_ble_eq_true rfl) (Or.inl rfl) rfl rfl h ?_
        rintro _ _ σ1 ⟨v1, rfl, rfl, h⟩
        change zX _ _ 0 0 103 _ [.int v1] _ _ _
        refine x_goto (tgt := 113) dX4_single_103 rfl ?_
        obtain ⟨q4, h⟩ := h
        exact x_iret (S := []) dX4_single_113 rfl (zbz q4) ⟨_, rfl, rfl, h⟩
    · replace h := itF q2 h
      refine x_iconst (v := 0) dX4_single_85 rfl ?_
      exact x_iret (S := []) dX4_single_86 rfl rfl ⟨_, rfl, rfl, h⟩
  · replace h := itF q1 h
    refine x_aload_n dX4_single_71 rfl ?_
    refine x_getI dX4_single_72 fl_X4_31 (gL_4 hg) rfl ?_
    refine x_bipush (v := 45) dX4_single_75 rfl ?_
    refine x_icmp_ne (tgt := 85) dX4_single_77 rfl (fun q2 => ?_) (fun q2 => ?_)
    · replace h := itF q2 h
      refine x_iconst (v := 0) dX4_single_85 rfl ?_
      exact x_iret (S := []) dX4_single_86 rfl rfl ⟨_, rfl, rfl, h⟩
    · replace h := itT q2 h
      refine x_iload_n dX4_single_80 rfl ?_
      refine x_iconst (v := 5) dX4_single_81 rfl ?_
      refine x_icmp_lt (tgt := 87) dX4_single_82 rfl (fun q3 => ?_) (fun q3 => ?_)
      · replace h := itT q3 h
        refine x_aload_n dX4_single_87 rfl ?_
        refine x_getI dX4_single_88 fl_X4_31 (gL_4 hg) rfl ?_
        refine x_bipush (v := 40) dX4_single_91 rfl ?_
        refine x_icmp_ne (tgt := 106) dX4_single_93 rfl (fun q4 => ?_) (fun q4 => ?_)
        · replace h := itF q4 h
          refine x_aload_n dX4_single_106 rfl ?_
          refine x_iload_n dX4_single_107 rfl ?_
          refine x_iconst (v := 1) dX4_single_108 rfl ?_
          refine x_iadd dX4_single_109 ?_
          refine x_callV (Y2 := mX4_negated) (as := [.int (l1 + 1)]) (S := []) (kc2 := 0) (ks2 := 0) mv_mX4_negated (Or.inl ⟨4, _, rfl, rfl, (gL_4 hg)⟩) dX4_single_110 lk_X4_69 mo_mX4_negated rfl rfl (Nat.le_of_ble_eq_true rfl) (Or.inl rfl) rfl rfl h ?_
          rintro _ _ σ1 ⟨v1, rfl, rfl, h⟩
          change zX _ _ 0 0 113 _ [.int v1] _ _ _
          obtain ⟨q5, h⟩ := h
          exact x_iret (S := []) dX4_single_113 rfl (zbz q5) ⟨_, rfl, rfl, h⟩
        · replace h := itT q4 h
          refine x_aload_n dX4_single_96 rfl ?_
          refine x_iload_n dX4_single_97 rfl ?_
          refine x_iconst (v := 1) dX4_single_98 rfl ?_
          refine x_iadd dX4_single_99 ?_
          refine x_callV (Y2 := mX4_bracket) (as := [.int (l1 + 1)]) (S := []) (kc2 := 0) (ks2 := 0) mv_mX4_bracket (Or.inl ⟨4, _, rfl, rfl, (gL_4 hg)⟩) dX4_single_100 lk_X4_66 mo_mX4_bracket rfl rfl (Nat.le_of_ble_eq_true rfl) (Or.inl rfl) rfl rfl h ?_
          rintro _ _ σ1 ⟨v1, rfl, rfl, h⟩
          change zX _ _ 0 0 103 _ [.int v1] _ _ _
          refine x_goto (tgt := 113) dX4_single_103 rfl ?_
          obtain ⟨q5, h⟩ := h
          exact x_iret (S := []) dX4_single_113 rfl (zbz q5) ⟨_, rfl, rfl, h⟩
      · replace h := itF q3 h
        refine x_iconst (v := 0) dX4_single_85 rfl ?_
        exact x_iret (S := []) dX4_single_86 rfl rfl ⟨_, rfl, rfl, h⟩
set_option maxRecDepth 20000 in
theorem s_X4_write {d : Nat} {g : zG} {σ : zI} {K : zI → Prop} (hg : zGL g) {l1 : Int32} (h : ∃ c1 n1 : Nat, zdr (σ 4 6) = some c1 ∧ zAr g c1 1 n1 ∧ ∃ c2 n2 : Nat, zdr (σ 4 6) = some c2 ∧ zAr g c2 1 n2 ∧ (if ((nI n2) ≤ (σ 4 7) : Prop) then K σ else ∃ c3 n3 : Nat, zdr (σ 4 6) = some c3 ∧ zAr g c3 1 n3 ∧ vp_in (σ 4 7) n3 ∧ K (zsI (zsI σ c3 ((σ 4 7 : Int32).toNatClampNeg) l1) 4 7 (((zsI σ c3 ((σ 4 7 : Int32).toNatClampNeg) l1) 4 7) + 1)))) : zCV mX4_write d [.ref 4, .int l1] g σ K := by
  refine c_of_x pn_mX4_write rfl (Nat.le_of_ble_eq_true rfl) ?_
  change zX _ _ 0 0 0 [.ref 4, .int l1] [] g σ _
  refine x_aload_n dX4_write_0 rfl ?_
  obtain ⟨c1, n1, q1, q2, h⟩ := h
  refine x_getD dX4_write_1 fl_X4_19 (gL_4 hg) rfl q1 ?_
  refine x_ifnull dX4_write_4 ?_
  refine x_aload_n dX4_write_7 rfl ?_
  refine x_getI dX4_write_8 fl_X4_22 (gL_4 hg) rfl ?_
  refine x_aload_n dX4_write_11 rfl ?_
  obtain ⟨c2, n2, q3, q4, h⟩ := h
  refine x_getD dX4_write_12 fl_X4_19 (gL_4 hg) rfl q3 ?_
  refine x_alen1 dX4_write_15 q4 ?_
  refine x_icmp_ge (tgt := 39) dX4_write_16 rfl (fun q5 => ?_) (fun q5 => ?_)
  · replace h := itT q5 h
    exact x_vret (S := []) dX4_write_39 rfl ⟨rfl, rfl, h⟩
  · replace h := itF q5 h
    refine x_aload_n dX4_write_19 rfl ?_
    obtain ⟨c3, n3, q6, q7, h⟩ := h
    refine x_getD dX4_write_20 fl_X4_19 (gL_4 hg) rfl q6 ?_
    refine x_aload_n dX4_write_23 rfl ?_
    refine x_getI dX4_write_24 fl_X4_22 (gL_4 hg) rfl ?_
    refine x_iload_n dX4_write_27 rfl ?_
    obtain ⟨q8, h⟩ := h
    refine x_iast dX4_write_28 q7 q8 ?_
    refine x_aload_n dX4_write_29 rfl ?_
    refine x_dup dX4_write_30 rfl ?_
    refine x_getI dX4_write_31 fl_X4_22 (gL_4 hg) rfl ?_
    refine x_iconst (v := 1) dX4_write_34 rfl ?_
    refine x_iadd dX4_write_35 ?_
    refine x_putI dX4_write_36 fl_X4_22 (gL_4 hg) rfl rfl ?_
    exact x_vret (S := []) dX4_write_39 rfl ⟨rfl, rfl, h⟩
set_option maxRecDepth 20000 in
theorem s_X4_bracket {d : Nat} {g : zG} {σ : zI} {K : Int32 → zI → Prop} (hg : zGL g) {l1 : Int32} (h : zCV mX4_next d [.ref 4] g σ (fun σ1 => zCI mX4_either d [.ref 4, .int l1] g σ1 (fun v1 σ2 => (if (v1 = 0 : Prop) then K 0 σ2 else (if ((σ2 4 3) = 41 : Prop) then zCV mX4_next d [.ref 4] g σ2 (fun σ3 => K 1 σ3) else K 0 σ2))))) : zCI mX4_bracket (d + 1) [.ref 4, .int l1] g σ K := by
  refine c_of_x pn_mX4_bracket rfl (Nat.le_of_ble_eq_true rfl) ?_
  change zX _ _ 0 0 0 [.ref 4, .int l1] [] g σ _
  refine x_aload_n dX4_bracket_0 rfl ?_
  refine x_callV (Y2 := mX4_next) (as := []) (S := []) (kc2 := 0) (ks2 := 0) mv_mX4_next (Or.inl ⟨4, _, rfl, rfl, (gL_4 hg)⟩) dX4_bracket_1 lk_X4_28 mo_mX4_next rfl rfl (Nat.le_of_ble_eq_true rfl) (Or.inl rfl) rfl rfl h ?_
  rintro _ _ σ1 ⟨rfl, rfl, h⟩
  change zX _ _ 0 0 4 _ [] _ _ _
  refine x_aload_n dX4_bracket_4 rfl ?_
  refine x_iload_n dX4_bracket_5 rfl ?_
  refine x_callV (Y2 := mX4_either) (as := [.int l1]) (S := []) (kc2 := 0) (ks2 := 0) mv_mX4_either (Or.inl ⟨4, _, rfl, rfl, (gL_4 hg)⟩) dX4_bracket_6 lk_X4_34 mo_mX4_either rfl rfl (Nat.le_of_ble_eq_true rfl) (Or.inl rfl) rfl rfl h ?_
  rintro _ _ σ2 ⟨v1, rfl, rfl, h⟩
  change zX _ _ 0 0 9 _ [.int v1] _ _ _
  refine x_if_eq (tgt := 21) dX4_bracket_9 rfl (fun q1 => ?_) (fun q1 => ?_)
  · replace h := itT q1 h
    refine x_iconst (v := 0) dX4_bracket_21 rfl ?_
    exact x_iret (S := []) dX4_bracket_22 rfl rfl ⟨_, rfl, rfl, h⟩
  · replace h := itF q1 h
    refine x_aload_n dX4_bracket_12 rfl ?_
    refine x_getI dX4_bracket_13 fl_X4_31 (gL_4 hg) rfl ?_
    refine x_bipush (v := 41) dX4_bracket_16 rfl ?_
    refine x_icmp_eq (tgt := 23) dX4_bracket_18 rfl (fun q2 => ?_) (fun q2 => ?_)
    · replace h := itT q2 h
      refine x_aload_n dX4_bracket_23 rfl ?_
      refine x_callV (Y2 := mX4_next) (as := []) (S := []) (kc2 := 0) (ks2 := 0) mv_mX4_next (Or.inl ⟨4, _, rfl, rfl, (gL_4 hg)⟩) dX4_bracket_24 lk_X4_28 mo_mX4_next rfl rfl (Nat.le_of_ble_eq_true rfl) (Or.inl rfl) rfl rfl h ?_
      rintro _ _ σ3 ⟨rfl, rfl, h⟩
      change zX _ _ 0 0 27 _ [] _ _ _
      refine x_iconst (v := 1) dX4_bracket_27 rfl ?_
      exact x_iret (S := []) dX4_bracket_28 rfl rfl ⟨_, rfl, rfl, h⟩
    · replace h := itF q2 h
      refine x_iconst (v := 0) dX4_bracket_21 rfl ?_
      exact x_iret (S := []) dX4_bracket_22 rfl rfl ⟨_, rfl, rfl, h⟩
set_option maxRecDepth 20000 in
theorem s_X4_negated {d : Nat} {g : zG} {σ : zI} {K : Int32 → zI → Prop} (hg : zGL g) {l1 : Int32} (h : zCV mX4_next d [.ref 4] g σ (fun σ1 => zCI mX4_single d [.ref 4, .int l1] g σ1 (fun v1 σ2 => (if (v1 = 0 : Prop) then K 0 σ2 else zCV mX4_write d [.ref 4, .int (-12)] g σ2 (fun σ3 => K 1 σ3))))) : zCI mX4_negated (d + 1) [.ref 4, .int l1] g σ K := by
  refine c_of_x pn_mX4_negated rfl (Nat.le_of_ble_eq_true rfl) ?_
  change zX _ _ 0 0 0 [.ref 4, .int l1] [] g σ _
  refine x_aload_n dX4_negated_0 rfl ?_
  refine x_callV (Y2 := mX4_next) (as := []) (S := []) (kc2 := 0) (ks2 := 0) mv_mX4_next (Or.inl ⟨4, _, rfl, rfl, (gL_4 hg)⟩) dX4_negated_1 lk_X4_28 mo_mX4_next rfl rfl (Nat.le_of_ble_eq_true rfl) (Or.inl rfl) rfl rfl h ?_
  rintro _ _ σ1 ⟨rfl, rfl, h⟩
  change zX _ _ 0 0 4 _ [] _ _ _
  refine x_aload_n dX4_negated_4 rfl ?_
  refine x_iload_n dX4_negated_5 rfl ?_
  refine x_callV (Y2 := mX4_single) (as := [.int l1]) (S := []) (kc2 := 0) (ks2 := 0) mv_mX4_single (Or.inl ⟨4, _, rfl, rfl, (gL_4 hg)⟩) dX4_negated_6 lk_X4_60 mo_mX4_single rfl rfl (Nat.le_of_ble_eq_true rfl) (Or.inl rfl) rfl rfl h ?_
  rintro _ _ σ2 ⟨v1, rfl, rfl, h⟩
  change zX _ _ 0 0 9 _ [.int v1] _ _ _
  refine x_if_ne (tgt := 14) dX4_negated_9 rfl (fun q1 => ?_) (fun q1 => ?_)
  · replace h := itF q1 h
    refine x_aload_n dX4_negated_14 rfl ?_
    refine x_bipush (v := (-12)) dX4_negated_15 rfl ?_
    refine x_callV (Y2 := mX4_write) (as := [.int (-12)]) (S := []) (kc2 := 0) (ks2 := 0) mv_mX4_write (Or.inl ⟨4, _, rfl, rfl, (gL_4 hg)⟩) dX4_negated_17 lk_X4_38 mo_mX4_write rfl rfl (Nat.le_of_ble_eq_true rfl) (Or.inl rfl) rfl rfl h ?_
    rintro _ _ σ3 ⟨rfl, rfl, h⟩
    change zX _ _ 0 0 20 _ [] _ _ _
    refine x_iconst (v := 1) dX4_negated_20 rfl ?_
    exact x_iret (S := []) dX4_negated_21 rfl rfl ⟨_, rfl, rfl, h⟩
  · replace h := itT q1 h
    refine x_iconst (v := 0) dX4_negated_12 rfl ?_
    exact x_iret (S := []) dX4_negated_13 rfl rfl ⟨_, rfl, rfl, h⟩
