set_option maxRecDepth 20000 in
theorem s_X7_set {d : Nat} {g : zG} {σ : zI} {K : Int32 → zI → Prop} (hg : zGA g) {l1 : Int32} {l2 : Int32} {l3 : Int32} (h : (if (l1 = 0 : Prop) then zCI mX7_setDay d [.ref 0, .int l3] g σ (fun v1 σ1 => K v1 σ1) else zCR mX7_heirAt d [.ref 0, .int l2] g σ (fun x1 σ1 => match x1 with | none => K (-2) σ1 | some r1 => zOb g r1 0 ∧ (if (l1 < 1 : Prop) then K (-2) σ1 else (if (l1 ≤ 2 : Prop) then (if (l1 = 1 : Prop) then zCI mX7_setMore d [.ref r1, .int l3] g σ1 (fun v1 σ2 => K v1 σ2) else zCI mX7_setOwn d [.ref r1, .int l3] g σ1 (fun v1 σ2 => K v1 σ2)) else K (-2) σ1))))) : zCI mX7_set (d + 1) [.ref 0, .int l1, .int l2, .int l3] g σ K := by
  refine c_of_x pn_mX7_set rfl (Nat.le_of_ble_eq_true rfl) ?_
  change zX _ _ 0 0 0 [.ref 0, .int l1, .int l2, .int l3] [] g σ _
  refine x_iload_n dX7_set_0 rfl ?_
  refine x_if_ne (tgt := 10) dX7_set_1 rfl (fun q1 => ?_) (fun q1 => ?_)
  · replace h := itF q1 h
    refine x_aload_n dX7_set_10 rfl ?_
    refine x_iload_n dX7_set_11 rfl ?_
    refine x_callV (Y2 := mX7_heirAt) (as := [.int l2]) (S := []) (kc2 := 0) (ks2 := 0) mv_mX7_heirAt (Or.inl ⟨7, _, rfl, rfl, (gA_0 hg)⟩) dX7_set_12 lk_X7_66 mo_mX7_heirAt rfl rfl (Nat.le_of_ble_eq_true rfl) (Or.inl rfl) rfl rfl h ?_
    rintro _ _ σ1 ⟨x1, rfl, rfl, h⟩
    rcases x1 with _ | r1
    · dsimp only at h
      change zX _ _ 0 0 15 _ [.null] _ _ _
      refine x_astoreN dX7_set_15 rfl (Nat.le_of_ble_eq_true rfl) (L2 := [_, _, _, _, _]) rfl ?_
      refine x_aloadN dX7_set_17 rfl ?_
      refine x_ifnullN (tgt := 32) dX7_set_19 rfl ?_
      refine x_bipush (v := (-2)) dX7_set_32 rfl ?_
      exact x_iret (S := []) dX7_set_34 rfl rfl ⟨_, rfl, rfl, h⟩
    · dsimp only at h
      obtain ⟨q2, h⟩ := h
      change zX _ _ 0 0 15 _ [.ref r1] _ _ _
      refine x_astore dX7_set_15 rfl (Nat.le_of_ble_eq_true rfl) (L2 := [_, _, _, _, _]) rfl ?_
      refine x_aload dX7_set_17 rfl ?_
      refine x_ifnull dX7_set_19 ?_
      refine x_iload_n dX7_set_22 rfl ?_
      refine x_iconst (v := 1) dX7_set_23 rfl ?_
      refine x_icmp_lt (tgt := 32) dX7_set_24 rfl (fun q3 => ?_) (fun q3 => ?_)
      · replace h := itT q3 h
        refine x_bipush (v := (-2)) dX7_set_32 rfl ?_
        exact x_iret (S := []) dX7_set_34 rfl rfl ⟨_, rfl, rfl, h⟩
      · replace h := itF q3 h
        refine x_iload_n dX7_set_27 rfl ?_
        refine x_iconst (v := 2) dX7_set_28 rfl ?_
        refine x_icmp_le (tgt := 35) dX7_set_29 rfl (fun q4 => ?_) (fun q4 => ?_)
        · replace h := itT q4 h
          refine x_iload_n dX7_set_35 rfl ?_
          refine x_iconst (v := 1) dX7_set_36 rfl ?_
          refine x_icmp_ne (tgt := 47) dX7_set_37 rfl (fun q5 => ?_) (fun q5 => ?_)
          · replace h := itF q5 h
            refine x_aload dX7_set_47 rfl ?_
            refine x_iload_n dX7_set_49 rfl ?_
            refine x_callS (Y2 := mX7_setOwn) (as := [.ref r1, .int l3]) (S := []) (kc2 := 0) (ks2 := 0) st_mX7_setOwn dX7_set_50 lk_X7_74 mo_mX7_setOwn rfl rfl (Nat.le_of_ble_eq_true rfl) (Or.inl rfl) rfl rfl h ?_
            rintro _ _ σ2 ⟨v1, rfl, rfl, h⟩
            change zX _ _ 0 0 53 _ [.int v1] _ _ _
            exact x_iret (S := []) dX7_set_53 rfl rfl ⟨_, rfl, rfl, h⟩
          · replace h := itT q5 h
            refine x_aload dX7_set_40 rfl ?_
            refine x_iload_n dX7_set_42 rfl ?_
            refine x_callS (Y2 := mX7_setMore) (as := [.ref r1, .int l3]) (S := []) (kc2 := 0) (ks2 := 0) st_mX7_setMore dX7_set_43 lk_X7_70 mo_mX7_setMore rfl rfl (Nat.le_of_ble_eq_true rfl) (Or.inl rfl) rfl rfl h ?_
            rintro _ _ σ2 ⟨v1, rfl, rfl, h⟩
            change zX _ _ 0 0 46 _ [.int v1] _ _ _
            exact x_iret (S := []) dX7_set_46 rfl rfl ⟨_, rfl, rfl, h⟩
        · replace h := itF q4 h
          refine x_bipush (v := (-2)) dX7_set_32 rfl ?_
          exact x_iret (S := []) dX7_set_34 rfl rfl ⟨_, rfl, rfl, h⟩
  · replace h := itT q1 h
    refine x_aload_n dX7_set_4 rfl ?_
    refine x_iload_n dX7_set_5 rfl ?_
    refine x_callV (Y2 := mX7_setDay) (as := [.int l3]) (S := []) (kc2 := 0) (ks2 := 0) mv_mX7_setDay (Or.inl ⟨7, _, rfl, rfl, (gA_0 hg)⟩) dX7_set_6 lk_X7_62 mo_mX7_setDay rfl rfl (Nat.le_of_ble_eq_true rfl) (Or.inl rfl) rfl rfl h ?_
    rintro _ _ σ1 ⟨v1, rfl, rfl, h⟩
    change zX _ _ 0 0 9 _ [.int v1] _ _ _
    exact x_iret (S := []) dX7_set_9 rfl rfl ⟨_, rfl, rfl, h⟩
set_option maxRecDepth 20000 in
theorem s_X7_setDay {d : Nat} {g : zG} {σ : zI} {K : Int32 → zI → Prop} (hg : zGA g) {l1 : Int32} (h : (if (l1 < 0 : Prop) then K (-2) σ else (if (l1 ≤ 99 : Prop) then K (σ 3 7) (zsI σ 3 7 l1) else K (-2) σ))) : zCI mX7_setDay d [.ref 0, .int l1] g σ K := by
  refine c_of_x pn_mX7_setDay rfl (Nat.le_of_ble_eq_true rfl) ?_
  change zX _ _ 0 0 0 [.ref 0, .int l1] [] g σ _
  refine x_iload_n dX7_setDay_0 rfl ?_
  refine x_if_lt (tgt := 10) dX7_setDay_1 rfl (fun q1 => ?_) (fun q1 => ?_)
  · replace h := itT q1 h
    refine x_bipush (v := (-2)) dX7_setDay_10 rfl ?_
    exact x_iret (S := []) dX7_setDay_12 rfl rfl ⟨_, rfl, rfl, h⟩
  · replace h := itF q1 h
    refine x_iload_n dX7_setDay_4 rfl ?_
    refine x_bipush (v := 99) dX7_setDay_5 rfl ?_
    refine x_icmp_le (tgt := 13) dX7_setDay_7 rfl (fun q2 => ?_) (fun q2 => ?_)
    · replace h := itT q2 h
      refine x_aload_n dX7_setDay_13 rfl ?_
      refine x_getR dX7_setDay_14 fl_X7_24 (gA_0 hg) rfl (gA_0_2 hg) ?_
      refine x_getI dX7_setDay_17 fl_X7_109 (gA_3 hg) rfl ?_
      refine x_istore_n dX7_setDay_20 rfl (Nat.le_of_ble_eq_true rfl) (L2 := [_, _, _]) rfl ?_
      refine x_aload_n dX7_setDay_21 rfl ?_
      refine x_getR dX7_setDay_22 fl_X7_24 (gA_0 hg) rfl (gA_0_2 hg) ?_
      refine x_iload_n dX7_setDay_25 rfl ?_
      refine x_putI dX7_setDay_26 fl_X7_109 (gA_3 hg) rfl rfl ?_
      refine x_iload_n dX7_setDay_29 rfl ?_
      exact x_iret (S := []) dX7_setDay_30 rfl rfl ⟨_, rfl, rfl, h⟩
    · replace h := itF q2 h
      refine x_bipush (v := (-2)) dX7_setDay_10 rfl ?_
      exact x_iret (S := []) dX7_setDay_12 rfl rfl ⟨_, rfl, rfl, h⟩
set_option maxRecDepth 20000 in
theorem s_X7_heirAt {d : Nat} {g : zG} {σ : zI} {K : Option Nat → zI → Prop} (hg : zGA g) {l1 : Int32} (h : (if (l1 < 0 : Prop) then K none σ else (if ((σ 0 8) ≤ l1 : Prop) then K none σ else (if (l1 < (nI 6) : Prop) then vp_in l1 6 ∧ K (some (43 + l1.toNatClampNeg)) σ else K none σ)))) : zCR mX7_heirAt d [.ref 0, .int l1] g σ K := by
  refine c_of_x pn_mX7_heirAt rfl (Nat.le_of_ble_eq_true rfl) ?_
  change zX _ _ 0 0 0 [.ref 0, .int l1] [] g σ _
  refine x_iload_n dX7_heirAt_0 rfl ?_
  refine x_if_lt (tgt := 21) dX7_heirAt_1 rfl (fun q1 => ?_) (fun q1 => ?_)
  · replace h := itT q1 h
    refine x_null dX7_heirAt_21 ?_
    refine x_goto (tgt := 31) dX7_heirAt_22 rfl ?_
    exact x_aretN (S := []) dX7_heirAt_31 rfl (Or.inl ⟨_, rfl⟩) ⟨none, rfl, rfl, h⟩
  · replace h := itF q1 h
    refine x_iload_n dX7_heirAt_4 rfl ?_
    refine x_aload_n dX7_heirAt_5 rfl ?_
    refine x_getI dX7_heirAt_6 fl_X7_77 (gA_0 hg) rfl ?_
    refine x_icmp_ge (tgt := 21) dX7_heirAt_9 rfl (fun q2 => ?_) (fun q2 => ?_)
    · replace h := itT q2 h
      refine x_null dX7_heirAt_21 ?_
      refine x_goto (tgt := 31) dX7_heirAt_22 rfl ?_
      exact x_aretN (S := []) dX7_heirAt_31 rfl (Or.inl ⟨_, rfl⟩) ⟨none, rfl, rfl, h⟩
    · replace h := itF q2 h
      refine x_iload_n dX7_heirAt_12 rfl ?_
      refine x_aload_n dX7_heirAt_13 rfl ?_
      refine x_getR dX7_heirAt_14 fl_X7_11 (gA_0 hg) rfl (gA_0_0 hg) ?_
      refine x_alenq (t := 0) dX7_heirAt_17 (gA_1 hg) (by decide) ?_
      refine x_icmp_lt (tgt := 25) dX7_heirAt_18 rfl (fun q3 => ?_) (fun q3 => ?_)
      · replace h := itT q3 h
        refine x_aload_n dX7_heirAt_25 rfl ?_
        refine x_getR dX7_heirAt_26 fl_X7_11 (gA_0 hg) rfl (gA_0_0 hg) ?_
        refine x_iload_n dX7_heirAt_29 rfl ?_
        obtain ⟨q4, h⟩ := h
        refine x_aald (t := 0) dX7_heirAt_30 (gA_1 hg) (by decide) q4 (gr_family hg q4).1 ?_
        exact x_aret (S := []) dX7_heirAt_31 rfl (Or.inl ⟨_, rfl⟩) ⟨some (43 + l1.toNatClampNeg), rfl, rfl, h⟩
      · replace h := itF q3 h
        refine x_null dX7_heirAt_21 ?_
        refine x_goto (tgt := 31) dX7_heirAt_22 rfl ?_
        exact x_aretN (S := []) dX7_heirAt_31 rfl (Or.inl ⟨_, rfl⟩) ⟨none, rfl, rfl, h⟩
set_option maxRecDepth 20000 in
theorem s_X7_setMore {d : Nat} {g : zG} {σ : zI} {K : Int32 → zI → Prop} (hg : zGA g) {l0 : Nat} (h0 : zOb g l0 0) {l1 : Int32} (h : (if (l1 < 0 : Prop) then K (-2) σ else (if (l1 < 10 : Prop) then K (σ l0 2) (zsI σ l0 2 l1) else K (-2) σ))) : zCI mX7_setMore d [.ref l0, .int l1] g σ K := by
  refine c_of_x pn_mX7_setMore rfl (Nat.le_of_ble_eq_true rfl) ?_
  change zX _ _ 0 0 0 [.ref l0, .int l1] [] g σ _
  refine x_iload_n dX7_setMore_0 rfl ?_
  refine x_if_lt (tgt := 10) dX7_setMore_1 rfl (fun q1 => ?_) (fun q1 => ?_)
  · replace h := itT q1 h
    refine x_bipush (v := (-2)) dX7_setMore_10 rfl ?_
    exact x_iret (S := []) dX7_setMore_12 rfl rfl ⟨_, rfl, rfl, h⟩
  · replace h := itF q1 h
    refine x_iload_n dX7_setMore_4 rfl ?_
    refine x_bipush (v := 10) dX7_setMore_5 rfl ?_
    refine x_icmp_lt (tgt := 13) dX7_setMore_7 rfl (fun q2 => ?_) (fun q2 => ?_)
    · replace h := itT q2 h
      refine x_aload_n dX7_setMore_13 rfl ?_
      refine x_getI dX7_setMore_14 fl_X7_87 h0 rfl ?_
      refine x_istore_n dX7_setMore_17 rfl (Nat.le_of_ble_eq_true rfl) (L2 := [_, _, _]) rfl ?_
      refine x_aload_n dX7_setMore_18 rfl ?_
      refine x_iload_n dX7_setMore_19 rfl ?_
      refine x_putI dX7_setMore_20 fl_X7_87 h0 rfl rfl ?_
      refine x_iload_n dX7_setMore_23 rfl ?_
      exact x_iret (S := []) dX7_setMore_24 rfl rfl ⟨_, rfl, rfl, h⟩
    · replace h := itF q2 h
      refine x_bipush (v := (-2)) dX7_setMore_10 rfl ?_
      exact x_iret (S := []) dX7_setMore_12 rfl rfl ⟨_, rfl, rfl, h⟩
set_option maxRecDepth 20000 in
theorem s_X7_setOwn {d : Nat} {g : zG} {σ : zI} {K : Int32 → zI → Prop} (hg : zGA g) {l0 : Nat} (h0 : zOb g l0 0) {l1 : Int32} (h : (if (l1 < 0 : Prop) then K (-2) σ else (if (l1 ≤ 1073741823 : Prop) then K (σ l0 3) (zsI σ l0 3 l1) else K (-2) σ))) : zCI mX7_setOwn d [.ref l0, .int l1] g σ K := by
  refine c_of_x pn_mX7_setOwn rfl (Nat.le_of_ble_eq_true rfl) ?_
  change zX _ _ 0 0 0 [.ref l0, .int l1] [] g σ _
  refine x_iload_n dX7_setOwn_0 rfl ?_
  refine x_if_lt (tgt := 10) dX7_setOwn_1 rfl (fun q1 => ?_) (fun q1 => ?_)
  · replace h := itT q1 h
    refine x_bipush (v := (-2)) dX7_setOwn_10 rfl ?_
    exact x_iret (S := []) dX7_setOwn_12 rfl rfl ⟨_, rfl, rfl, h⟩
  · replace h := itF q1 h
    refine x_iload_n dX7_setOwn_4 rfl ?_
    refine x_ldc dX7_setOwn_5 kc_X7_116 ?_
    refine x_icmp_le (tgt := 13) dX7_setOwn_7 rfl (fun q2 => ?_) (fun q2 => ?_)
    · replace h := itT q2 h
      refine x_aload_n dX7_setOwn_13 rfl ?_
      refine x_getI dX7_setOwn_14 fl_X7_90 h0 rfl ?_
      refine x_istore_n dX7_setOwn_17 rfl (Nat.le_of_ble_eq_true rfl) (L2 := [_, _, _]) rfl ?_
      refine x_aload_n dX7_setOwn_18 rfl ?_
      refine x_iload_n dX7_setOwn_19 rfl ?_
      refine x_putI dX7_setOwn_20 fl_X7_90 h0 rfl rfl ?_
      refine x_iload_n dX7_setOwn_23 rfl ?_
      exact x_iret (S := []) dX7_setOwn_24 rfl rfl ⟨_, rfl, rfl, h⟩
    · replace h := itF q2 h
      refine x_bipush (v := (-2)) dX7_setOwn_10 rfl ?_
      exact x_iret (S := []) dX7_setOwn_12 rfl rfl ⟨_, rfl, rfl, h⟩
set_option maxRecDepth 20000 in
theorem s_X7_heir {d : Nat} {g : zG} {σ : zI} {K : Int32 → zI → Prop} (hg : zGA g) {l1 : Int32} {l2 : Int32} (h : (if (l1 < 0 : Prop) then K (-2) σ else (if (6 ≤ l1 : Prop) then K (-2) σ else (if (l2 < 0 : Prop) then K (-2) σ else (if (l2 < 10 : Prop) then (if ((σ 0 8) < (nI 6) : Prop) then vp_in (σ 0 8) 6 ∧ K ((zsI (zsI (zsI (zsI (zsI σ (43 + ((σ 0 8 : Int32).toNatClampNeg)) 0 (σ 0 8)) (43 + ((σ 0 8 : Int32).toNatClampNeg)) 1 l1) (43 + ((σ 0 8 : Int32).toNatClampNeg)) 2 l2) (43 + ((σ 0 8 : Int32).toNatClampNeg)) 3 0) 0 8 (((zsI (zsI (zsI (zsI σ (43 + ((σ 0 8 : Int32).toNatClampNeg)) 0 (σ 0 8)) (43 + ((σ 0 8 : Int32).toNatClampNeg)) 1 l1) (43 + ((σ 0 8 : Int32).toNatClampNeg)) 2 l2) (43 + ((σ 0 8 : Int32).toNatClampNeg)) 3 0) 0 8) + 1)) (43 + ((σ 0 8 : Int32).toNatClampNeg)) 0) (zsI (zsI (zsI (zsI (zsI σ (43 + ((σ 0 8 : Int32).toNatClampNeg)) 0 (σ 0 8)) (43 + ((σ 0 8 : Int32).toNatClampNeg)) 1 l1) (43 + ((σ 0 8 : Int32).toNatClampNeg)) 2 l2) (43 + ((σ 0 8 : Int32).toNatClampNeg)) 3 0) 0 8 (((zsI (zsI (zsI (zsI σ (43 + ((σ 0 8 : Int32).toNatClampNeg)) 0 (σ 0 8)) (43 + ((σ 0 8 : Int32).toNatClampNeg)) 1 l1) (43 + ((σ 0 8 : Int32).toNatClampNeg)) 2 l2) (43 + ((σ 0 8 : Int32).toNatClampNeg)) 3 0) 0 8) + 1)) else K (-4) σ) else K (-2) σ))))) : zCI mX7_heir d [.ref 0, .int l1, .int l2] g σ K := by
  refine c_of_x pn_mX7_heir rfl (Nat.le_of_ble_eq_true rfl) ?_
  change zX _ _ 0 0 0 [.ref 0, .int l1, .int l2] [] g σ _
  refine x_iload_n dX7_heir_0 rfl ?_
  refine x_if_lt (tgt := 20) dX7_heir_1 rfl (fun q1 => ?_) (fun q1 => ?_)
  · replace h := itT q1 h
    refine x_bipush (v := (-2)) dX7_heir_20 rfl ?_
    exact x_iret (S := []) dX7_heir_22 rfl rfl ⟨_, rfl, rfl, h⟩
  · replace h := itF q1 h
    refine x_iload_n dX7_heir_4 rfl ?_
    refine x_bipush (v := 6) dX7_heir_5 rfl ?_
    refine x_icmp_ge (tgt := 20) dX7_heir_7 rfl (fun q2 => ?_) (fun q2 => ?_)
    · replace h := itT q2 h
      refine x_bipush (v := (-2)) dX7_heir_20 rfl ?_
      exact x_iret (S := []) dX7_heir_22 rfl rfl ⟨_, rfl, rfl, h⟩
    · replace h := itF q2 h
      refine x_iload_n dX7_heir_10 rfl ?_
      refine x_if_lt (tgt := 20) dX7_heir_11 rfl (fun q3 => ?_) (fun q3 => ?_)
      · replace h := itT q3 h
        refine x_bipush (v := (-2)) dX7_heir_20 rfl ?_
        exact x_iret (S := []) dX7_heir_22 rfl rfl ⟨_, rfl, rfl, h⟩
      · replace h := itF q3 h
        refine x_iload_n dX7_heir_14 rfl ?_
        refine x_bipush (v := 10) dX7_heir_15 rfl ?_
        refine x_icmp_lt (tgt := 23) dX7_heir_17 rfl (fun q4 => ?_) (fun q4 => ?_)
        · replace h := itT q4 h
          refine x_aload_n dX7_heir_23 rfl ?_
          refine x_getI dX7_heir_24 fl_X7_77 (gA_0 hg) rfl ?_
          refine x_aload_n dX7_heir_27 rfl ?_
          refine x_getR dX7_heir_28 fl_X7_11 (gA_0 hg) rfl (gA_0_0 hg) ?_
          refine x_alenq (t := 0) dX7_heir_31 (gA_1 hg) (by decide) ?_
          refine x_icmp_lt (tgt := 38) dX7_heir_32 rfl (fun q5 => ?_) (fun q5 => ?_)
          · replace h := itT q5 h
            refine x_aload_n dX7_heir_38 rfl ?_
            refine x_getR dX7_heir_39 fl_X7_11 (gA_0 hg) rfl (gA_0_0 hg) ?_
            refine x_aload_n dX7_heir_42 rfl ?_
            refine x_getI dX7_heir_43 fl_X7_77 (gA_0 hg) rfl ?_
            obtain ⟨q6, h⟩ := h
            refine x_aald (t := 0) dX7_heir_46 (gA_1 hg) (by decide) q6 (gr_family hg q6).1 ?_
            refine x_astore_n dX7_heir_47 rfl (Nat.le_of_ble_eq_true rfl) (L2 := [_, _, _, _]) rfl ?_
            refine x_aload_n dX7_heir_48 rfl ?_
            refine x_aload_n dX7_heir_49 rfl ?_
            refine x_getI dX7_heir_50 fl_X7_77 (gA_0 hg) rfl ?_
            refine x_putI dX7_heir_53 fl_X7_81 (gr_family hg q6).2 rfl rfl ?_
            refine x_aload_n dX7_heir_56 rfl ?_
            refine x_iload_n dX7_heir_57 rfl ?_
            refine x_putI dX7_heir_58 fl_X7_84 (gr_family hg q6).2 rfl rfl ?_
            refine x_aload_n dX7_heir_61 rfl ?_
            refine x_iload_n dX7_heir_62 rfl ?_
            refine x_putI dX7_heir_63 fl_X7_87 (gr_family hg q6).2 rfl rfl ?_
            refine x_aload_n dX7_heir_66 rfl ?_
            refine x_iconst (v := 0) dX7_heir_67 rfl ?_
            refine x_putI dX7_heir_68 fl_X7_90 (gr_family hg q6).2 rfl rfl ?_
            refine x_aload_n dX7_heir_71 rfl ?_
            refine x_dup dX7_heir_72 rfl ?_
            refine x_getI dX7_heir_73 fl_X7_77 (gA_0 hg) rfl ?_
            refine x_iconst (v := 1) dX7_heir_76 rfl ?_
            refine x_iadd dX7_heir_77 ?_
            refine x_putI dX7_heir_78 fl_X7_77 (gA_0 hg) rfl rfl ?_
            refine x_aload_n dX7_heir_81 rfl ?_
            refine x_getI dX7_heir_82 fl_X7_81 (gr_family hg q6).2 rfl ?_
            exact x_iret (S := []) dX7_heir_85 rfl rfl ⟨_, rfl, rfl, h⟩
          · replace h := itF q5 h
            refine x_bipush (v := (-4)) dX7_heir_35 rfl ?_
            exact x_iret (S := []) dX7_heir_37 rfl rfl ⟨_, rfl, rfl, h⟩
        · replace h := itF q4 h
          refine x_bipush (v := (-2)) dX7_heir_20 rfl ?_
          exact x_iret (S := []) dX7_heir_22 rfl rfl ⟨_, rfl, rfl, h⟩
set_option maxRecDepth 20000 in
theorem s_X7_give {d : Nat} {g : zG} {σ : zI} {K : Int32 → zI → Prop} (hg : zGA g) {l1 : Int32} {l2 : Int32} {l3 : Int32} (h : zCR mX7_heirAt d [.ref 0, .int l1] g σ (fun x1 σ1 => match x1 with | none => zCR mX7_heirAt d [.ref 0, .int l2] g σ1 (fun x2 σ2 => match x2 with | none => K (-2) σ2 | some r2 => zOb g r2 0 ∧ K (-2) σ2) | some r1 => zOb g r1 0 ∧ zCR mX7_heirAt d [.ref 0, .int l2] g σ1 (fun x2 σ2 => match x2 with | none => K (-2) σ2 | some r2 => zOb g r2 0 ∧ (if ((r1 : Nat) = r2 : Prop) then K (-2) σ2 else zCI mX7_isNumber d [.int l3] g σ2 (fun v1 σ3 => (if (v1 = 0 : Prop) then K (-2) σ3 else zCI mX7_has d [.int (σ3 r1 3), .int l3] g σ3 (fun v2 σ4 => (if (v2 = 0 : Prop) then K (-3) σ4 else zCI mX7_has d [.int (σ4 r2 3), .int l3] g σ4 (fun v3 σ5 => (if (v3 = 0 : Prop) then zCI mX7_bit d [.int l3] g σ5 (fun v4 σ6 => zCI mX7_bit d [.int l3] g (zsI σ6 r1 3 ((σ5 r1 3) &&& (v4 ^^^ (-1)))) (fun v5 σ7 => zCI mJ6_bitCount_0f7a4 d [.int ((zsI σ7 r2 3 (((zsI σ6 r1 3 ((σ5 r1 3) &&& (v4 ^^^ (-1)))) r2 3) ||| v5)) r1 3)] g (zsI σ7 r2 3 (((zsI σ6 r1 3 ((σ5 r1 3) &&& (v4 ^^^ (-1)))) r2 3) ||| v5)) (fun v6 σ8 => K v6 σ8))) else K (-3) σ5)))))))))) : zCI mX7_give (d + 1) [.ref 0, .int l1, .int l2, .int l3] g σ K := by
  refine c_of_x pn_mX7_give rfl (Nat.le_of_ble_eq_true rfl) ?_
  change zX _ _ 0 0 0 [.ref 0, .int l1, .int l2, .int l3] [] g σ _
  refine x_aload_n dX7_give_0 rfl ?_
  refine x_iload_n dX7_give_1 rfl ?_
  refine x_callV (Y2 := mX7_heirAt) (as := [.int l1]) (S := []) (kc2 := 0) (ks2 := 0) mv_mX7_heirAt (Or.inl ⟨7, _, rfl, rfl, (gA_0 hg)⟩) dX7_give_2 lk_X7_66 mo_mX7_heirAt rfl rfl (Nat.le_of_ble_eq_true rfl) (Or.inl rfl) rfl rfl h ?_
  rintro _ _ σ1 ⟨x1, rfl, rfl, h⟩
  rcases x1 with _ | r1
  · dsimp only at h
    change zX _ _ 0 0 5 _ [.null] _ _ _
    refine x_astoreN dX7_give_5 rfl (Nat.le_of_ble_eq_true rfl) (L2 := [_, _, _, _, _]) rfl ?_
    refine x_aload_n dX7_give_7 rfl ?_
    refine x_iload_n dX7_give_8 rfl ?_
    refine x_callV (Y2 := mX7_heirAt) (as := [.int l2]) (S := []) (kc2 := 0) (ks2 := 0) mv_mX7_heirAt (Or.inl ⟨7, _, rfl, rfl, (gA_0 hg)⟩) dX7_give_9 lk_X7_66 mo_mX7_heirAt rfl rfl (Nat.le_of_ble_eq_true rfl) (Or.inl rfl) rfl rfl h ?_
    rintro _ _ σ2 ⟨x2, rfl, rfl, h⟩
    rcases x2 with _ | r2
    · dsimp only at h
      change zX _ _ 0 0 12 _ [.null] _ _ _
      refine x_astoreN dX7_give_12 rfl (Nat.le_of_ble_eq_true rfl) (L2 := [_, _, _, _, _, _]) rfl ?_
      refine x_aloadN dX7_give_14 rfl ?_
      refine x_ifnullN (tgt := 38) dX7_give_16 rfl ?_
      refine x_bipush (v := (-2)) dX7_give_38 rfl ?_
      exact x_iret (S := []) dX7_give_40 rfl rfl ⟨_, rfl, rfl, h⟩
    · dsimp only at h
      obtain ⟨q2, h⟩ := h
      change zX _ _ 0 0 12 _ [.ref r2] _ _ _
      refine x_astore dX7_give_12 rfl (Nat.le_of_ble_eq_true rfl) (L2 := [_, _, _, _, _, _]) rfl ?_
      refine x_aloadN dX7_give_14 rfl ?_
      refine x_ifnullN (tgt := 38) dX7_give_16 rfl ?_
      refine x_bipush (v := (-2)) dX7_give_38 rfl ?_
      exact x_iret (S := []) dX7_give_40 rfl rfl ⟨_, rfl, rfl, h⟩
  · dsimp only at h
    obtain ⟨q1, h⟩ := h
    change zX _ _ 0 0 5 _ [.ref r1] _ _ _
    refine x_astore dX7_give_5 rfl (Nat.le_of_ble_eq_true rfl) (L2 := [_, _, _, _, _]) rfl ?_
    refine x_aload_n dX7_give_7 rfl ?_
    refine x_iload_n dX7_give_8 rfl ?_
    refine x_callV (Y2 := mX7_heirAt) (as := [.int l2]) (S := []) (kc2 := 0) (ks2 := 0) mv_mX7_heirAt (Or.inl ⟨7, _, rfl, rfl, (gA_0 hg)⟩) dX7_give_9 lk_X7_66 mo_mX7_heirAt rfl rfl (Nat.le_of_ble_eq_true rfl) (Or.inl rfl) rfl rfl h ?_
    rintro _ _ σ2 ⟨x2, rfl, rfl, h⟩
    rcases x2 with _ | r2
    · dsimp only at h
      change zX _ _ 0 0 12 _ [.null] _ _ _
      refine x_astoreN dX7_give_12 rfl (Nat.le_of_ble_eq_true rfl) (L2 := [_, _, _, _, _, _]) rfl ?_
      refine x_aload dX7_give_14 rfl ?_
      refine x_ifnull dX7_give_16 ?_
      refine x_aloadN dX7_give_19 rfl ?_
      refine x_ifnullN (tgt := 38) dX7_give_21 rfl ?_
      refine x_bipush (v := (-2)) dX7_give_38 rfl ?_
      exact x_iret (S := []) dX7_give_40 rfl rfl ⟨_, rfl, rfl, h⟩
    · dsimp only at h
      obtain ⟨q2, h⟩ := h
      change zX _ _ 0 0 12 _ [.ref r2] _ _ _
      refine x_astore dX7_give_12 rfl (Nat.le_of_ble_eq_true rfl) (L2 := [_, _, _, _, _, _]) rfl ?_
      refine x_aload dX7_give_14 rfl ?_
      refine x_ifnull dX7_give_16 ?_
      refine x_aload dX7_give_19 rfl ?_
      refine x_ifnull dX7_give_21 ?_
      refine x_aload dX7_give_24 rfl ?_
      refine x_aload dX7_give_26 rfl ?_
      refine x_acmp_eq (tgt := 38) dX7_give_28 q1.1 q2.1 rfl (fun q3 => ?_) (fun q3 => ?_)
      · replace h := itT q3 h
        refine x_bipush (v := (-2)) dX7_give_38 rfl ?_
        exact x_iret (S := []) dX7_give_40 rfl rfl ⟨_, rfl, rfl, h⟩
      · replace h := itF q3 h
        refine x_iload_n dX7_give_31 rfl ?_
        refine x_callS (Y2 := mX7_isNumber) (as := [.int l3]) (S := []) (kc2 := 0) (ks2 := 0) st_mX7_isNumber dX7_give_32 lk_X7_93 mo_mX7_isNumber rfl rfl (Nat.le_of_ble_eq_true rfl) (Or.inl rfl) rfl rfl h ?_
        rintro _ _ σ3 ⟨v1, rfl, rfl, h⟩
        change zX _ _ 0 0 35 _ [.int v1] _ _ _
        refine x_if_ne (tgt := 41) dX7_give_35 rfl (fun q4 => ?_) (fun q4 => ?_)
        · replace h := itF q4 h
          refine x_aload dX7_give_41 rfl ?_
          refine x_getI dX7_give_43 fl_X7_90 q1 rfl ?_
          refine x_iload_n dX7_give_46 rfl ?_
          refine x_callS (Y2 := mX7_has) (as := [.int (σ3 r1 3), .int l3]) (S := []) (kc2 := 0) (ks2 := 0) st_mX7_has dX7_give_47 lk_X7_97 mo_mX7_has rfl rfl (Nat.le_of_ble_eq_true rfl) (Or.inl rfl) rfl rfl h ?_
          rintro _ _ σ4 ⟨v2, rfl, rfl, h⟩
          change zX _ _ 0 0 50 _ [.int v2] _ _ _
          refine x_if_eq (tgt := 65) dX7_give_50 rfl (fun q5 => ?_) (fun q5 => ?_)
          · replace h := itT q5 h
            refine x_bipush (v := (-3)) dX7_give_65 rfl ?_
            exact x_iret (S := []) dX7_give_67 rfl rfl ⟨_, rfl, rfl, h⟩
          · replace h := itF q5 h
            refine x_aload dX7_give_53 rfl ?_
            refine x_getI dX7_give_55 fl_X7_90 q2 rfl ?_
            refine x_iload_n dX7_give_58 rfl ?_
            refine x_callS (Y2 := mX7_has) (as := [.int (σ4 r2 3), .int l3]) (S := []) (kc2 := 0) (ks2 := 0) st_mX7_has dX7_give_59 lk_X7_97 mo_mX7_has rfl rfl (Nat.le_of_ble_eq_true rfl) (Or.inl rfl) rfl rfl h ?_
            rintro _ _ σ5 ⟨v3, rfl, rfl, h⟩
            change zX _ _ 0 0 62 _ [.int v3] _ _ _
            refine x_if_eq (tgt := 68) dX7_give_62 rfl (fun q6 => ?_) (fun q6 => ?_)
            · replace h := itT q6 h
              refine x_aload dX7_give_68 rfl ?_
              refine x_dup dX7_give_70 rfl ?_
              refine x_getI dX7_give_71 fl_X7_90 q1 rfl ?_
              refine x_iload_n dX7_give_74 rfl ?_
              refine x_callS (Y2 := mX7_bit) (as := [.int l3]) (S := [.int (σ5 r1 3), .ref r1]) (kc2 := 0) (ks2 := 0) st_mX7_bit dX7_give_75 lk_X7_101 mo_mX7_bit rfl rfl (Nat.le_of_ble_eq_true rfl) (Or.inl rfl) rfl rfl h ?_
              rintro _ _ σ6 ⟨v4, rfl, rfl, h⟩
              change zX _ _ 0 0 78 _ [.int v4, .int (σ5 r1 3), .ref r1] _ _ _
              refine x_iconst (v := (-1)) dX7_give_78 rfl ?_
              refine x_ixor dX7_give_79 ?_
              refine x_iand dX7_give_80 ?_
              refine x_putI dX7_give_81 fl_X7_90 q1 rfl rfl ?_
              refine x_aload dX7_give_84 rfl ?_
              refine x_dup dX7_give_86 rfl ?_
              refine x_getI dX7_give_87 fl_X7_90 q2 rfl ?_
              refine x_iload_n dX7_give_90 rfl ?_
              refine x_callS (Y2 := mX7_bit) (as := [.int l3]) (S := [.int ((zsI σ6 r1 3 ((σ5 r1 3) &&& (v4 ^^^ (-1)))) r2 3), .ref r2]) (kc2 := 0) (ks2 := 0) st_mX7_bit dX7_give_91 lk_X7_101 mo_mX7_bit rfl rfl (Nat.le_of_ble_eq_true rfl) (Or.inl rfl) rfl rfl h ?_
              rintro _ _ σ7 ⟨v5, rfl, rfl, h⟩
              change zX _ _ 0 0 94 _ [.int v5, .int ((zsI σ6 r1 3 ((σ5 r1 3) &&& (v4 ^^^ (-1)))) r2 3), .ref r2] _ _ _
              refine x_ior dX7_give_94 ?_
              refine x_putI dX7_give_95 fl_X7_90 q2 rfl rfl ?_
              refine x_aload dX7_give_98 rfl ?_
              refine x_getI dX7_give_100 fl_X7_90 q1 rfl ?_
              refine x_callS (Y2 := mJ6_bitCount_0f7a4) (as := [.int ((zsI σ7 r2 3 (((zsI σ6 r1 3 ((σ5 r1 3) &&& (v4 ^^^ (-1)))) r2 3) ||| v5)) r1 3)]) (S := []) (kc2 := 0) (ks2 := 0) st_mJ6_bitCount_0f7a4 dX7_give_103 lk_X7_104 mo_mJ6_bitCount_0f7a4 rfl rfl (Nat.le_of_ble_eq_true rfl) (Or.inl rfl) rfl rfl h ?_
              rintro _ _ σ8 ⟨v6, rfl, rfl, h⟩
              change zX _ _ 0 0 106 _ [.int v6] _ _ _
              exact x_iret (S := []) dX7_give_106 rfl rfl ⟨_, rfl, rfl, h⟩
            · replace h := itF q6 h
              refine x_bipush (v := (-3)) dX7_give_65 rfl ?_
              exact x_iret (S := []) dX7_give_67 rfl rfl ⟨_, rfl, rfl, h⟩
        · replace h := itT q4 h
          refine x_bipush (v := (-2)) dX7_give_38 rfl ?_
          exact x_iret (S := []) dX7_give_40 rfl rfl ⟨_, rfl, rfl, h⟩
set_option maxRecDepth 20000 in
theorem s_X7_isNumber {d : Nat} {g : zG} {σ : zI} {K : Int32 → zI → Prop} (hg : zGA g) {l0 : Int32} (h : (if (l0 < 1 : Prop) then K 0 σ else (if (30 < l0 : Prop) then K 0 σ else K 1 σ))) : zCI mX7_isNumber d [.int l0] g σ K := by
  refine c_of_x pn_mX7_isNumber rfl (Nat.le_of_ble_eq_true rfl) ?_
  change zX _ _ 0 0 0 [.int l0] [] g σ _
  refine x_iload_n dX7_isNumber_0 rfl ?_
  refine x_iconst (v := 1) dX7_isNumber_1 rfl ?_
  refine x_icmp_lt (tgt := 15) dX7_isNumber_2 rfl (fun q1 => ?_) (fun q1 => ?_)
  · replace h := itT q1 h
    refine x_iconst (v := 0) dX7_isNumber_15 rfl ?_
    exact x_iret (S := []) dX7_isNumber_16 rfl rfl ⟨_, rfl, rfl, h⟩
  · replace h := itF q1 h
    refine x_iload_n dX7_isNumber_5 rfl ?_
    refine x_bipush (v := 30) dX7_isNumber_6 rfl ?_
    refine x_icmp_gt (tgt := 15) dX7_isNumber_8 rfl (fun q2 => ?_) (fun q2 => ?_)
    · replace h := itT q2 h
      refine x_iconst (v := 0) dX7_isNumber_15 rfl ?_
      exact x_iret (S := []) dX7_isNumber_16 rfl rfl ⟨_, rfl, rfl, h⟩
    · replace h := itF q2 h
      refine x_iconst (v := 1) dX7_isNumber_11 rfl ?_
      refine x_goto (tgt := 16) dX7_isNumber_12 rfl ?_
      exact x_iret (S := []) dX7_isNumber_16 rfl rfl ⟨_, rfl, rfl, h⟩
set_option maxRecDepth 20000 in
theorem s_X7_has {d : Nat} {g : zG} {σ : zI} {K : Int32 → zI → Prop} (hg : zGA g) {l0 : Int32} {l1 : Int32} (h : zCI mX7_bit d [.int l1] g σ (fun v1 σ1 => (if ((l0 &&& v1) = 0 : Prop) then K 0 σ1 else K 1 σ1))) : zCI mX7_has (d + 1) [.int l0, .int l1] g σ K := by
  refine c_of_x pn_mX7_has rfl (Nat.le_of_ble_eq_true rfl) ?_
  change zX _ _ 0 0 0 [.int l0, .int l1] [] g σ _
  refine x_iload_n dX7_has_0 rfl ?_
  refine x_iload_n dX7_has_1 rfl ?_
  refine x_callS (Y2 := mX7_bit) (as := [.int l1]) (S := [.int l0]) (kc2 := 0) (ks2 := 0) st_mX7_bit dX7_has_2 lk_X7_101 mo_mX7_bit rfl rfl (Nat.le_of_ble_eq_true rfl) (Or.inl rfl) rfl rfl h ?_
  rintro _ _ σ1 ⟨v1, rfl, rfl, h⟩
  change zX _ _ 0 0 5 _ [.int v1, .int l0] _ _ _
  refine x_iand dX7_has_5 ?_
  refine x_if_eq (tgt := 13) dX7_has_6 rfl (fun q1 => ?_) (fun q1 => ?_)
  · replace h := itT q1 h
    refine x_iconst (v := 0) dX7_has_13 rfl ?_
    exact x_iret (S := []) dX7_has_14 rfl rfl ⟨_, rfl, rfl, h⟩
  · replace h := itF q1 h
    refine x_iconst (v := 1) dX7_has_9 rfl ?_
    refine x_goto (tgt := 14) dX7_has_10 rfl ?_
    exact x_iret (S := []) dX7_has_14 rfl rfl ⟨_, rfl, rfl, h⟩
set_option maxRecDepth 20000 in
theorem s_X7_bit {d : Nat} {g : zG} {σ : zI} {K : Int32 → zI → Prop} (hg : zGA g) {l0 : Int32} (h : K (1 <<< ((l0 - 1) &&& 31)) σ) : zCI mX7_bit d [.int l0] g σ K := by
  refine c_of_x pn_mX7_bit rfl (Nat.le_of_ble_eq_true rfl) ?_
  change zX _ _ 0 0 0 [.int l0] [] g σ _
  refine x_iconst (v := 1) dX7_bit_0 rfl ?_
  refine x_iload_n dX7_bit_1 rfl ?_
  refine x_iconst (v := 1) dX7_bit_2 rfl ?_
  refine x_isub dX7_bit_3 ?_
  refine x_ishl dX7_bit_4 ?_
  exact x_iret (S := []) dX7_bit_5 rfl rfl ⟨_, rfl, rfl, h⟩
set_option maxRecDepth 20000 in
theorem s_X7_told {d : Nat} {g : zG} {σ : zI} {K : Int32 → zI → Prop} (hg : zGA g) {l1 : Int32} {l2 : Int32} (h : (if (l2 = 0 : Prop) then K (σ 3 7) σ else zCR mX7_heirAt d [.ref 0, .int l1] g σ (fun x1 σ1 => match x1 with | none => K (-2) σ1 | some r1 => zOb g r1 0 ∧ (if (l2 = 1 : Prop) then K (σ1 r1 2) σ1 else (if (l2 = 2 : Prop) then K (σ1 r1 3) σ1 else (if (l2 = 3 : Prop) then K (σ1 r1 1) σ1 else (if (l2 = 4 : Prop) then zCI mJ6_bitCount_0f7a4 d [.int (σ1 r1 3)] g σ1 (fun v1 σ2 => K v1 σ2) else (if (l2 = 5 : Prop) then zCI mX0_sayable d [.ref r1] g σ1 (fun v1 σ2 => K v1 σ2) else K (-2) σ1)))))))) : zCI mX7_told (d + 1) [.ref 0, .int l1, .int l2] g σ K := by
  refine c_of_x pn_mX7_told rfl (Nat.le_of_ble_eq_true rfl) ?_
  change zX _ _ 0 0 0 [.ref 0, .int l1, .int l2] [] g σ _
  refine x_iload_n dX7_told_0 rfl ?_
  refine x_if_ne (tgt := 12) dX7_told_1 rfl (fun q1 => ?_) (fun q1 => ?_)
  · replace h := itF q1 h
    refine x_aload_n dX7_told_12 rfl ?_
    refine x_iload_n dX7_told_13 rfl ?_
    refine x_callV (Y2 := mX7_heirAt) (as := [.int l1]) (S := []) (kc2 := 0) (ks2 := 0) mv_mX7_heirAt (Or.inl ⟨7, _, rfl, rfl, (gA_0 hg)⟩) dX7_told_14 lk_X7_66 mo_mX7_heirAt rfl rfl (Nat.le_of_ble_eq_true rfl) (Or.inl rfl) rfl rfl h ?_
    rintro _ _ σ1 ⟨x1, rfl, rfl, h⟩
    rcases x1 with _ | r1
    · dsimp only at h
      change zX _ _ 0 0 17 _ [.null] _ _ _
      refine x_astore_nN dX7_told_17 rfl (Nat.le_of_ble_eq_true rfl) (L2 := [_, _, _, _]) rfl ?_
      refine x_aload_nN dX7_told_18 rfl ?_
      refine x_ifnonnullN dX7_told_19 ?_
      refine x_bipush (v := (-2)) dX7_told_22 rfl ?_
      exact x_iret (S := []) dX7_told_24 rfl rfl ⟨_, rfl, rfl, h⟩
    · dsimp only at h
      obtain ⟨q2, h⟩ := h
      change zX _ _ 0 0 17 _ [.ref r1] _ _ _
      refine x_astore_n dX7_told_17 rfl (Nat.le_of_ble_eq_true rfl) (L2 := [_, _, _, _]) rfl ?_
      refine x_aload_n dX7_told_18 rfl ?_
      refine x_ifnonnull (tgt := 25) dX7_told_19 rfl ?_
      refine x_iload_n dX7_told_25 rfl ?_
      by_cases q3 : l2 = 1
      · refine x_tsw (tgt := 60) dX7_told_26 (by rw [q3]; decide) (by rw [q3]; decide) (by rw [q3]; rfl) rfl ?_
        replace h := itT q3 h
        refine x_aload_n dX7_told_60 rfl ?_
        refine x_getI dX7_told_61 fl_X7_87 q2 rfl ?_
        exact x_iret (S := []) dX7_told_64 rfl rfl ⟨_, rfl, rfl, h⟩
      · replace h := itF q3 h
        by_cases q4 : l2 = 2
        · refine x_tsw (tgt := 65) dX7_told_26 (by rw [q4]; decide) (by rw [q4]; decide) (by rw [q4]; rfl) rfl ?_
          replace h := itT q4 h
          refine x_aload_n dX7_told_65 rfl ?_
          refine x_getI dX7_told_66 fl_X7_90 q2 rfl ?_
          exact x_iret (S := []) dX7_told_69 rfl rfl ⟨_, rfl, rfl, h⟩
        · replace h := itF q4 h
          by_cases q5 : l2 = 3
          · refine x_tsw (tgt := 70) dX7_told_26 (by rw [q5]; decide) (by rw [q5]; decide) (by rw [q5]; rfl) rfl ?_
            replace h := itT q5 h
            refine x_aload_n dX7_told_70 rfl ?_
            refine x_getI dX7_told_71 fl_X7_84 q2 rfl ?_
            exact x_iret (S := []) dX7_told_74 rfl rfl ⟨_, rfl, rfl, h⟩
          · replace h := itF q5 h
            by_cases q6 : l2 = 4
            · refine x_tsw (tgt := 75) dX7_told_26 (by rw [q6]; decide) (by rw [q6]; decide) (by rw [q6]; rfl) rfl ?_
              replace h := itT q6 h
              refine x_aload_n dX7_told_75 rfl ?_
              refine x_getI dX7_told_76 fl_X7_90 q2 rfl ?_
              refine x_callS (Y2 := mJ6_bitCount_0f7a4) (as := [.int (σ1 r1 3)]) (S := []) (kc2 := 0) (ks2 := 0) st_mJ6_bitCount_0f7a4 dX7_told_79 lk_X7_104 mo_mJ6_bitCount_0f7a4 rfl rfl (Nat.le_of_ble_eq_true rfl) (Or.inl rfl) rfl rfl h ?_
              rintro _ _ σ2 ⟨v1, rfl, rfl, h⟩
              change zX _ _ 0 0 82 _ [.int v1] _ _ _
              exact x_iret (S := []) dX7_told_82 rfl rfl ⟨_, rfl, rfl, h⟩
            · replace h := itF q6 h
              by_cases q7 : l2 = 5
              · refine x_tsw (tgt := 83) dX7_told_26 (by rw [q7]; decide) (by rw [q7]; decide) (by rw [q7]; rfl) rfl ?_
                replace h := itT q7 h
                refine x_aload_n dX7_told_83 rfl ?_
                refine x_callV (Y2 := mX0_sayable) (as := []) (S := []) (kc2 := 0) (ks2 := 0) mv_mX0_sayable (Or.inl ⟨0, _, rfl, rfl, q2⟩) dX7_told_84 lk_X7_112 mo_mX0_sayable rfl rfl (Nat.le_of_ble_eq_true rfl) (Or.inl rfl) rfl rfl h ?_
                rintro _ _ σ2 ⟨v1, rfl, rfl, h⟩
                change zX _ _ 0 0 87 _ [.int v1] _ _ _
                exact x_iret (S := []) dX7_told_87 rfl rfl ⟨_, rfl, rfl, h⟩
              · replace h := itF q7 h
                refine x_tswd (tgt := 88) dX7_told_26 (by have z0 := lv_neT (a := 1) q3 rfl; have z1 := lv_neT (a := 2) q4 rfl; have z2 := lv_neT (a := 3) q5 rfl; have z3 := lv_neT (a := 4) q6 rfl; have z4 := lv_neT (a := 5) q7 rfl; omega) rfl ?_
                refine x_bipush (v := (-2)) dX7_told_88 rfl ?_
                exact x_iret (S := []) dX7_told_90 rfl rfl ⟨_, rfl, rfl, h⟩
  · replace h := itT q1 h
    refine x_aload_n dX7_told_4 rfl ?_
    refine x_getR dX7_told_5 fl_X7_24 (gA_0 hg) rfl (gA_0_2 hg) ?_
    refine x_getI dX7_told_8 fl_X7_109 (gA_3 hg) rfl ?_
    exact x_iret (S := []) dX7_told_11 rfl rfl ⟨_, rfl, rfl, h⟩
set_option maxRecDepth 20000 in
theorem s_X7_feed {d : Nat} {g : zG} {σ : zI} {K : Int32 → zI → Prop} (hg : zGA g) {l1 : Int32} (h : (if (l1 < 0 : Prop) then K (-2) σ else (if (l1 ≤ 255 : Prop) then zCI mX4_put d [.ref 4, .int l1] g σ (fun v1 σ1 => (if (v1 = 0 : Prop) then K (-4) σ1 else K (σ1 4 1) σ1)) else K (-2) σ))) : zCI mX7_feed (d + 1) [.ref 0, .int l1] g σ K := by
  refine c_of_x pn_mX7_feed rfl (Nat.le_of_ble_eq_true rfl) ?_
  change zX _ _ 0 0 0 [.ref 0, .int l1] [] g σ _
  refine x_iload_n dX7_feed_0 rfl ?_
  refine x_if_lt (tgt := 11) dX7_feed_1 rfl (fun q1 => ?_) (fun q1 => ?_)
  · replace h := itT q1 h
    refine x_bipush (v := (-2)) dX7_feed_11 rfl ?_
    exact x_iret (S := []) dX7_feed_13 rfl rfl ⟨_, rfl, rfl, h⟩
  · replace h := itF q1 h
    refine x_iload_n dX7_feed_4 rfl ?_
    refine x_sipush (v := 255) dX7_feed_5 rfl ?_
    refine x_icmp_le (tgt := 14) dX7_feed_8 rfl (fun q2 => ?_) (fun q2 => ?_)
    · replace h := itT q2 h
      refine x_aload_n dX7_feed_14 rfl ?_
      refine x_getR dX7_feed_15 fl_X7_24 (gA_0 hg) rfl (gA_0_2 hg) ?_
      refine x_getR dX7_feed_18 fl_X7_117 (gA_3 hg) rfl (gA_3_0 hg) ?_
      refine x_iload_n dX7_feed_21 rfl ?_
      refine x_callV (Y2 := mX4_put) (as := [.int l1]) (S := []) (kc2 := 0) (ks2 := 0) mv_mX4_put (Or.inl ⟨4, _, rfl, rfl, (gA_4 hg)⟩) dX7_feed_22 lk_X7_121 mo_mX4_put rfl rfl (Nat.le_of_ble_eq_true rfl) (Or.inl rfl) rfl rfl h ?_
      rintro _ _ σ1 ⟨v1, rfl, rfl, h⟩
      change zX _ _ 0 0 25 _ [.int v1] _ _ _
      refine x_if_eq (tgt := 41) dX7_feed_25 rfl (fun q3 => ?_) (fun q3 => ?_)
      · replace h := itT q3 h
        refine x_bipush (v := (-4)) dX7_feed_41 rfl ?_
        exact x_iret (S := []) dX7_feed_43 rfl rfl ⟨_, rfl, rfl, h⟩
      · replace h := itF q3 h
        refine x_aload_n dX7_feed_28 rfl ?_
        refine x_getR dX7_feed_29 fl_X7_24 (gA_0 hg) rfl (gA_0_2 hg) ?_
        refine x_getR dX7_feed_32 fl_X7_117 (gA_3 hg) rfl (gA_3_0 hg) ?_
        refine x_getI dX7_feed_35 fl_X7_126 (gA_4 hg) rfl ?_
        refine x_goto (tgt := 43) dX7_feed_38 rfl ?_
        exact x_iret (S := []) dX7_feed_43 rfl rfl ⟨_, rfl, rfl, h⟩
    · replace h := itF q2 h
      refine x_bipush (v := (-2)) dX7_feed_11 rfl ?_
      exact x_iret (S := []) dX7_feed_13 rfl rfl ⟨_, rfl, rfl, h⟩
set_option maxRecDepth 20000 in
theorem s_X7_text {d : Nat} {g : zG} {σ : zI} {K : Int32 → zI → Prop} (hg : zGA g)  (h : (if ((σ 3 5) < 6 : Prop) then zCI mX2_readText d [.ref 3] g σ (fun v1 σ1 => (if (v1 = (-1) : Prop) then K ((σ1 3 5) - 1) σ1 else K ((-100) - v1) σ1)) else K (-4) σ)) : zCI mX7_text (d + 1) [.ref 0] g σ K := by
  refine c_of_x pn_mX7_text rfl (Nat.le_of_ble_eq_true rfl) ?_
  change zX _ _ 0 0 0 [.ref 0] [] g σ _
  refine x_aload_n dX7_text_0 rfl ?_
  refine x_getR dX7_text_1 fl_X7_24 (gA_0 hg) rfl (gA_0_2 hg) ?_
  refine x_getI dX7_text_4 fl_X7_127 (gA_3 hg) rfl ?_
  refine x_bipush (v := 6) dX7_text_7 rfl ?_
  refine x_icmp_lt (tgt := 15) dX7_text_9 rfl (fun q1 => ?_) (fun q1 => ?_)
  · replace h := itT q1 h
    refine x_aload_n dX7_text_15 rfl ?_
    refine x_getR dX7_text_16 fl_X7_24 (gA_0 hg) rfl (gA_0_2 hg) ?_
    refine x_callV (Y2 := mX2_readText) (as := []) (S := []) (kc2 := 0) (ks2 := 0) mv_mX2_readText (Or.inl ⟨2, _, rfl, rfl, (gA_3 hg)⟩) dX7_text_19 lk_X7_130 mo_mX2_readText rfl rfl (Nat.le_of_ble_eq_true rfl) (Or.inl rfl) rfl rfl h ?_
    rintro _ _ σ1 ⟨v1, rfl, rfl, h⟩
    change zX _ _ 0 0 22 _ [.int v1] _ _ _
    refine x_istore_n dX7_text_22 rfl (Nat.le_of_ble_eq_true rfl) (L2 := [_, _]) rfl ?_
    refine x_iload_n dX7_text_23 rfl ?_
    refine x_iconst (v := (-1)) dX7_text_24 rfl ?_
    refine x_icmp_ne (tgt := 40) dX7_text_25 rfl (fun q2 => ?_) (fun q2 => ?_)
    · replace h := itF q2 h
      refine x_bipush (v := (-100)) dX7_text_40 rfl ?_
      refine x_iload_n dX7_text_42 rfl ?_
      refine x_isub dX7_text_43 ?_
      exact x_iret (S := []) dX7_text_44 rfl rfl ⟨_, rfl, rfl, h⟩
    · replace h := itT q2 h
      refine x_aload_n dX7_text_28 rfl ?_
      refine x_getR dX7_text_29 fl_X7_24 (gA_0 hg) rfl (gA_0_2 hg) ?_
      refine x_getI dX7_text_32 fl_X7_127 (gA_3 hg) rfl ?_
      refine x_iconst (v := 1) dX7_text_35 rfl ?_
      refine x_isub dX7_text_36 ?_
      refine x_goto (tgt := 44) dX7_text_37 rfl ?_
      exact x_iret (S := []) dX7_text_44 rfl rfl ⟨_, rfl, rfl, h⟩
  · replace h := itF q1 h
    refine x_bipush (v := (-4)) dX7_text_12 rfl ?_
    exact x_iret (S := []) dX7_text_14 rfl rfl ⟨_, rfl, rfl, h⟩
set_option maxRecDepth 20000 in
theorem s_X7_force {d : Nat} {g : zG} {σ : zI} {K : Int32 → zI → Prop} (hg : zGA g) {l1 : Int32} (h : (if (l1 < 0 : Prop) then K (-2) σ else (if (l1 < (σ 3 5) : Prop) then K (σ 3 6) (zsI σ 3 6 l1) else K (-2) σ))) : zCI mX7_force d [.ref 0, .int l1] g σ K := by
  refine c_of_x pn_mX7_force rfl (Nat.le_of_ble_eq_true rfl) ?_
  change zX _ _ 0 0 0 [.ref 0, .int l1] [] g σ _
  refine x_iload_n dX7_force_0 rfl ?_
  refine x_if_lt (tgt := 15) dX7_force_1 rfl (fun q1 => ?_) (fun q1 => ?_)
  · replace h := itT q1 h
    refine x_bipush (v := (-2)) dX7_force_15 rfl ?_
    exact x_iret (S := []) dX7_force_17 rfl rfl ⟨_, rfl, rfl, h⟩
  · replace h := itF q1 h
    refine x_iload_n dX7_force_4 rfl ?_
    refine x_aload_n dX7_force_5 rfl ?_
    refine x_getR dX7_force_6 fl_X7_24 (gA_0 hg) rfl (gA_0_2 hg) ?_
    refine x_getI dX7_force_9 fl_X7_127 (gA_3 hg) rfl ?_
    refine x_icmp_lt (tgt := 18) dX7_force_12 rfl (fun q2 => ?_) (fun q2 => ?_)
    · replace h := itT q2 h
      refine x_aload_n dX7_force_18 rfl ?_
      refine x_getR dX7_force_19 fl_X7_24 (gA_0 hg) rfl (gA_0_2 hg) ?_
      refine x_getI dX7_force_22 fl_X7_133 (gA_3 hg) rfl ?_
      refine x_istore_n dX7_force_25 rfl (Nat.le_of_ble_eq_true rfl) (L2 := [_, _, _]) rfl ?_
      refine x_aload_n dX7_force_26 rfl ?_
      refine x_getR dX7_force_27 fl_X7_24 (gA_0 hg) rfl (gA_0_2 hg) ?_
      refine x_iload_n dX7_force_30 rfl ?_
      refine x_putI dX7_force_31 fl_X7_133 (gA_3 hg) rfl rfl ?_
      refine x_iload_n dX7_force_34 rfl ?_
      exact x_iret (S := []) dX7_force_35 rfl rfl ⟨_, rfl, rfl, h⟩
    · replace h := itF q2 h
      refine x_bipush (v := (-2)) dX7_force_15 rfl ?_
      exact x_iret (S := []) dX7_force_17 rfl rfl ⟨_, rfl, rfl, h⟩
abbrev p_X7_says_49 (d : Nat) (g : zG) (K : Int32 → zI → Prop) (σ : zI) (l2 : Int32) (l3 : Int32) (l4 : Nat) : Prop := zX mX7_says (d + 1) 0 0 49 [.ref 0, .retAddr 0, .int l2, .int l3, .ref l4] [] g σ (zqI g K)
set_option maxRecDepth 20000 in
theorem s_X7_says {d : Nat} {g : zG} {σ : zI} {K : Int32 → zI → Prop} (hg : zGA g) {l1 : Int32} {l2 : Int32} {l3 : Int32} (h : zCR mX7_heirAt d [.ref 0, .int l1] g σ (fun x1 σ1 => match x1 with | none => K (-2) σ1 | some r1 => zOb g r1 0 ∧ (if (l3 < 0 : Prop) then K (-2) σ1 else (if (l3 ≤ 3 : Prop) then (if (2 ≤ l3 : Prop) then zCI mX7_isSum d [.int l2] g σ1 (fun v1 σ2 => (if (v1 = 0 : Prop) then K (-2) σ2 else p_X7_says_49 d g K σ2 l2 l3 r1)) else zCI mX7_isNumber d [.int l2] g σ1 (fun v1 σ2 => (if (v1 = 0 : Prop) then K (-2) σ2 else p_X7_says_49 d g K σ2 l2 l3 r1))) else K (-2) σ1)))) : zCI mX7_says (d + 1) [.ref 0, .int l1, .int l2, .int l3] g σ K := by
  refine c_of_x pn_mX7_says rfl (Nat.le_of_ble_eq_true rfl) ?_
  change zX _ _ 0 0 0 [.ref 0, .int l1, .int l2, .int l3] [] g σ _
  refine x_aload_n dX7_says_0 rfl ?_
  refine x_iload_n dX7_says_1 rfl ?_
  refine x_callV (Y2 := mX7_heirAt) (as := [.int l1]) (S := []) (kc2 := 0) (ks2 := 0) mv_mX7_heirAt (Or.inl ⟨7, _, rfl, rfl, (gA_0 hg)⟩) dX7_says_2 lk_X7_66 mo_mX7_heirAt rfl rfl (Nat.le_of_ble_eq_true rfl) (Or.inl rfl) rfl rfl h ?_
  rintro _ _ σ1 ⟨x1, rfl, rfl, h⟩
  rcases x1 with _ | r1
  · dsimp only at h
    change zX _ _ 0 0 5 _ [.null] _ _ _
    refine x_astoreN dX7_says_5 rfl (Nat.le_of_ble_eq_true rfl) (L2 := [_, _, _, _, _]) rfl ?_
    refine x_aloadN dX7_says_7 rfl ?_
    refine x_ifnullN (tgt := 21) dX7_says_9 rfl ?_
    refine x_bipush (v := (-2)) dX7_says_21 rfl ?_
    exact x_iret (S := []) dX7_says_23 rfl rfl ⟨_, rfl, rfl, h⟩
  · dsimp only at h
    obtain ⟨q1, h⟩ := h
    change zX _ _ 0 0 5 _ [.ref r1] _ _ _
    refine x_astore dX7_says_5 rfl (Nat.le_of_ble_eq_true rfl) (L2 := [_, _, _, _, _]) rfl ?_
    refine x_aload dX7_says_7 rfl ?_
    refine x_ifnull dX7_says_9 ?_
    refine x_iload_n dX7_says_12 rfl ?_
    refine x_if_lt (tgt := 21) dX7_says_13 rfl (fun q2 => ?_) (fun q2 => ?_)
    · replace h := itT q2 h
      refine x_bipush (v := (-2)) dX7_says_21 rfl ?_
      exact x_iret (S := []) dX7_says_23 rfl rfl ⟨_, rfl, rfl, h⟩
    · replace h := itF q2 h
      refine x_iload_n dX7_says_16 rfl ?_
      refine x_iconst (v := 3) dX7_says_17 rfl ?_
      refine x_icmp_le (tgt := 24) dX7_says_18 rfl (fun q3 => ?_) (fun q3 => ?_)
      · replace h := itT q3 h
        refine x_iload_n dX7_says_24 rfl ?_
        refine x_iconst (v := 2) dX7_says_25 rfl ?_
        refine x_icmp_ge (tgt := 39) dX7_says_26 rfl (fun q4 => ?_) (fun q4 => ?_)
        · replace h := itT q4 h
          refine x_iload_n dX7_says_39 rfl ?_
          refine x_callS (Y2 := mX7_isSum) (as := [.int l2]) (S := []) (kc2 := 0) (ks2 := 0) st_mX7_isSum dX7_says_40 lk_X7_136 mo_mX7_isSum rfl rfl (Nat.le_of_ble_eq_true rfl) (Or.inl rfl) rfl rfl h ?_
          rintro _ _ σ2 ⟨v1, rfl, rfl, h⟩
          change zX _ _ 0 0 43 _ [.int v1] _ _ _
          refine x_if_ne (tgt := 49) dX7_says_43 rfl (fun q5 => ?_) (fun q5 => ?_)
          · replace h := itF q5 h
            exact x_wk (wC (wJ (wC (wC (wC (wN _)))))) h
          · replace h := itT q5 h
            refine x_bipush (v := (-2)) dX7_says_46 rfl ?_
            exact x_iret (S := []) dX7_says_48 rfl rfl ⟨_, rfl, rfl, h⟩
        · replace h := itF q4 h
          refine x_iload_n dX7_says_29 rfl ?_
          refine x_callS (Y2 := mX7_isNumber) (as := [.int l2]) (S := []) (kc2 := 0) (ks2 := 0) st_mX7_isNumber dX7_says_30 lk_X7_93 mo_mX7_isNumber rfl rfl (Nat.le_of_ble_eq_true rfl) (Or.inl rfl) rfl rfl h ?_
          rintro _ _ σ2 ⟨v1, rfl, rfl, h⟩
          change zX _ _ 0 0 33 _ [.int v1] _ _ _
          refine x_if_ne (tgt := 49) dX7_says_33 rfl (fun q5 => ?_) (fun q5 => ?_)
          · replace h := itF q5 h
            exact x_wk (wC (wJ (wC (wC (wC (wN _)))))) h
          · replace h := itT q5 h
            refine x_goto (tgt := 46) dX7_says_36 rfl ?_
            refine x_bipush (v := (-2)) dX7_says_46 rfl ?_
            exact x_iret (S := []) dX7_says_48 rfl rfl ⟨_, rfl, rfl, h⟩
      · replace h := itF q3 h
        refine x_bipush (v := (-2)) dX7_says_21 rfl ?_
        exact x_iret (S := []) dX7_says_23 rfl rfl ⟨_, rfl, rfl, h⟩
set_option maxRecDepth 20000 in
theorem s_X7_says_49 {d : Nat} {g : zG} {σ : zI} {K : Int32 → zI → Prop} (hg : zGA g) {l2 : Int32} {l3 : Int32} {l4 : Nat} (h_l4 : zOb g l4 0) (h : (if (l3 = 0 : Prop) then zCI mX0_sayable d [.ref l4] g σ (fun v1 σ1 => zCI mX7_has d [.int v1, .int l2] g σ1 (fun v2 σ2 => zCI mX7_truth d [.int v2] g σ2 (fun v3 σ3 => K v3 σ3))) else (if (l3 = 1 : Prop) then zCI mX2_costs d [.ref 3, .ref l4, .int l2] g σ (fun v1 σ1 => K v1 σ1) else (if (l3 = 2 : Prop) then zCI mX2_isMeant d [.ref 3, .ref l4, .int l2] g σ (fun v1 σ1 => zCI mX7_truth d [.int v1] g σ1 (fun v2 σ2 => K v2 σ2)) else zCI mX2_worthOf d [.ref 3, .ref l4, .int l2] g σ (fun v1 σ1 => K v1 σ1))))) : p_X7_says_49 d g K σ l2 l3 l4 := by
  refine x_iload_n dX7_says_49 rfl ?_
  by_cases q1 : l3 = 0
  · refine x_tsw (tgt := 76) dX7_says_50 (by rw [q1]; decide) (by rw [q1]; decide) (by rw [q1]; rfl) rfl ?_
    replace h := itT q1 h
    refine x_aload dX7_says_76 rfl ?_
    refine x_callV (Y2 := mX0_sayable) (as := []) (S := []) (kc2 := 0) (ks2 := 0) mv_mX0_sayable (Or.inl ⟨0, _, rfl, rfl, h_l4⟩) dX7_says_78 lk_X7_112 mo_mX0_sayable rfl rfl (Nat.le_of_ble_eq_true rfl) (Or.inl rfl) rfl rfl h ?_
    rintro _ _ σ1 ⟨v1, rfl, rfl, h⟩
    change zX _ _ 0 0 81 _ [.int v1] _ _ _
    refine x_iload_n dX7_says_81 rfl ?_
    refine x_callS (Y2 := mX7_has) (as := [.int v1, .int l2]) (S := []) (kc2 := 0) (ks2 := 0) st_mX7_has dX7_says_82 lk_X7_97 mo_mX7_has rfl rfl (Nat.le_of_ble_eq_true rfl) (Or.inl rfl) rfl rfl h ?_
    rintro _ _ σ2 ⟨v2, rfl, rfl, h⟩
    change zX _ _ 0 0 85 _ [.int v2] _ _ _
    refine x_callS (Y2 := mX7_truth) (as := [.int v2]) (S := []) (kc2 := 0) (ks2 := 0) st_mX7_truth dX7_says_85 lk_X7_139 mo_mX7_truth rfl rfl (Nat.le_of_ble_eq_true rfl) (Or.inl rfl) rfl rfl h ?_
    rintro _ _ σ3 ⟨v3, rfl, rfl, h⟩
    change zX _ _ 0 0 88 _ [.int v3] _ _ _
    exact x_iret (S := []) dX7_says_88 rfl rfl ⟨_, rfl, rfl, h⟩
  · replace h := itF q1 h
    by_cases q2 : l3 = 1
    · refine x_tsw (tgt := 89) dX7_says_50 (by rw [q2]; decide) (by rw [q2]; decide) (by rw [q2]; rfl) rfl ?_
      replace h := itT q2 h
      refine x_aload_n dX7_says_89 rfl ?_
      refine x_getR dX7_says_90 fl_X7_24 (gA_0 hg) rfl (gA_0_2 hg) ?_
      refine x_aload dX7_says_93 rfl ?_
      refine x_iload_n dX7_says_95 rfl ?_
      refine x_callV (Y2 := mX2_costs) (as := [.ref l4, .int l2]) (S := []) (kc2 := 0) (ks2 := 0) mv_mX2_costs (Or.inl ⟨2, _, rfl, rfl, (gA_3 hg)⟩) dX7_says_96 lk_X7_143 mo_mX2_costs rfl rfl (Nat.le_of_ble_eq_true rfl) (Or.inl rfl) rfl rfl h ?_
      rintro _ _ σ1 ⟨v1, rfl, rfl, h⟩
      change zX _ _ 0 0 99 _ [.int v1] _ _ _
      exact x_iret (S := []) dX7_says_99 rfl rfl ⟨_, rfl, rfl, h⟩
    · replace h := itF q2 h
      by_cases q3 : l3 = 2
      · refine x_tsw (tgt := 100) dX7_says_50 (by rw [q3]; decide) (by rw [q3]; decide) (by rw [q3]; rfl) rfl ?_
        replace h := itT q3 h
        refine x_aload_n dX7_says_100 rfl ?_
        refine x_getR dX7_says_101 fl_X7_24 (gA_0 hg) rfl (gA_0_2 hg) ?_
        refine x_aload dX7_says_104 rfl ?_
        refine x_iload_n dX7_says_106 rfl ?_
        refine x_callV (Y2 := mX2_isMeant) (as := [.ref l4, .int l2]) (S := []) (kc2 := 0) (ks2 := 0) mv_mX2_isMeant (Or.inl ⟨2, _, rfl, rfl, (gA_3 hg)⟩) dX7_says_107 lk_X7_146 mo_mX2_isMeant rfl rfl (Nat.le_of_ble_eq_true rfl) (Or.inl rfl) rfl rfl h ?_
        rintro _ _ σ1 ⟨v1, rfl, rfl, h⟩
        change zX _ _ 0 0 110 _ [.int v1] _ _ _
        refine x_callS (Y2 := mX7_truth) (as := [.int v1]) (S := []) (kc2 := 0) (ks2 := 0) st_mX7_truth dX7_says_110 lk_X7_139 mo_mX7_truth rfl rfl (Nat.le_of_ble_eq_true rfl) (Or.inl rfl) rfl rfl h ?_
        rintro _ _ σ2 ⟨v2, rfl, rfl, h⟩
        change zX _ _ 0 0 113 _ [.int v2] _ _ _
        exact x_iret (S := []) dX7_says_113 rfl rfl ⟨_, rfl, rfl, h⟩
      · replace h := itF q3 h
        refine x_tswd (tgt := 114) dX7_says_50 (by have z0 := lv_neT (a := 0) q1 rfl; have z1 := lv_neT (a := 1) q2 rfl; have z2 := lv_neT (a := 2) q3 rfl; omega) rfl ?_
        refine x_aload_n dX7_says_114 rfl ?_
        refine x_getR dX7_says_115 fl_X7_24 (gA_0 hg) rfl (gA_0_2 hg) ?_
        refine x_aload dX7_says_118 rfl ?_
        refine x_iload_n dX7_says_120 rfl ?_
        refine x_callV (Y2 := mX2_worthOf) (as := [.ref l4, .int l2]) (S := []) (kc2 := 0) (ks2 := 0) mv_mX2_worthOf (Or.inl ⟨2, _, rfl, rfl, (gA_3 hg)⟩) dX7_says_121 lk_X7_150 mo_mX2_worthOf rfl rfl (Nat.le_of_ble_eq_true rfl) (Or.inl rfl) rfl rfl h ?_
        rintro _ _ σ1 ⟨v1, rfl, rfl, h⟩
        change zX _ _ 0 0 124 _ [.int v1] _ _ _
        exact x_iret (S := []) dX7_says_124 rfl rfl ⟨_, rfl, rfl, h⟩
set_option maxRecDepth 20000 in
theorem s_X7_isSum {d : Nat} {g : zG} {σ : zI} {K : Int32 → zI → Prop} (hg : zGA g) {l0 : Int32} (h : (if (l0 < 0 : Prop) then K 0 σ else (if (99 < l0 : Prop) then K 0 σ else K 1 σ))) : zCI mX7_isSum d [.int l0] g σ K := by
  refine c_of_x pn_mX7_isSum rfl (Nat.le_of_ble_eq_true rfl) ?_
  change zX _ _ 0 0 0 [.int l0] [] g σ _
  refine x_iload_n dX7_isSum_0 rfl ?_
  refine x_if_lt (tgt := 14) dX7_isSum_1 rfl (fun q1 => ?_) (fun q1 => ?_)
  · replace h := itT q1 h
    refine x_iconst (v := 0) dX7_isSum_14 rfl ?_
    exact x_iret (S := []) dX7_isSum_15 rfl rfl ⟨_, rfl, rfl, h⟩
  · replace h := itF q1 h
    refine x_iload_n dX7_isSum_4 rfl ?_
    refine x_bipush (v := 99) dX7_isSum_5 rfl ?_
    refine x_icmp_gt (tgt := 14) dX7_isSum_7 rfl (fun q2 => ?_) (fun q2 => ?_)
    · replace h := itT q2 h
      refine x_iconst (v := 0) dX7_isSum_14 rfl ?_
      exact x_iret (S := []) dX7_isSum_15 rfl rfl ⟨_, rfl, rfl, h⟩
    · replace h := itF q2 h
      refine x_iconst (v := 1) dX7_isSum_10 rfl ?_
      refine x_goto (tgt := 15) dX7_isSum_11 rfl ?_
      exact x_iret (S := []) dX7_isSum_15 rfl rfl ⟨_, rfl, rfl, h⟩
set_option maxRecDepth 20000 in
theorem s_X7_truth {d : Nat} {g : zG} {σ : zI} {K : Int32 → zI → Prop} (hg : zGA g) {l0 : Int32} (h : (if (l0 = 0 : Prop) then K 0 σ else K 1 σ)) : zCI mX7_truth d [.int l0] g σ K := by
  refine c_of_x pn_mX7_truth rfl (Nat.le_of_ble_eq_true rfl) ?_
  change zX _ _ 0 0 0 [.int l0] [] g σ _
  refine x_iload_n dX7_truth_0 rfl ?_
  refine x_if_eq (tgt := 8) dX7_truth_1 rfl (fun q1 => ?_) (fun q1 => ?_)
  · replace h := itT q1 h
    refine x_iconst (v := 0) dX7_truth_8 rfl ?_
    exact x_iret (S := []) dX7_truth_9 rfl rfl ⟨_, rfl, rfl, h⟩
  · replace h := itF q1 h
    refine x_iconst (v := 1) dX7_truth_4 rfl ?_
    refine x_goto (tgt := 9) dX7_truth_5 rfl ?_
    exact x_iret (S := []) dX7_truth_9 rfl rfl ⟨_, rfl, rfl, h⟩
set_option maxRecDepth 20000 in
theorem s_X7_common {d : Nat} {g : zG} {σ : zI} {K : Int32 → zI → Prop} (hg : zGA g) {l1 : Int32} {l2 : Int32} (h : zCR mX7_heirAt d [.ref 0, .int l1] g σ (fun x1 σ1 => match x1 with | none => zCR mX7_heirAt d [.ref 0, .int l2] g σ1 (fun x2 σ2 => match x2 with | none => K (-2) σ2 | some r2 => zOb g r2 0 ∧ K (-2) σ2) | some r1 => zOb g r1 0 ∧ zCR mX7_heirAt d [.ref 0, .int l2] g σ1 (fun x2 σ2 => match x2 with | none => K (-2) σ2 | some r2 => zOb g r2 0 ∧ (if ((r1 : Nat) = r2 : Prop) then K (-2) σ2 else zCI mX0_sayable d [.ref r1] g σ2 (fun v1 σ3 => zCI mX0_sayable d [.ref r2] g σ3 (fun v2 σ4 => K (v1 &&& v2) σ4)))))) : zCI mX7_common (d + 1) [.ref 0, .int l1, .int l2] g σ K := by
  refine c_of_x pn_mX7_common rfl (Nat.le_of_ble_eq_true rfl) ?_
  change zX _ _ 0 0 0 [.ref 0, .int l1, .int l2] [] g σ _
  refine x_aload_n dX7_common_0 rfl ?_
  refine x_iload_n dX7_common_1 rfl ?_
  refine x_callV (Y2 := mX7_heirAt) (as := [.int l1]) (S := []) (kc2 := 0) (ks2 := 0) mv_mX7_heirAt (Or.inl ⟨7, _, rfl, rfl, (gA_0 hg)⟩) dX7_common_2 lk_X7_66 mo_mX7_heirAt rfl rfl (Nat.le_of_ble_eq_true rfl) (Or.inl rfl) rfl rfl h ?_
  rintro _ _ σ1 ⟨x1, rfl, rfl, h⟩
  rcases x1 with _ | r1
  · dsimp only at h
    change zX _ _ 0 0 5 _ [.null] _ _ _
    refine x_astore_nN dX7_common_5 rfl (Nat.le_of_ble_eq_true rfl) (L2 := [_, _, _, _]) rfl ?_
    refine x_aload_n dX7_common_6 rfl ?_
    refine x_iload_n dX7_common_7 rfl ?_
    refine x_callV (Y2 := mX7_heirAt) (as := [.int l2]) (S := []) (kc2 := 0) (ks2 := 0) mv_mX7_heirAt (Or.inl ⟨7, _, rfl, rfl, (gA_0 hg)⟩) dX7_common_8 lk_X7_66 mo_mX7_heirAt rfl rfl (Nat.le_of_ble_eq_true rfl) (Or.inl rfl) rfl rfl h ?_
    rintro _ _ σ2 ⟨x2, rfl, rfl, h⟩
    rcases x2 with _ | r2
    · dsimp only at h
      change zX _ _ 0 0 11 _ [.null] _ _ _
      refine x_astoreN dX7_common_11 rfl (Nat.le_of_ble_eq_true rfl) (L2 := [_, _, _, _, _]) rfl ?_
      refine x_aload_nN dX7_common_13 rfl ?_
      refine x_ifnullN (tgt := 28) dX7_common_14 rfl ?_
      refine x_bipush (v := (-2)) dX7_common_28 rfl ?_
      exact x_iret (S := []) dX7_common_30 rfl rfl ⟨_, rfl, rfl, h⟩
    · dsimp only at h
      obtain ⟨q2, h⟩ := h
      change zX _ _ 0 0 11 _ [.ref r2] _ _ _
      refine x_astore dX7_common_11 rfl (Nat.le_of_ble_eq_true rfl) (L2 := [_, _, _, _, _]) rfl ?_
      refine x_aload_nN dX7_common_13 rfl ?_
      refine x_ifnullN (tgt := 28) dX7_common_14 rfl ?_
      refine x_bipush (v := (-2)) dX7_common_28 rfl ?_
      exact x_iret (S := []) dX7_common_30 rfl rfl ⟨_, rfl, rfl, h⟩
  · dsimp only at h
    obtain ⟨q1, h⟩ := h
    change zX _ _ 0 0 5 _ [.ref r1] _ _ _
    refine x_astore_n dX7_common_5 rfl (Nat.le_of_ble_eq_true rfl) (L2 := [_, _, _, _]) rfl ?_
    refine x_aload_n dX7_common_6 rfl ?_
    refine x_iload_n dX7_common_7 rfl ?_
    refine x_callV (Y2 := mX7_heirAt) (as := [.int l2]) (S := []) (kc2 := 0) (ks2 := 0) mv_mX7_heirAt (Or.inl ⟨7, _, rfl, rfl, (gA_0 hg)⟩) dX7_common_8 lk_X7_66 mo_mX7_heirAt rfl rfl (Nat.le_of_ble_eq_true rfl) (Or.inl rfl) rfl rfl h ?_
    rintro _ _ σ2 ⟨x2, rfl, rfl, h⟩
    rcases x2 with _ | r2
    · dsimp only at h
      change zX _ _ 0 0 11 _ [.null] _ _ _
      refine x_astoreN dX7_common_11 rfl (Nat.le_of_ble_eq_true rfl) (L2 := [_, _, _, _, _]) rfl ?_
      refine x_aload_n dX7_common_13 rfl ?_
      refine x_ifnull dX7_common_14 ?_
      refine x_aloadN dX7_common_17 rfl ?_
      refine x_ifnullN (tgt := 28) dX7_common_19 rfl ?_
      refine x_bipush (v := (-2)) dX7_common_28 rfl ?_
      exact x_iret (S := []) dX7_common_30 rfl rfl ⟨_, rfl, rfl, h⟩
    · dsimp only at h
      obtain ⟨q2, h⟩ := h
      change zX _ _ 0 0 11 _ [.ref r2] _ _ _
      refine x_astore dX7_common_11 rfl (Nat.le_of_ble_eq_true rfl) (L2 := [_, _, _, _, _]) rfl ?_
      refine x_aload_n dX7_common_13 rfl ?_
      refine x_ifnull dX7_common_14 ?_
      refine x_aload dX7_common_17 rfl ?_
      refine x_ifnull dX7_common_19 ?_
      refine x_aload_n dX7_common_22 rfl ?_
      refine x_aload dX7_common_23 rfl ?_
      refine x_acmp_ne (tgt := 31) dX7_common_25 q1.1 q2.1 rfl (fun q3 => ?_) (fun q3 => ?_)
      · replace h := itF q3 h
        refine x_aload_n dX7_common_31 rfl ?_
        refine x_callV (Y2 := mX0_sayable) (as := []) (S := []) (kc2 := 0) (ks2 := 0) mv_mX0_sayable (Or.inl ⟨0, _, rfl, rfl, q1⟩) dX7_common_32 lk_X7_112 mo_mX0_sayable rfl rfl (Nat.le_of_ble_eq_true rfl) (Or.inl rfl) rfl rfl h ?_
        rintro _ _ σ3 ⟨v1, rfl, rfl, h⟩
        change zX _ _ 0 0 35 _ [.int v1] _ _ _
        refine x_aload dX7_common_35 rfl ?_
        refine x_callV (Y2 := mX0_sayable) (as := []) (S := [.int v1]) (kc2 := 0) (ks2 := 0) mv_mX0_sayable (Or.inl ⟨0, _, rfl, rfl, q2⟩) dX7_common_37 lk_X7_112 mo_mX0_sayable rfl rfl (Nat.le_of_ble_eq_true rfl) (Or.inl rfl) rfl rfl h ?_
        rintro _ _ σ4 ⟨v2, rfl, rfl, h⟩
        change zX _ _ 0 0 40 _ [.int v2, .int v1] _ _ _
        refine x_iand dX7_common_40 ?_
        exact x_iret (S := []) dX7_common_41 rfl rfl ⟨_, rfl, rfl, h⟩
      · replace h := itT q3 h
        refine x_bipush (v := (-2)) dX7_common_28 rfl ?_
        exact x_iret (S := []) dX7_common_30 rfl rfl ⟨_, rfl, rfl, h⟩
set_option maxRecDepth 20000 in
theorem s_X7_pays {d : Nat} {g : zG} {σ : zI} {K : Int32 → zI → Prop} (hg : zGA g) {l1 : Int32} {l2 : Int32} {l3 : Int32} {l4 : Int32} (h : zCR mX7_heirAt d [.ref 0, .int l1] g σ (fun x1 σ1 => match x1 with | none => zCR mX7_heirAt d [.ref 0, .int l2] g σ1 (fun x2 σ2 => match x2 with | none => K (-2) σ2 | some r2 => zOb g r2 0 ∧ K (-2) σ2) | some r1 => zOb g r1 0 ∧ zCR mX7_heirAt d [.ref 0, .int l2] g σ1 (fun x2 σ2 => match x2 with | none => K (-2) σ2 | some r2 => zOb g r2 0 ∧ (if ((r1 : Nat) = r2 : Prop) then K (-2) σ2 else zCI mX7_isSum d [.int l3] g σ2 (fun v1 σ3 => (if (v1 = 0 : Prop) then K (-2) σ3 else (if (l4 < 0 : Prop) then K (-2) σ3 else (if (l4 ≤ 3 : Prop) then (if (2 ≤ l4 : Prop) then zCV mX6_lay d [.ref 28, .ref 1, .int (σ3 0 8), .int l3] g σ3 (fun σ4 => zCV mX6_walk d [.ref 28, .int l1] g σ4 (fun σ5 => (if (l4 = 2 : Prop) then zCI mX6_costTo d [.ref 28, .int l2] g σ5 (fun v2 σ6 => K v2 σ6) else zCI mX6_stepsTo d [.ref 28, .int l2] g σ5 (fun v2 σ6 => K v2 σ6)))) else (if (l4 = 1 : Prop) then zCV mX3_fillLeast d [.ref 22, .ref r1, .ref r2, .int l3, .int 1] g σ3 (fun σ4 => zCI mX3_leastOf d [.ref 22, .int l3] g σ4 (fun v2 σ5 => K v2 σ5)) else zCV mX3_fillLeast d [.ref 22, .ref r1, .ref r2, .int l3, .int 0] g σ3 (fun σ4 => zCI mX3_leastOf d [.ref 22, .int l3] g σ4 (fun v2 σ5 => K v2 σ5)))) else K (-2) σ3)))))))) : zCI mX7_pays (d + 1) [.ref 0, .int l1, .int l2, .int l3, .int l4] g σ K := by
  refine c_of_x pn_mX7_pays rfl (Nat.le_of_ble_eq_true rfl) ?_
  change zX _ _ 0 0 0 [.ref 0, .int l1, .int l2, .int l3, .int l4] [] g σ _
  refine x_aload_n dX7_pays_0 rfl ?_
  refine x_iload_n dX7_pays_1 rfl ?_
  refine x_callV (Y2 := mX7_heirAt) (as := [.int l1]) (S := []) (kc2 := 0) (ks2 := 0) mv_mX7_heirAt (Or.inl ⟨7, _, rfl, rfl, (gA_0 hg)⟩) dX7_pays_2 lk_X7_66 mo_mX7_heirAt rfl rfl (Nat.le_of_ble_eq_true rfl) (Or.inl rfl) rfl rfl h ?_
  rintro _ _ σ1 ⟨x1, rfl, rfl, h⟩
  rcases x1 with _ | r1
  · dsimp only at h
    change zX _ _ 0 0 5 _ [.null] _ _ _
    refine x_astoreN dX7_pays_5 rfl (Nat.le_of_ble_eq_true rfl) (L2 := [_, _, _, _, _, _]) rfl ?_
    refine x_aload_n dX7_pays_7 rfl ?_
    refine x_iload_n dX7_pays_8 rfl ?_
    refine x_callV (Y2 := mX7_heirAt) (as := [.int l2]) (S := []) (kc2 := 0) (ks2 := 0) mv_mX7_heirAt (Or.inl ⟨7, _, rfl, rfl, (gA_0 hg)⟩) dX7_pays_9 lk_X7_66 mo_mX7_heirAt rfl rfl (Nat.le_of_ble_eq_true rfl) (Or.inl rfl) rfl rfl h ?_
    rintro _ _ σ2 ⟨x2, rfl, rfl, h⟩
    rcases x2 with _ | r2
    · dsimp only at h
      change zX _ _ 0 0 12 _ [.null] _ _ _
      refine x_astoreN dX7_pays_12 rfl (Nat.le_of_ble_eq_true rfl) (L2 := [_, _, _, _, _, _, _]) rfl ?_
      refine x_aloadN dX7_pays_14 rfl ?_
      refine x_ifnullN (tgt := 49) dX7_pays_16 rfl ?_
      refine x_bipush (v := (-2)) dX7_pays_49 rfl ?_
      exact x_iret (S := []) dX7_pays_51 rfl rfl ⟨_, rfl, rfl, h⟩
    · dsimp only at h
      obtain ⟨q2, h⟩ := h
      change zX _ _ 0 0 12 _ [.ref r2] _ _ _
      refine x_astore dX7_pays_12 rfl (Nat.le_of_ble_eq_true rfl) (L2 := [_, _, _, _, _, _, _]) rfl ?_
      refine x_aloadN dX7_pays_14 rfl ?_
      refine x_ifnullN (tgt := 49) dX7_pays_16 rfl ?_
      refine x_bipush (v := (-2)) dX7_pays_49 rfl ?_
      exact x_iret (S := []) dX7_pays_51 rfl rfl ⟨_, rfl, rfl, h⟩
  · dsimp only at h
    obtain ⟨q1, h⟩ := h
    change zX _ _ 0 0 5 _ [.ref r1] _ _ _
    refine x_astore dX7_pays_5 rfl (Nat.le_of_ble_eq_true rfl) (L2 := [_, _, _, _, _, _]) rfl ?_
    refine x_aload_n dX7_pays_7 rfl ?_
    refine x_iload_n dX7_pays_8 rfl ?_
    refine x_callV (Y2 := mX7_heirAt) (as := [.int l2]) (S := []) (kc2 := 0) (ks2 := 0) mv_mX7_heirAt (Or.inl ⟨7, _, rfl, rfl, (gA_0 hg)⟩) dX7_pays_9 lk_X7_66 mo_mX7_heirAt rfl rfl (Nat.le_of_ble_eq_true rfl) (Or.inl rfl) rfl rfl h ?_
    rintro _ _ σ2 ⟨x2, rfl, rfl, h⟩
    rcases x2 with _ | r2
    · dsimp only at h
      change zX _ _ 0 0 12 _ [.null] _ _ _
      refine x_astoreN dX7_pays_12 rfl (Nat.le_of_ble_eq_true rfl) (L2 := [_, _, _, _, _, _, _]) rfl ?_
      refine x_aload dX7_pays_14 rfl ?_
      refine x_ifnull dX7_pays_16 ?_
      refine x_aloadN dX7_pays_19 rfl ?_
      refine x_ifnullN (tgt := 49) dX7_pays_21 rfl ?_
      refine x_bipush (v := (-2)) dX7_pays_49 rfl ?_
      exact x_iret (S := []) dX7_pays_51 rfl rfl ⟨_, rfl, rfl, h⟩
    · dsimp only at h
      obtain ⟨q2, h⟩ := h
      change zX _ _ 0 0 12 _ [.ref r2] _ _ _
      refine x_astore dX7_pays_12 rfl (Nat.le_of_ble_eq_true rfl) (L2 := [_, _, _, _, _, _, _]) rfl ?_
      refine x_aload dX7_pays_14 rfl ?_
      refine x_ifnull dX7_pays_16 ?_
      refine x_aload dX7_pays_19 rfl ?_
      refine x_ifnull dX7_pays_21 ?_
      refine x_aload dX7_pays_24 rfl ?_
      refine x_aload dX7_pays_26 rfl ?_
      refine x_acmp_eq (tgt := 49) dX7_pays_28 q1.1 q2.1 rfl (fun q3 => ?_) (fun q3 => ?_)
      · replace h := itT q3 h
        refine x_bipush (v := (-2)) dX7_pays_49 rfl ?_
        exact x_iret (S := []) dX7_pays_51 rfl rfl ⟨_, rfl, rfl, h⟩
      · replace h := itF q3 h
        refine x_iload_n dX7_pays_31 rfl ?_
        refine x_callS (Y2 := mX7_isSum) (as := [.int l3]) (S := []) (kc2 := 0) (ks2 := 0) st_mX7_isSum dX7_pays_32 lk_X7_136 mo_mX7_isSum rfl rfl (Nat.le_of_ble_eq_true rfl) (Or.inl rfl) rfl rfl h ?_
        rintro _ _ σ3 ⟨v1, rfl, rfl, h⟩
        change zX _ _ 0 0 35 _ [.int v1] _ _ _
        refine x_if_eq (tgt := 49) dX7_pays_35 rfl (fun q4 => ?_) (fun q4 => ?_)
        · replace h := itT q4 h
          refine x_bipush (v := (-2)) dX7_pays_49 rfl ?_
          exact x_iret (S := []) dX7_pays_51 rfl rfl ⟨_, rfl, rfl, h⟩
        · replace h := itF q4 h
          refine x_iload dX7_pays_38 rfl ?_
          refine x_if_lt (tgt := 49) dX7_pays_40 rfl (fun q5 => ?_) (fun q5 => ?_)
          · replace h := itT q5 h
            refine x_bipush (v := (-2)) dX7_pays_49 rfl ?_
            exact x_iret (S := []) dX7_pays_51 rfl rfl ⟨_, rfl, rfl, h⟩
          · replace h := itF q5 h
            refine x_iload dX7_pays_43 rfl ?_
            refine x_iconst (v := 3) dX7_pays_45 rfl ?_
            refine x_icmp_le (tgt := 52) dX7_pays_46 rfl (fun q6 => ?_) (fun q6 => ?_)
            · replace h := itT q6 h
              refine x_iload dX7_pays_52 rfl ?_
              refine x_iconst (v := 2) dX7_pays_54 rfl ?_
              refine x_icmp_ge (tgt := 90) dX7_pays_55 rfl (fun q7 => ?_) (fun q7 => ?_)
              · replace h := itT q7 h
                refine x_aload_n dX7_pays_90 rfl ?_
                refine x_getR dX7_pays_91 fl_X7_42 (gA_0 hg) rfl (gA_0_4 hg) ?_
                refine x_aload_n dX7_pays_94 rfl ?_
                refine x_getR dX7_pays_95 fl_X7_11 (gA_0 hg) rfl (gA_0_0 hg) ?_
                refine x_aload_n dX7_pays_98 rfl ?_
                refine x_getI dX7_pays_99 fl_X7_77 (gA_0 hg) rfl ?_
                refine x_iload_n dX7_pays_102 rfl ?_
                refine x_callV (Y2 := mX6_lay) (as := [.ref 1, .int (σ3 0 8), .int l3]) (S := []) (kc2 := 0) (ks2 := 0) mv_mX6_lay (Or.inl ⟨6, _, rfl, rfl, (gA_28 hg)⟩) dX7_pays_103 lk_X7_160 mo_mX6_lay rfl rfl (Nat.le_of_ble_eq_true rfl) (Or.inl rfl) rfl rfl h ?_
                rintro _ _ σ4 ⟨rfl, rfl, h⟩
                change zX _ _ 0 0 106 _ [] _ _ _
                refine x_aload_n dX7_pays_106 rfl ?_
                refine x_getR dX7_pays_107 fl_X7_42 (gA_0 hg) rfl (gA_0_4 hg) ?_
                refine x_iload_n dX7_pays_110 rfl ?_
                refine x_callV (Y2 := mX6_walk) (as := [.int l1]) (S := []) (kc2 := 0) (ks2 := 0) mv_mX6_walk (Or.inl ⟨6, _, rfl, rfl, (gA_28 hg)⟩) dX7_pays_111 lk_X7_164 mo_mX6_walk rfl rfl (Nat.le_of_ble_eq_true rfl) (Or.inl rfl) rfl rfl h ?_
                rintro _ _ σ5 ⟨rfl, rfl, h⟩
                change zX _ _ 0 0 114 _ [] _ _ _
                refine x_iload dX7_pays_114 rfl ?_
                refine x_iconst (v := 2) dX7_pays_116 rfl ?_
                refine x_icmp_ne (tgt := 131) dX7_pays_117 rfl (fun q8 => ?_) (fun q8 => ?_)
                · replace h := itF q8 h
                  refine x_aload_n dX7_pays_131 rfl ?_
                  refine x_getR dX7_pays_132 fl_X7_42 (gA_0 hg) rfl (gA_0_4 hg) ?_
                  refine x_iload_n dX7_pays_135 rfl ?_
                  refine x_callV (Y2 := mX6_stepsTo) (as := [.int l2]) (S := []) (kc2 := 0) (ks2 := 0) mv_mX6_stepsTo (Or.inl ⟨6, _, rfl, rfl, (gA_28 hg)⟩) dX7_pays_136 lk_X7_171 mo_mX6_stepsTo rfl rfl (Nat.le_of_ble_eq_true rfl) (Or.inl rfl) rfl rfl h ?_
                  rintro _ _ σ6 ⟨v2, rfl, rfl, h⟩
                  change zX _ _ 0 0 139 _ [.int v2] _ _ _
                  exact x_iret (S := []) dX7_pays_139 rfl rfl ⟨_, rfl, rfl, h⟩
                · replace h := itT q8 h
                  refine x_aload_n dX7_pays_120 rfl ?_
                  refine x_getR dX7_pays_121 fl_X7_42 (gA_0 hg) rfl (gA_0_4 hg) ?_
                  refine x_iload_n dX7_pays_124 rfl ?_
                  refine x_callV (Y2 := mX6_costTo) (as := [.int l2]) (S := []) (kc2 := 0) (ks2 := 0) mv_mX6_costTo (Or.inl ⟨6, _, rfl, rfl, (gA_28 hg)⟩) dX7_pays_125 lk_X7_168 mo_mX6_costTo rfl rfl (Nat.le_of_ble_eq_true rfl) (Or.inl rfl) rfl rfl h ?_
                  rintro _ _ σ6 ⟨v2, rfl, rfl, h⟩
                  change zX _ _ 0 0 128 _ [.int v2] _ _ _
                  refine x_goto (tgt := 139) dX7_pays_128 rfl ?_
                  exact x_iret (S := []) dX7_pays_139 rfl rfl ⟨_, rfl, rfl, h⟩
              · replace h := itF q7 h
                refine x_aload_n dX7_pays_58 rfl ?_
                refine x_getR dX7_pays_59 fl_X7_33 (gA_0 hg) rfl (gA_0_3 hg) ?_
                refine x_aload dX7_pays_62 rfl ?_
                refine x_aload dX7_pays_64 rfl ?_
                refine x_iload_n dX7_pays_66 rfl ?_
                refine x_iload dX7_pays_67 rfl ?_
                refine x_iconst (v := 1) dX7_pays_69 rfl ?_
                refine x_icmp_ne (tgt := 77) dX7_pays_70 rfl (fun q8 => ?_) (fun q8 => ?_)
                · replace h := itF q8 h
                  refine x_iconst (v := 0) dX7_pays_77 rfl ?_
                  refine x_callV (Y2 := mX3_fillLeast) (as := [.ref r1, .ref r2, .int l3, .int 0]) (S := []) (kc2 := 0) (ks2 := 0) mv_mX3_fillLeast (Or.inl ⟨3, _, rfl, rfl, (gA_22 hg)⟩) dX7_pays_78 lk_X7_153 mo_mX3_fillLeast rfl rfl (Nat.le_of_ble_eq_true rfl) (Or.inl rfl) rfl rfl h ?_
                  rintro _ _ σ4 ⟨rfl, rfl, h⟩
                  change zX _ _ 0 0 81 _ [] _ _ _
                  refine x_aload_n dX7_pays_81 rfl ?_
                  refine x_getR dX7_pays_82 fl_X7_33 (gA_0 hg) rfl (gA_0_3 hg) ?_
                  refine x_iload_n dX7_pays_85 rfl ?_
                  refine x_callV (Y2 := mX3_leastOf) (as := [.int l3]) (S := []) (kc2 := 0) (ks2 := 0) mv_mX3_leastOf (Or.inl ⟨3, _, rfl, rfl, (gA_22 hg)⟩) dX7_pays_86 lk_X7_157 mo_mX3_leastOf rfl rfl (Nat.le_of_ble_eq_true rfl) (Or.inl rfl) rfl rfl h ?_
                  rintro _ _ σ5 ⟨v2, rfl, rfl, h⟩
                  change zX _ _ 0 0 89 _ [.int v2] _ _ _
                  exact x_iret (S := []) dX7_pays_89 rfl rfl ⟨_, rfl, rfl, h⟩
                · replace h := itT q8 h
                  refine x_iconst (v := 1) dX7_pays_73 rfl ?_
                  refine x_goto (tgt := 78) dX7_pays_74 rfl ?_
                  refine x_callV (Y2 := mX3_fillLeast) (as := [.ref r1, .ref r2, .int l3, .int 1]) (S := []) (kc2 := 0) (ks2 := 0) mv_mX3_fillLeast (Or.inl ⟨3, _, rfl, rfl, (gA_22 hg)⟩) dX7_pays_78 lk_X7_153 mo_mX3_fillLeast rfl rfl (Nat.le_of_ble_eq_true rfl) (Or.inl rfl) rfl rfl h ?_
                  rintro _ _ σ4 ⟨rfl, rfl, h⟩
                  change zX _ _ 0 0 81 _ [] _ _ _
                  refine x_aload_n dX7_pays_81 rfl ?_
                  refine x_getR dX7_pays_82 fl_X7_33 (gA_0 hg) rfl (gA_0_3 hg) ?_
                  refine x_iload_n dX7_pays_85 rfl ?_
                  refine x_callV (Y2 := mX3_leastOf) (as := [.int l3]) (S := []) (kc2 := 0) (ks2 := 0) mv_mX3_leastOf (Or.inl ⟨3, _, rfl, rfl, (gA_22 hg)⟩) dX7_pays_86 lk_X7_157 mo_mX3_leastOf rfl rfl (Nat.le_of_ble_eq_true rfl) (Or.inl rfl) rfl rfl h ?_
                  rintro _ _ σ5 ⟨v2, rfl, rfl, h⟩
                  change zX _ _ 0 0 89 _ [.int v2] _ _ _
                  exact x_iret (S := []) dX7_pays_89 rfl rfl ⟨_, rfl, rfl, h⟩
            · replace h := itF q6 h
              refine x_bipush (v := (-2)) dX7_pays_49 rfl ?_
              exact x_iret (S := []) dX7_pays_51 rfl rfl ⟨_, rfl, rfl, h⟩
set_option maxRecDepth 20000 in
theorem s_X7_barred {d : Nat} {g : zG} {σ : zI} {K : Int32 → zI → Prop} (hg : zGA g) {l1 : Int32} {l2 : Int32} {l3 : Int32} (h : zCR mX7_heirAt d [.ref 0, .int l1] g σ (fun x1 σ1 => match x1 with | none => zCR mX7_heirAt d [.ref 0, .int l2] g σ1 (fun x2 σ2 => match x2 with | none => K (-2) σ2 | some r2 => zOb g r2 0 ∧ K (-2) σ2) | some r1 => zOb g r1 0 ∧ zCR mX7_heirAt d [.ref 0, .int l2] g σ1 (fun x2 σ2 => match x2 with | none => K (-2) σ2 | some r2 => zOb g r2 0 ∧ (if ((r1 : Nat) = r2 : Prop) then K (-2) σ2 else (if (l3 < 0 : Prop) then K (-2) σ2 else (if (l3 ≤ 2 : Prop) then zCI mX3_hindered d [.ref 22, .ref r1, .ref r2, .int l3] g σ2 (fun v1 σ3 => K v1 σ3) else K (-2) σ2)))))) : zCI mX7_barred (d + 1) [.ref 0, .int l1, .int l2, .int l3] g σ K := by
  refine c_of_x pn_mX7_barred rfl (Nat.le_of_ble_eq_true rfl) ?_
  change zX _ _ 0 0 0 [.ref 0, .int l1, .int l2, .int l3] [] g σ _
  refine x_aload_n dX7_barred_0 rfl ?_
  refine x_iload_n dX7_barred_1 rfl ?_
  refine x_callV (Y2 := mX7_heirAt) (as := [.int l1]) (S := []) (kc2 := 0) (ks2 := 0) mv_mX7_heirAt (Or.inl ⟨7, _, rfl, rfl, (gA_0 hg)⟩) dX7_barred_2 lk_X7_66 mo_mX7_heirAt rfl rfl (Nat.le_of_ble_eq_true rfl) (Or.inl rfl) rfl rfl h ?_
  rintro _ _ σ1 ⟨x1, rfl, rfl, h⟩
  rcases x1 with _ | r1
  · dsimp only at h
    change zX _ _ 0 0 5 _ [.null] _ _ _
    refine x_astoreN dX7_barred_5 rfl (Nat.le_of_ble_eq_true rfl) (L2 := [_, _, _, _, _]) rfl ?_
    refine x_aload_n dX7_barred_7 rfl ?_
    refine x_iload_n dX7_barred_8 rfl ?_
    refine x_callV (Y2 := mX7_heirAt) (as := [.int l2]) (S := []) (kc2 := 0) (ks2 := 0) mv_mX7_heirAt (Or.inl ⟨7, _, rfl, rfl, (gA_0 hg)⟩) dX7_barred_9 lk_X7_66 mo_mX7_heirAt rfl rfl (Nat.le_of_ble_eq_true rfl) (Or.inl rfl) rfl rfl h ?_
    rintro _ _ σ2 ⟨x2, rfl, rfl, h⟩
    rcases x2 with _ | r2
    · dsimp only at h
      change zX _ _ 0 0 12 _ [.null] _ _ _
      refine x_astoreN dX7_barred_12 rfl (Nat.le_of_ble_eq_true rfl) (L2 := [_, _, _, _, _, _]) rfl ?_
      refine x_aloadN dX7_barred_14 rfl ?_
      refine x_ifnullN (tgt := 40) dX7_barred_16 rfl ?_
      refine x_bipush (v := (-2)) dX7_barred_40 rfl ?_
      exact x_iret (S := []) dX7_barred_42 rfl rfl ⟨_, rfl, rfl, h⟩
    · dsimp only at h
      obtain ⟨q2, h⟩ := h
      change zX _ _ 0 0 12 _ [.ref r2] _ _ _
      refine x_astore dX7_barred_12 rfl (Nat.le_of_ble_eq_true rfl) (L2 := [_, _, _, _, _, _]) rfl ?_
      refine x_aloadN dX7_barred_14 rfl ?_
      refine x_ifnullN (tgt := 40) dX7_barred_16 rfl ?_
      refine x_bipush (v := (-2)) dX7_barred_40 rfl ?_
      exact x_iret (S := []) dX7_barred_42 rfl rfl ⟨_, rfl, rfl, h⟩
  · dsimp only at h
    obtain ⟨q1, h⟩ := h
    change zX _ _ 0 0 5 _ [.ref r1] _ _ _
    refine x_astore dX7_barred_5 rfl (Nat.le_of_ble_eq_true rfl) (L2 := [_, _, _, _, _]) rfl ?_
    refine x_aload_n dX7_barred_7 rfl ?_
    refine x_iload_n dX7_barred_8 rfl ?_
    refine x_callV (Y2 := mX7_heirAt) (as := [.int l2]) (S := []) (kc2 := 0) (ks2 := 0) mv_mX7_heirAt (Or.inl ⟨7, _, rfl, rfl, (gA_0 hg)⟩) dX7_barred_9 lk_X7_66 mo_mX7_heirAt rfl rfl (Nat.le_of_ble_eq_true rfl) (Or.inl rfl) rfl rfl h ?_
    rintro _ _ σ2 ⟨x2, rfl, rfl, h⟩
    rcases x2 with _ | r2
    · dsimp only at h
      change zX _ _ 0 0 12 _ [.null] _ _ _
      refine x_astoreN dX7_barred_12 rfl (Nat.le_of_ble_eq_true rfl) (L2 := [_, _, _, _, _, _]) rfl ?_
      refine x_aload dX7_barred_14 rfl ?_
      refine x_ifnull dX7_barred_16 ?_
      refine x_aloadN dX7_barred_19 rfl ?_
      refine x_ifnullN (tgt := 40) dX7_barred_21 rfl ?_
      refine x_bipush (v := (-2)) dX7_barred_40 rfl ?_
      exact x_iret (S := []) dX7_barred_42 rfl rfl ⟨_, rfl, rfl, h⟩
    · dsimp only at h
      obtain ⟨q2, h⟩ := h
      change zX _ _ 0 0 12 _ [.ref r2] _ _ _
      refine x_astore dX7_barred_12 rfl (Nat.le_of_ble_eq_true rfl) (L2 := [_, _, _, _, _, _]) rfl ?_
      refine x_aload dX7_barred_14 rfl ?_
      refine x_ifnull dX7_barred_16 ?_
      refine x_aload dX7_barred_19 rfl ?_
      refine x_ifnull dX7_barred_21 ?_
      refine x_aload dX7_barred_24 rfl ?_
      refine x_aload dX7_barred_26 rfl ?_
      refine x_acmp_eq (tgt := 40) dX7_barred_28 q1.1 q2.1 rfl (fun q3 => ?_) (fun q3 => ?_)
      · replace h := itT q3 h
        refine x_bipush (v := (-2)) dX7_barred_40 rfl ?_
        exact x_iret (S := []) dX7_barred_42 rfl rfl ⟨_, rfl, rfl, h⟩
      · replace h := itF q3 h
        refine x_iload_n dX7_barred_31 rfl ?_
        refine x_if_lt (tgt := 40) dX7_barred_32 rfl (fun q4 => ?_) (fun q4 => ?_)
        · replace h := itT q4 h
          refine x_bipush (v := (-2)) dX7_barred_40 rfl ?_
          exact x_iret (S := []) dX7_barred_42 rfl rfl ⟨_, rfl, rfl, h⟩
        · replace h := itF q4 h
          refine x_iload_n dX7_barred_35 rfl ?_
          refine x_iconst (v := 2) dX7_barred_36 rfl ?_
          refine x_icmp_le (tgt := 43) dX7_barred_37 rfl (fun q5 => ?_) (fun q5 => ?_)
          · replace h := itT q5 h
            refine x_aload_n dX7_barred_43 rfl ?_
            refine x_getR dX7_barred_44 fl_X7_33 (gA_0 hg) rfl (gA_0_3 hg) ?_
            refine x_aload dX7_barred_47 rfl ?_
            refine x_aload dX7_barred_49 rfl ?_
            refine x_iload_n dX7_barred_51 rfl ?_
            refine x_callV (Y2 := mX3_hindered) (as := [.ref r1, .ref r2, .int l3]) (S := []) (kc2 := 0) (ks2 := 0) mv_mX3_hindered (Or.inl ⟨3, _, rfl, rfl, (gA_22 hg)⟩) dX7_barred_52 lk_X7_174 mo_mX3_hindered rfl rfl (Nat.le_of_ble_eq_true rfl) (Or.inl rfl) rfl rfl h ?_
            rintro _ _ σ3 ⟨v1, rfl, rfl, h⟩
            change zX _ _ 0 0 55 _ [.int v1] _ _ _
            exact x_iret (S := []) dX7_barred_55 rfl rfl ⟨_, rfl, rfl, h⟩
          · replace h := itF q5 h
            refine x_bipush (v := (-2)) dX7_barred_40 rfl ?_
            exact x_iret (S := []) dX7_barred_42 rfl rfl ⟨_, rfl, rfl, h⟩
abbrev p_X7_silent_21 (d : Nat) (g : zG) (K : Int32 → zI → Prop) (σ : zI) (l1 : Int32) (l2 : Int32) : Prop := zX mX7_silent (d + 1) 0 0 21 [.ref 0, .int l1, .int l2] [] g σ (zqI g K)
abbrev p_X7_silent_33 (d : Nat) (g : zG) (K : Int32 → zI → Prop) (σ : zI) (l1 : Int32) (l2 : Int32) (l3 : Int32) : Prop := zX mX7_silent (d + 1) 0 0 33 [.ref 0, .int l1, .int l2, .int l3] [] g σ (zqI g K)
set_option maxRecDepth 20000 in
theorem s_X7_silent {d : Nat} {g : zG} {σ : zI} {K : Int32 → zI → Prop} (hg : zGA g) {l1 : Int32} (h : (if (l1 < 0 : Prop) then K (-2) σ else (if (l1 ≤ 1 : Prop) then zCV mX3_hearNone d [.ref 22] g σ (fun σ1 => p_X7_silent_21 d g K σ1 l1 0) else K (-2) σ))) : zCI mX7_silent (d + 1) [.ref 0, .int l1] g σ K := by
  refine c_of_x pn_mX7_silent rfl (Nat.le_of_ble_eq_true rfl) ?_
  change zX _ _ 0 0 0 [.ref 0, .int l1] [] g σ _
  refine x_iload_n dX7_silent_0 rfl ?_
  refine x_if_lt (tgt := 9) dX7_silent_1 rfl (fun q1 => ?_) (fun q1 => ?_)
  · replace h := itT q1 h
    refine x_bipush (v := (-2)) dX7_silent_9 rfl ?_
    exact x_iret (S := []) dX7_silent_11 rfl rfl ⟨_, rfl, rfl, h⟩
  · replace h := itF q1 h
    refine x_iload_n dX7_silent_4 rfl ?_
    refine x_iconst (v := 1) dX7_silent_5 rfl ?_
    refine x_icmp_le (tgt := 12) dX7_silent_6 rfl (fun q2 => ?_) (fun q2 => ?_)
    · replace h := itT q2 h
      refine x_aload_n dX7_silent_12 rfl ?_
      refine x_getR dX7_silent_13 fl_X7_33 (gA_0 hg) rfl (gA_0_3 hg) ?_
      refine x_callV (Y2 := mX3_hearNone) (as := []) (S := []) (kc2 := 0) (ks2 := 0) mv_mX3_hearNone (Or.inl ⟨3, _, rfl, rfl, (gA_22 hg)⟩) dX7_silent_16 lk_X7_178 mo_mX3_hearNone rfl rfl (Nat.le_of_ble_eq_true rfl) (Or.inl rfl) rfl rfl h ?_
      rintro _ _ σ1 ⟨rfl, rfl, h⟩
      change zX _ _ 0 0 19 _ [] _ _ _
      refine x_iconst (v := 0) dX7_silent_19 rfl ?_
      refine x_istore_n dX7_silent_20 rfl (Nat.le_of_ble_eq_true rfl) (L2 := [_, _, _]) rfl ?_
      exact h
    · replace h := itF q2 h
      refine x_bipush (v := (-2)) dX7_silent_9 rfl ?_
      exact x_iret (S := []) dX7_silent_11 rfl rfl ⟨_, rfl, rfl, h⟩
set_option maxRecDepth 20000 in
theorem s_X7_silent_21 {d : Nat} {g : zG} {σ : zI} {K : Int32 → zI → Prop} (hg : zGA g) {l1 : Int32} {l2 : Int32} (h : (if ((σ 0 8) ≤ l2 : Prop) then (if (l1 = 0 : Prop) then zCI mX3_unheard d [.ref 22] g σ (fun v1 σ1 => K v1 σ1) else zCI mX3_firstUnheard d [.ref 22] g σ (fun v1 σ1 => K v1 σ1)) else p_X7_silent_33 d g K σ l1 l2 (l2 + 1))) : p_X7_silent_21 d g K σ l1 l2 := by
  refine x_iload_n dX7_silent_21 rfl ?_
  refine x_aload_n dX7_silent_22 rfl ?_
  refine x_getI dX7_silent_23 fl_X7_77 (gA_0 hg) rfl ?_
  refine x_icmp_ge (tgt := 70) dX7_silent_26 rfl (fun q1 => ?_) (fun q1 => ?_)
  · replace h := itT q1 h
    refine x_iload_n dX7_silent_70 rfl ?_
    refine x_if_ne (tgt := 84) dX7_silent_71 rfl (fun q2 => ?_) (fun q2 => ?_)
    · replace h := itF q2 h
      refine x_aload_n dX7_silent_84 rfl ?_
      refine x_getR dX7_silent_85 fl_X7_33 (gA_0 hg) rfl (gA_0_3 hg) ?_
      refine x_callV (Y2 := mX3_firstUnheard) (as := []) (S := []) (kc2 := 0) (ks2 := 0) mv_mX3_firstUnheard (Or.inl ⟨3, _, rfl, rfl, (gA_22 hg)⟩) dX7_silent_88 lk_X7_188 mo_mX3_firstUnheard rfl rfl (Nat.le_of_ble_eq_true rfl) (Or.inl rfl) rfl rfl h ?_
      rintro _ _ σ1 ⟨v1, rfl, rfl, h⟩
      change zX _ _ 0 0 91 _ [.int v1] _ _ _
      exact x_iret (S := []) dX7_silent_91 rfl rfl ⟨_, rfl, rfl, h⟩
    · replace h := itT q2 h
      refine x_aload_n dX7_silent_74 rfl ?_
      refine x_getR dX7_silent_75 fl_X7_33 (gA_0 hg) rfl (gA_0_3 hg) ?_
      refine x_callV (Y2 := mX3_unheard) (as := []) (S := []) (kc2 := 0) (ks2 := 0) mv_mX3_unheard (Or.inl ⟨3, _, rfl, rfl, (gA_22 hg)⟩) dX7_silent_78 lk_X7_185 mo_mX3_unheard rfl rfl (Nat.le_of_ble_eq_true rfl) (Or.inl rfl) rfl rfl h ?_
      rintro _ _ σ1 ⟨v1, rfl, rfl, h⟩
      change zX _ _ 0 0 81 _ [.int v1] _ _ _
      refine x_goto (tgt := 91) dX7_silent_81 rfl ?_
      exact x_iret (S := []) dX7_silent_91 rfl rfl ⟨_, rfl, rfl, h⟩
  · replace h := itF q1 h
    refine x_iload_n dX7_silent_29 rfl ?_
    refine x_iconst (v := 1) dX7_silent_30 rfl ?_
    refine x_iadd dX7_silent_31 ?_
    refine x_istore_n dX7_silent_32 rfl (Nat.le_of_ble_eq_true rfl) (L2 := [_, _, _, _]) rfl ?_
    exact h
set_option maxRecDepth 20000 in
theorem s_X7_silent_33 {d : Nat} {g : zG} {σ : zI} {K : Int32 → zI → Prop} (hg : zGA g) {l1 : Int32} {l2 : Int32} {l3 : Int32} (h : (if ((σ 0 8) ≤ l3 : Prop) then p_X7_silent_21 d g K σ l1 (l2 + 1) else zCR mX7_heirAt d [.ref 0, .int l2] g σ (fun x1 σ1 => match x1 with | none => zCR mX7_heirAt d [.ref 0, .int l3] g σ1 (fun x2 σ2 => match x2 with | none => zCV mX3_hear d [.ref 22, .null, .null] g σ2 (fun σ3 => p_X7_silent_33 d g K σ3 l1 l2 (l3 + 1)) | some r2 => zOb g r2 0 ∧ zCV mX3_hear d [.ref 22, .null, .ref r2] g σ2 (fun σ3 => p_X7_silent_33 d g K σ3 l1 l2 (l3 + 1))) | some r1 => zOb g r1 0 ∧ zCR mX7_heirAt d [.ref 0, .int l3] g σ1 (fun x2 σ2 => match x2 with | none => zCV mX3_hear d [.ref 22, .ref r1, .null] g σ2 (fun σ3 => p_X7_silent_33 d g K σ3 l1 l2 (l3 + 1)) | some r2 => zOb g r2 0 ∧ zCV mX3_hear d [.ref 22, .ref r1, .ref r2] g σ2 (fun σ3 => p_X7_silent_33 d g K σ3 l1 l2 (l3 + 1)))))) : p_X7_silent_33 d g K σ l1 l2 l3 := by
  refine x_iload_n dX7_silent_33 rfl ?_
  refine x_aload_n dX7_silent_34 rfl ?_
  refine x_getI dX7_silent_35 fl_X7_77 (gA_0 hg) rfl ?_
  refine x_icmp_ge (tgt := 64) dX7_silent_38 rfl (fun q1 => ?_) (fun q1 => ?_)
  · replace h := itT q1 h
    refine x_iinc dX7_silent_64 rfl (v := l2 + 1) rfl rfl (Nat.le_of_ble_eq_true rfl) (L2 := [_, _, _, _]) rfl ?_
    refine x_goto (tgt := 21) dX7_silent_67 rfl ?_
    exact x_wk (wC (wC (wC (wN _)))) h
  · replace h := itF q1 h
    refine x_aload_n dX7_silent_41 rfl ?_
    refine x_getR dX7_silent_42 fl_X7_33 (gA_0 hg) rfl (gA_0_3 hg) ?_
    refine x_aload_n dX7_silent_45 rfl ?_
    refine x_iload_n dX7_silent_46 rfl ?_
    refine x_callV (Y2 := mX7_heirAt) (as := [.int l2]) (S := [.ref 22]) (kc2 := 0) (ks2 := 0) mv_mX7_heirAt (Or.inl ⟨7, _, rfl, rfl, (gA_0 hg)⟩) dX7_silent_47 lk_X7_66 mo_mX7_heirAt rfl rfl (Nat.le_of_ble_eq_true rfl) (Or.inl rfl) rfl rfl h ?_
    rintro _ _ σ1 ⟨x1, rfl, rfl, h⟩
    rcases x1 with _ | r1
    · dsimp only at h
      change zX _ _ 0 0 50 _ [.null, .ref 22] _ _ _
      refine x_aload_n dX7_silent_50 rfl ?_
      refine x_iload_n dX7_silent_51 rfl ?_
      refine x_callV (Y2 := mX7_heirAt) (as := [.int l3]) (S := [.null, .ref 22]) (kc2 := 0) (ks2 := 0) mv_mX7_heirAt (Or.inl ⟨7, _, rfl, rfl, (gA_0 hg)⟩) dX7_silent_52 lk_X7_66 mo_mX7_heirAt rfl rfl (Nat.le_of_ble_eq_true rfl) (Or.inl rfl) rfl rfl h ?_
      rintro _ _ σ2 ⟨x2, rfl, rfl, h⟩
      rcases x2 with _ | r2
      · dsimp only at h
        change zX _ _ 0 0 55 _ [.null, .null, .ref 22] _ _ _
        refine x_callV (Y2 := mX3_hear) (as := [.null, .null]) (S := []) (kc2 := 0) (ks2 := 0) mv_mX3_hear (Or.inl ⟨3, _, rfl, rfl, (gA_22 hg)⟩) dX7_silent_55 lk_X7_181 mo_mX3_hear rfl rfl (Nat.le_of_ble_eq_true rfl) (Or.inl rfl) rfl rfl h ?_
        rintro _ _ σ3 ⟨rfl, rfl, h⟩
        change zX _ _ 0 0 58 _ [] _ _ _
        refine x_iinc dX7_silent_58 rfl (v := l3 + 1) rfl rfl (Nat.le_of_ble_eq_true rfl) (L2 := [_, _, _, _]) rfl ?_
        refine x_goto (tgt := 33) dX7_silent_61 rfl ?_
        exact h
      · dsimp only at h
        obtain ⟨q3, h⟩ := h
        change zX _ _ 0 0 55 _ [.ref r2, .null, .ref 22] _ _ _
        refine x_callV (Y2 := mX3_hear) (as := [.null, .ref r2]) (S := []) (kc2 := 0) (ks2 := 0) mv_mX3_hear (Or.inl ⟨3, _, rfl, rfl, (gA_22 hg)⟩) dX7_silent_55 lk_X7_181 mo_mX3_hear rfl rfl (Nat.le_of_ble_eq_true rfl) (Or.inl rfl) rfl rfl h ?_
        rintro _ _ σ3 ⟨rfl, rfl, h⟩
        change zX _ _ 0 0 58 _ [] _ _ _
        refine x_iinc dX7_silent_58 rfl (v := l3 + 1) rfl rfl (Nat.le_of_ble_eq_true rfl) (L2 := [_, _, _, _]) rfl ?_
        refine x_goto (tgt := 33) dX7_silent_61 rfl ?_
        exact h
    · dsimp only at h
      obtain ⟨q2, h⟩ := h
      change zX _ _ 0 0 50 _ [.ref r1, .ref 22] _ _ _
      refine x_aload_n dX7_silent_50 rfl ?_
      refine x_iload_n dX7_silent_51 rfl ?_
      refine x_callV (Y2 := mX7_heirAt) (as := [.int l3]) (S := [.ref r1, .ref 22]) (kc2 := 0) (ks2 := 0) mv_mX7_heirAt (Or.inl ⟨7, _, rfl, rfl, (gA_0 hg)⟩) dX7_silent_52 lk_X7_66 mo_mX7_heirAt rfl rfl (Nat.le_of_ble_eq_true rfl) (Or.inl rfl) rfl rfl h ?_
      rintro _ _ σ2 ⟨x2, rfl, rfl, h⟩
      rcases x2 with _ | r2
      · dsimp only at h
        change zX _ _ 0 0 55 _ [.null, .ref r1, .ref 22] _ _ _
        refine x_callV (Y2 := mX3_hear) (as := [.ref r1, .null]) (S := []) (kc2 := 0) (ks2 := 0) mv_mX3_hear (Or.inl ⟨3, _, rfl, rfl, (gA_22 hg)⟩) dX7_silent_55 lk_X7_181 mo_mX3_hear rfl rfl (Nat.le_of_ble_eq_true rfl) (Or.inl rfl) rfl rfl h ?_
        rintro _ _ σ3 ⟨rfl, rfl, h⟩
        change zX _ _ 0 0 58 _ [] _ _ _
        refine x_iinc dX7_silent_58 rfl (v := l3 + 1) rfl rfl (Nat.le_of_ble_eq_true rfl) (L2 := [_, _, _, _]) rfl ?_
        refine x_goto (tgt := 33) dX7_silent_61 rfl ?_
        exact h
      · dsimp only at h
        obtain ⟨q3, h⟩ := h
        change zX _ _ 0 0 55 _ [.ref r2, .ref r1, .ref 22] _ _ _
        refine x_callV (Y2 := mX3_hear) (as := [.ref r1, .ref r2]) (S := []) (kc2 := 0) (ks2 := 0) mv_mX3_hear (Or.inl ⟨3, _, rfl, rfl, (gA_22 hg)⟩) dX7_silent_55 lk_X7_181 mo_mX3_hear rfl rfl (Nat.le_of_ble_eq_true rfl) (Or.inl rfl) rfl rfl h ?_
        rintro _ _ σ3 ⟨rfl, rfl, h⟩
        change zX _ _ 0 0 58 _ [] _ _ _
        refine x_iinc dX7_silent_58 rfl (v := l3 + 1) rfl rfl (Nat.le_of_ble_eq_true rfl) (L2 := [_, _, _, _]) rfl ?_
        refine x_goto (tgt := 33) dX7_silent_61 rfl ?_
        exact h
abbrev p_X7_middle_47 (d : Nat) (g : zG) (K : Int32 → zI → Prop) (σ : zI) (l2 : Int32) (l3 : Int32) (l4 : Int32) (l5 : Int32) : Prop := zX mX7_middle (d + 1) 0 0 47 [.ref 0, .retAddr 0, .int l2, .int l3, .int l4, .int l5] [] g σ (zqI g K)
set_option maxRecDepth 20000 in
theorem s_X7_middle {d : Nat} {g : zG} {σ : zI} {K : Int32 → zI → Prop} (hg : zGA g) {l1 : Int32} {l2 : Int32} (h : (if (l1 < 1 : Prop) then K (-2) σ else (if (99 < l1 : Prop) then K (-2) σ else (if (l2 < 0 : Prop) then K (-2) σ else (if (l2 ≤ 1 : Prop) then zCV mX6_lay d [.ref 28, .ref 1, .int (σ 0 8), .int l1] g σ (fun σ1 => p_X7_middle_47 d g K σ1 l2 (-1) 0 0) else K (-2) σ))))) : zCI mX7_middle (d + 1) [.ref 0, .int l1, .int l2] g σ K := by
  refine c_of_x pn_mX7_middle rfl (Nat.le_of_ble_eq_true rfl) ?_
  change zX _ _ 0 0 0 [.ref 0, .int l1, .int l2] [] g σ _
  refine x_iload_n dX7_middle_0 rfl ?_
  refine x_iconst (v := 1) dX7_middle_1 rfl ?_
  refine x_icmp_lt (tgt := 20) dX7_middle_2 rfl (fun q1 => ?_) (fun q1 => ?_)
  · replace h := itT q1 h
    refine x_bipush (v := (-2)) dX7_middle_20 rfl ?_
    exact x_iret (S := []) dX7_middle_22 rfl rfl ⟨_, rfl, rfl, h⟩
  · replace h := itF q1 h
    refine x_iload_n dX7_middle_5 rfl ?_
    refine x_bipush (v := 99) dX7_middle_6 rfl ?_
    refine x_icmp_gt (tgt := 20) dX7_middle_8 rfl (fun q2 => ?_) (fun q2 => ?_)
    · replace h := itT q2 h
      refine x_bipush (v := (-2)) dX7_middle_20 rfl ?_
      exact x_iret (S := []) dX7_middle_22 rfl rfl ⟨_, rfl, rfl, h⟩
    · replace h := itF q2 h
      refine x_iload_n dX7_middle_11 rfl ?_
      refine x_if_lt (tgt := 20) dX7_middle_12 rfl (fun q3 => ?_) (fun q3 => ?_)
      · replace h := itT q3 h
        refine x_bipush (v := (-2)) dX7_middle_20 rfl ?_
        exact x_iret (S := []) dX7_middle_22 rfl rfl ⟨_, rfl, rfl, h⟩
      · replace h := itF q3 h
        refine x_iload_n dX7_middle_15 rfl ?_
        refine x_iconst (v := 1) dX7_middle_16 rfl ?_
        refine x_icmp_le (tgt := 23) dX7_middle_17 rfl (fun q4 => ?_) (fun q4 => ?_)
        · replace h := itT q4 h
          refine x_aload_n dX7_middle_23 rfl ?_
          refine x_getR dX7_middle_24 fl_X7_42 (gA_0 hg) rfl (gA_0_4 hg) ?_
          refine x_aload_n dX7_middle_27 rfl ?_
          refine x_getR dX7_middle_28 fl_X7_11 (gA_0 hg) rfl (gA_0_0 hg) ?_
          refine x_aload_n dX7_middle_31 rfl ?_
          refine x_getI dX7_middle_32 fl_X7_77 (gA_0 hg) rfl ?_
          refine x_iload_n dX7_middle_35 rfl ?_
          refine x_callV (Y2 := mX6_lay) (as := [.ref 1, .int (σ 0 8), .int l1]) (S := []) (kc2 := 0) (ks2 := 0) mv_mX6_lay (Or.inl ⟨6, _, rfl, rfl, (gA_28 hg)⟩) dX7_middle_36 lk_X7_160 mo_mX6_lay rfl rfl (Nat.le_of_ble_eq_true rfl) (Or.inl rfl) rfl rfl h ?_
          rintro _ _ σ1 ⟨rfl, rfl, h⟩
          change zX _ _ 0 0 39 _ [] _ _ _
          refine x_iconst (v := (-1)) dX7_middle_39 rfl ?_
          refine x_istore_n dX7_middle_40 rfl (Nat.le_of_ble_eq_true rfl) (L2 := [_, _, _, _]) rfl ?_
          refine x_iconst (v := 0) dX7_middle_41 rfl ?_
          refine x_istore dX7_middle_42 rfl (Nat.le_of_ble_eq_true rfl) (L2 := [_, _, _, _, _]) rfl ?_
          refine x_iconst (v := 0) dX7_middle_44 rfl ?_
          refine x_istore dX7_middle_45 rfl (Nat.le_of_ble_eq_true rfl) (L2 := [_, _, _, _, _, _]) rfl ?_
          exact x_wk (wC (wJ (wC (wC (wC (wC (wN _))))))) h
        · replace h := itF q4 h
          refine x_bipush (v := (-2)) dX7_middle_20 rfl ?_
          exact x_iret (S := []) dX7_middle_22 rfl rfl ⟨_, rfl, rfl, h⟩
set_option maxRecDepth 20000 in
theorem s_X7_middle_47 {d : Nat} {g : zG} {σ : zI} {K : Int32 → zI → Prop} (hg : zGA g) {l2 : Int32} {l3 : Int32} {l4 : Int32} {l5 : Int32} (h : (if ((σ 0 8) ≤ l5 : Prop) then (if (l2 = 0 : Prop) then K l3 σ else K l4 σ) else zCI mX6_partedWithout d [.ref 28, .int l5] g σ (fun v1 σ1 => (if (v1 ≤ l4 : Prop) then p_X7_middle_47 d g K σ1 l2 l3 l4 (l5 + 1) else p_X7_middle_47 d g K σ1 l2 l5 v1 (l5 + 1))))) : p_X7_middle_47 d g K σ l2 l3 l4 l5 := by
  refine x_iload dX7_middle_47 rfl ?_
  refine x_aload_n dX7_middle_49 rfl ?_
  refine x_getI dX7_middle_50 fl_X7_77 (gA_0 hg) rfl ?_
  refine x_icmp_ge (tgt := 87) dX7_middle_53 rfl (fun q1 => ?_) (fun q1 => ?_)
  · replace h := itT q1 h
    refine x_iload_n dX7_middle_87 rfl ?_
    refine x_if_ne (tgt := 95) dX7_middle_88 rfl (fun q2 => ?_) (fun q2 => ?_)
    · replace h := itF q2 h
      refine x_iload dX7_middle_95 rfl ?_
      exact x_iret (S := []) dX7_middle_97 rfl rfl ⟨_, rfl, rfl, h⟩
    · replace h := itT q2 h
      refine x_iload_n dX7_middle_91 rfl ?_
      refine x_goto (tgt := 97) dX7_middle_92 rfl ?_
      exact x_iret (S := []) dX7_middle_97 rfl rfl ⟨_, rfl, rfl, h⟩
  · replace h := itF q1 h
    refine x_aload_n dX7_middle_56 rfl ?_
    refine x_getR dX7_middle_57 fl_X7_42 (gA_0 hg) rfl (gA_0_4 hg) ?_
    refine x_iload dX7_middle_60 rfl ?_
    refine x_callV (Y2 := mX6_partedWithout) (as := [.int l5]) (S := []) (kc2 := 0) (ks2 := 0) mv_mX6_partedWithout (Or.inl ⟨6, _, rfl, rfl, (gA_28 hg)⟩) dX7_middle_62 lk_X7_191 mo_mX6_partedWithout rfl rfl (Nat.le_of_ble_eq_true rfl) (Or.inl rfl) rfl rfl h ?_
    rintro _ _ σ1 ⟨v1, rfl, rfl, h⟩
    change zX _ _ 0 0 65 _ [.int v1] _ _ _
    refine x_istore dX7_middle_65 rfl (Nat.le_of_ble_eq_true rfl) (L2 := [_, _, _, _, _, _, _]) rfl ?_
    refine x_iload dX7_middle_67 rfl ?_
    refine x_iload dX7_middle_69 rfl ?_
    refine x_icmp_le (tgt := 81) dX7_middle_71 rfl (fun q2 => ?_) (fun q2 => ?_)
    · replace h := itT q2 h
      refine x_iinc dX7_middle_81 rfl (v := l5 + 1) rfl rfl (Nat.le_of_ble_eq_true rfl) (L2 := [_, _, _, _, _, _, _]) rfl ?_
      refine x_goto (tgt := 47) dX7_middle_84 rfl ?_
      exact x_wk (wC (wJ (wC (wC (wC (wC (wN _))))))) h
    · replace h := itF q2 h
      refine x_iload dX7_middle_74 rfl ?_
      refine x_istore dX7_middle_76 rfl (Nat.le_of_ble_eq_true rfl) (L2 := [_, _, _, _, _, _, _]) rfl ?_
      refine x_iload dX7_middle_78 rfl ?_
      refine x_istore_n dX7_middle_80 rfl (Nat.le_of_ble_eq_true rfl) (L2 := [_, _, _, _, _, _, _]) rfl ?_
      refine x_iinc dX7_middle_81 rfl (v := l5 + 1) rfl rfl (Nat.le_of_ble_eq_true rfl) (L2 := [_, _, _, _, _, _, _]) rfl ?_
      refine x_goto (tgt := 47) dX7_middle_84 rfl ?_
      exact x_wk (wC (wJ (wC (wC (wC (wC (wN _))))))) h
abbrev p_X7_leave_31 (d : Nat) (g : zG) (K : Int32 → zI → Prop) (σ : zI) (l1 : Int32) (l2 : Int32) (l3 : Nat) (l4 : Int32) (l5 : Int32) (l6 : Int32) : Prop := zX mX7_leave (d + 1) 0 0 31 [.ref 0, .int l1, .int l2, .ref l3, .int l4, .int l5, .int l6] [] g σ (zqI g K)
set_option maxRecDepth 20000 in
theorem s_X7_leave {d : Nat} {g : zG} {σ : zI} {K : Int32 → zI → Prop} (hg : zGA g) {l1 : Int32} {l2 : Int32} (h : zCR mX7_heirAt d [.ref 0, .int l1] g σ (fun x1 σ1 => match x1 with | none => K (-2) σ1 | some r1 => zOb g r1 0 ∧ (if (l2 < 0 : Prop) then K (-2) σ1 else (if (l2 ≤ 1 : Prop) then p_X7_leave_31 d g K σ1 l1 l2 r1 (-1) (-1) 0 else K (-2) σ1)))) : zCI mX7_leave (d + 1) [.ref 0, .int l1, .int l2] g σ K := by
  refine c_of_x pn_mX7_leave rfl (Nat.le_of_ble_eq_true rfl) ?_
  change zX _ _ 0 0 0 [.ref 0, .int l1, .int l2] [] g σ _
  refine x_aload_n dX7_leave_0 rfl ?_
  refine x_iload_n dX7_leave_1 rfl ?_
  refine x_callV (Y2 := mX7_heirAt) (as := [.int l1]) (S := []) (kc2 := 0) (ks2 := 0) mv_mX7_heirAt (Or.inl ⟨7, _, rfl, rfl, (gA_0 hg)⟩) dX7_leave_2 lk_X7_66 mo_mX7_heirAt rfl rfl (Nat.le_of_ble_eq_true rfl) (Or.inl rfl) rfl rfl h ?_
  rintro _ _ σ1 ⟨x1, rfl, rfl, h⟩
  rcases x1 with _ | r1
  · dsimp only at h
    change zX _ _ 0 0 5 _ [.null] _ _ _
    refine x_astore_nN dX7_leave_5 rfl (Nat.le_of_ble_eq_true rfl) (L2 := [_, _, _, _]) rfl ?_
    refine x_aload_nN dX7_leave_6 rfl ?_
    refine x_ifnullN (tgt := 19) dX7_leave_7 rfl ?_
    refine x_bipush (v := (-2)) dX7_leave_19 rfl ?_
    exact x_iret (S := []) dX7_leave_21 rfl rfl ⟨_, rfl, rfl, h⟩
  · dsimp only at h
    obtain ⟨q1, h⟩ := h
    change zX _ _ 0 0 5 _ [.ref r1] _ _ _
    refine x_astore_n dX7_leave_5 rfl (Nat.le_of_ble_eq_true rfl) (L2 := [_, _, _, _]) rfl ?_
    refine x_aload_n dX7_leave_6 rfl ?_
    refine x_ifnull dX7_leave_7 ?_
    refine x_iload_n dX7_leave_10 rfl ?_
    refine x_if_lt (tgt := 19) dX7_leave_11 rfl (fun q2 => ?_) (fun q2 => ?_)
    · replace h := itT q2 h
      refine x_bipush (v := (-2)) dX7_leave_19 rfl ?_
      exact x_iret (S := []) dX7_leave_21 rfl rfl ⟨_, rfl, rfl, h⟩
    · replace h := itF q2 h
      refine x_iload_n dX7_leave_14 rfl ?_
      refine x_iconst (v := 1) dX7_leave_15 rfl ?_
      refine x_icmp_le (tgt := 22) dX7_leave_16 rfl (fun q3 => ?_) (fun q3 => ?_)
      · replace h := itT q3 h
        refine x_iconst (v := (-1)) dX7_leave_22 rfl ?_
        refine x_istore dX7_leave_23 rfl (Nat.le_of_ble_eq_true rfl) (L2 := [_, _, _, _, _]) rfl ?_
        refine x_iconst (v := (-1)) dX7_leave_25 rfl ?_
        refine x_istore dX7_leave_26 rfl (Nat.le_of_ble_eq_true rfl) (L2 := [_, _, _, _, _, _]) rfl ?_
        refine x_iconst (v := 0) dX7_leave_28 rfl ?_
        refine x_istore dX7_leave_29 rfl (Nat.le_of_ble_eq_true rfl) (L2 := [_, _, _, _, _, _, _]) rfl ?_
        exact h
      · replace h := itF q3 h
        refine x_bipush (v := (-2)) dX7_leave_19 rfl ?_
        exact x_iret (S := []) dX7_leave_21 rfl rfl ⟨_, rfl, rfl, h⟩
set_option maxRecDepth 20000 in
theorem s_X7_leave_31 {d : Nat} {g : zG} {σ : zI} {K : Int32 → zI → Prop} (hg : zGA g) {l1 : Int32} {l2 : Int32} {l3 : Nat} (h_l3 : zOb g l3 0) {l4 : Int32} {l5 : Int32} {l6 : Int32} (h : (if ((σ 0 8) ≤ l6 : Prop) then (if (l2 = 0 : Prop) then K l4 σ else K l5 σ) else (if (l6 = l1 : Prop) then p_X7_leave_31 d g K σ l1 l2 l3 l4 l5 (l6 + 1) else zCR mX7_heirAt d [.ref 0, .int l6] g σ (fun x1 σ1 => match x1 with | none => zCI mX7_worthOfLeaving d [.ref 0, .ref l3, .null] g σ1 (fun v1 σ2 => (if (l4 = (-1) : Prop) then p_X7_leave_31 d g K σ2 l1 l2 l3 l6 v1 (l6 + 1) else (if (l5 ≤ v1 : Prop) then p_X7_leave_31 d g K σ2 l1 l2 l3 l4 l5 (l6 + 1) else p_X7_leave_31 d g K σ2 l1 l2 l3 l6 v1 (l6 + 1)))) | some r1 => zOb g r1 0 ∧ zCI mX7_worthOfLeaving d [.ref 0, .ref l3, .ref r1] g σ1 (fun v1 σ2 => (if (l4 = (-1) : Prop) then p_X7_leave_31 d g K σ2 l1 l2 l3 l6 v1 (l6 + 1) else (if (l5 ≤ v1 : Prop) then p_X7_leave_31 d g K σ2 l1 l2 l3 l4 l5 (l6 + 1) else p_X7_leave_31 d g K σ2 l1 l2 l3 l6 v1 (l6 + 1)))))))) : p_X7_leave_31 d g K σ l1 l2 l3 l4 l5 l6 := by
  refine x_iload dX7_leave_31 rfl ?_
  refine x_aload_n dX7_leave_33 rfl ?_
  refine x_getI dX7_leave_34 fl_X7_77 (gA_0 hg) rfl ?_
  refine x_icmp_ge (tgt := 86) dX7_leave_37 rfl (fun q1 => ?_) (fun q1 => ?_)
  · replace h := itT q1 h
    refine x_iload_n dX7_leave_86 rfl ?_
    refine x_if_ne (tgt := 95) dX7_leave_87 rfl (fun q2 => ?_) (fun q2 => ?_)
    · replace h := itF q2 h
      refine x_iload dX7_leave_95 rfl ?_
      exact x_iret (S := []) dX7_leave_97 rfl rfl ⟨_, rfl, rfl, h⟩
    · replace h := itT q2 h
      refine x_iload dX7_leave_90 rfl ?_
      refine x_goto (tgt := 97) dX7_leave_92 rfl ?_
      exact x_iret (S := []) dX7_leave_97 rfl rfl ⟨_, rfl, rfl, h⟩
  · replace h := itF q1 h
    refine x_iload dX7_leave_40 rfl ?_
    refine x_iload_n dX7_leave_42 rfl ?_
    refine x_icmp_eq (tgt := 80) dX7_leave_43 rfl (fun q2 => ?_) (fun q2 => ?_)
    · replace h := itT q2 h
      refine x_iinc dX7_leave_80 rfl (v := l6 + 1) rfl rfl (Nat.le_of_ble_eq_true rfl) (L2 := [_, _, _, _, _, _, _]) rfl ?_
      refine x_goto (tgt := 31) dX7_leave_83 rfl ?_
      exact h
    · replace h := itF q2 h
      refine x_aload_n dX7_leave_46 rfl ?_
      refine x_aload_n dX7_leave_47 rfl ?_
      refine x_aload_n dX7_leave_48 rfl ?_
      refine x_iload dX7_leave_49 rfl ?_
      refine x_callV (Y2 := mX7_heirAt) (as := [.int l6]) (S := [.ref l3, .ref 0]) (kc2 := 0) (ks2 := 0) mv_mX7_heirAt (Or.inl ⟨7, _, rfl, rfl, (gA_0 hg)⟩) dX7_leave_51 lk_X7_66 mo_mX7_heirAt rfl rfl (Nat.le_of_ble_eq_true rfl) (Or.inl rfl) rfl rfl h ?_
      rintro _ _ σ1 ⟨x1, rfl, rfl, h⟩
      rcases x1 with _ | r1
      · dsimp only at h
        change zX _ _ 0 0 54 _ [.null, .ref l3, .ref 0] _ _ _
        refine x_callV (Y2 := mX7_worthOfLeaving) (as := [.ref l3, .null]) (S := []) (kc2 := 0) (ks2 := 0) mv_mX7_worthOfLeaving (Or.inl ⟨7, _, rfl, rfl, (gA_0 hg)⟩) dX7_leave_54 lk_X7_194 mo_mX7_worthOfLeaving rfl rfl (Nat.le_of_ble_eq_true rfl) (Or.inl rfl) rfl rfl h ?_
        rintro _ _ σ2 ⟨v1, rfl, rfl, h⟩
        change zX _ _ 0 0 57 _ [.int v1] _ _ _
        refine x_istore dX7_leave_57 rfl (Nat.le_of_ble_eq_true rfl) (L2 := [_, _, _, _, _, _, _, _]) rfl ?_
        refine x_iload dX7_leave_59 rfl ?_
        refine x_iconst (v := (-1)) dX7_leave_61 rfl ?_
        refine x_icmp_eq (tgt := 72) dX7_leave_62 rfl (fun q4 => ?_) (fun q4 => ?_)
        · replace h := itT q4 h
          refine x_iload dX7_leave_72 rfl ?_
          refine x_istore dX7_leave_74 rfl (Nat.le_of_ble_eq_true rfl) (L2 := [_, _, _, _, _, _, _, _]) rfl ?_
          refine x_iload dX7_leave_76 rfl ?_
          refine x_istore dX7_leave_78 rfl (Nat.le_of_ble_eq_true rfl) (L2 := [_, _, _, _, _, _, _, _]) rfl ?_
          refine x_iinc dX7_leave_80 rfl (v := l6 + 1) rfl rfl (Nat.le_of_ble_eq_true rfl) (L2 := [_, _, _, _, _, _, _, _]) rfl ?_
          refine x_goto (tgt := 31) dX7_leave_83 rfl ?_
          exact x_wk (wC (wC (wC (wC (wC (wC (wC (wN _)))))))) h
        · replace h := itF q4 h
          refine x_iload dX7_leave_65 rfl ?_
          refine x_iload dX7_leave_67 rfl ?_
          refine x_icmp_ge (tgt := 80) dX7_leave_69 rfl (fun q5 => ?_) (fun q5 => ?_)
          · replace h := itT q5 h
            refine x_iinc dX7_leave_80 rfl (v := l6 + 1) rfl rfl (Nat.le_of_ble_eq_true rfl) (L2 := [_, _, _, _, _, _, _, _]) rfl ?_
            refine x_goto (tgt := 31) dX7_leave_83 rfl ?_
            exact x_wk (wC (wC (wC (wC (wC (wC (wC (wN _)))))))) h
          · replace h := itF q5 h
            refine x_iload dX7_leave_72 rfl ?_
            refine x_istore dX7_leave_74 rfl (Nat.le_of_ble_eq_true rfl) (L2 := [_, _, _, _, _, _, _, _]) rfl ?_
            refine x_iload dX7_leave_76 rfl ?_
            refine x_istore dX7_leave_78 rfl (Nat.le_of_ble_eq_true rfl) (L2 := [_, _, _, _, _, _, _, _]) rfl ?_
            refine x_iinc dX7_leave_80 rfl (v := l6 + 1) rfl rfl (Nat.le_of_ble_eq_true rfl) (L2 := [_, _, _, _, _, _, _, _]) rfl ?_
            refine x_goto (tgt := 31) dX7_leave_83 rfl ?_
            exact x_wk (wC (wC (wC (wC (wC (wC (wC (wN _)))))))) h
      · dsimp only at h
        obtain ⟨q3, h⟩ := h
        change zX _ _ 0 0 54 _ [.ref r1, .ref l3, .ref 0] _ _ _
        refine x_callV (Y2 := mX7_worthOfLeaving) (as := [.ref l3, .ref r1]) (S := []) (kc2 := 0) (ks2 := 0) mv_mX7_worthOfLeaving (Or.inl ⟨7, _, rfl, rfl, (gA_0 hg)⟩) dX7_leave_54 lk_X7_194 mo_mX7_worthOfLeaving rfl rfl (Nat.le_of_ble_eq_true rfl) (Or.inl rfl) rfl rfl h ?_
        rintro _ _ σ2 ⟨v1, rfl, rfl, h⟩
        change zX _ _ 0 0 57 _ [.int v1] _ _ _
        refine x_istore dX7_leave_57 rfl (Nat.le_of_ble_eq_true rfl) (L2 := [_, _, _, _, _, _, _, _]) rfl ?_
        refine x_iload dX7_leave_59 rfl ?_
        refine x_iconst (v := (-1)) dX7_leave_61 rfl ?_
        refine x_icmp_eq (tgt := 72) dX7_leave_62 rfl (fun q4 => ?_) (fun q4 => ?_)
        · replace h := itT q4 h
          refine x_iload dX7_leave_72 rfl ?_
          refine x_istore dX7_leave_74 rfl (Nat.le_of_ble_eq_true rfl) (L2 := [_, _, _, _, _, _, _, _]) rfl ?_
          refine x_iload dX7_leave_76 rfl ?_
          refine x_istore dX7_leave_78 rfl (Nat.le_of_ble_eq_true rfl) (L2 := [_, _, _, _, _, _, _, _]) rfl ?_
          refine x_iinc dX7_leave_80 rfl (v := l6 + 1) rfl rfl (Nat.le_of_ble_eq_true rfl) (L2 := [_, _, _, _, _, _, _, _]) rfl ?_
          refine x_goto (tgt := 31) dX7_leave_83 rfl ?_
          exact x_wk (wC (wC (wC (wC (wC (wC (wC (wN _)))))))) h
        · replace h := itF q4 h
          refine x_iload dX7_leave_65 rfl ?_
          refine x_iload dX7_leave_67 rfl ?_
          refine x_icmp_ge (tgt := 80) dX7_leave_69 rfl (fun q5 => ?_) (fun q5 => ?_)
          · replace h := itT q5 h
            refine x_iinc dX7_leave_80 rfl (v := l6 + 1) rfl rfl (Nat.le_of_ble_eq_true rfl) (L2 := [_, _, _, _, _, _, _, _]) rfl ?_
            refine x_goto (tgt := 31) dX7_leave_83 rfl ?_
            exact x_wk (wC (wC (wC (wC (wC (wC (wC (wN _)))))))) h
          · replace h := itF q5 h
            refine x_iload dX7_leave_72 rfl ?_
            refine x_istore dX7_leave_74 rfl (Nat.le_of_ble_eq_true rfl) (L2 := [_, _, _, _, _, _, _, _]) rfl ?_
            refine x_iload dX7_leave_76 rfl ?_
            refine x_istore dX7_leave_78 rfl (Nat.le_of_ble_eq_true rfl) (L2 := [_, _, _, _, _, _, _, _]) rfl ?_
            refine x_iinc dX7_leave_80 rfl (v := l6 + 1) rfl rfl (Nat.le_of_ble_eq_true rfl) (L2 := [_, _, _, _, _, _, _, _]) rfl ?_
            refine x_goto (tgt := 31) dX7_leave_83 rfl ?_
            exact x_wk (wC (wC (wC (wC (wC (wC (wC (wN _)))))))) h
abbrev p_X7_worthOfLeaving_35 (d : Nat) (g : zG) (K : Int32 → zI → Prop) (σ : zI) (l1 : Nat) (l2 : Nat) (l3 : Int32) (l4 : Int32) : Prop := zX mX7_worthOfLeaving (d + 1) 0 0 35 [.ref 0, .ref l1, .ref l2, .int l3, .int l4] [] g σ (zqI g K)
set_option maxRecDepth 20000 in
theorem s_X7_worthOfLeaving {d : Nat} {g : zG} {σ : zI} {K : Int32 → zI → Prop} (hg : zGA g) {l1 : Nat} (h1 : zOb g l1 0) {l2 : Nat} (h2 : zOb g l2 0) (h : zCV mX0_become d [.ref 41, .ref l2] g σ (fun σ1 => p_X7_worthOfLeaving_35 d g K (zsI σ1 41 3 ((σ1 l2 3) ||| (σ1 l1 3))) l1 l2 0 0)) : zCI mX7_worthOfLeaving (d + 1) [.ref 0, .ref l1, .ref l2] g σ K := by
  refine c_of_x pn_mX7_worthOfLeaving rfl (Nat.le_of_ble_eq_true rfl) ?_
  change zX _ _ 0 0 0 [.ref 0, .ref l1, .ref l2] [] g σ _
  refine x_aload_n dX7_worthOfLeaving_0 rfl ?_
  refine x_ifnonnull (tgt := 6) dX7_worthOfLeaving_1 rfl ?_
  refine x_aload_n dX7_worthOfLeaving_6 rfl ?_
  refine x_getR dX7_worthOfLeaving_7 fl_X7_54 (gA_0 hg) rfl (gA_0_6 hg) ?_
  refine x_aload_n dX7_worthOfLeaving_10 rfl ?_
  refine x_callV (Y2 := mX0_become) (as := [.ref l2]) (S := []) (kc2 := 0) (ks2 := 0) mv_mX0_become (Or.inl ⟨0, _, rfl, rfl, (gA_41 hg)⟩) dX7_worthOfLeaving_11 lk_X7_198 mo_mX0_become rfl rfl (Nat.le_of_ble_eq_true rfl) (Or.inl rfl) rfl rfl h ?_
  rintro _ _ σ1 ⟨rfl, rfl, h⟩
  change zX _ _ 0 0 14 _ [] _ _ _
  refine x_aload_n dX7_worthOfLeaving_14 rfl ?_
  refine x_getR dX7_worthOfLeaving_15 fl_X7_54 (gA_0 hg) rfl (gA_0_6 hg) ?_
  refine x_aload_n dX7_worthOfLeaving_18 rfl ?_
  refine x_getI dX7_worthOfLeaving_19 fl_X7_90 h2 rfl ?_
  refine x_aload_n dX7_worthOfLeaving_22 rfl ?_
  refine x_getI dX7_worthOfLeaving_23 fl_X7_90 h1 rfl ?_
  refine x_ior dX7_worthOfLeaving_26 ?_
  refine x_putI dX7_worthOfLeaving_27 fl_X7_90 (gA_41 hg) rfl rfl ?_
  refine x_iconst (v := 0) dX7_worthOfLeaving_30 rfl ?_
  refine x_istore_n dX7_worthOfLeaving_31 rfl (Nat.le_of_ble_eq_true rfl) (L2 := [_, _, _, _]) rfl ?_
  refine x_iconst (v := 0) dX7_worthOfLeaving_32 rfl ?_
  refine x_istore dX7_worthOfLeaving_33 rfl (Nat.le_of_ble_eq_true rfl) (L2 := [_, _, _, _, _]) rfl ?_
  exact h
set_option maxRecDepth 20000 in
theorem s_X7_worthOfLeaving_35 {d : Nat} {g : zG} {σ : zI} {K : Int32 → zI → Prop} (hg : zGA g) {l1 : Nat} (h_l1 : zOb g l1 0) {l2 : Nat} (h_l2 : zOb g l2 0) {l3 : Int32} {l4 : Int32} (h : (if ((σ 0 8) ≤ l4 : Prop) then K l3 σ else zCR mX7_heirAt d [.ref 0, .int l4] g σ (fun x1 σ1 => match x1 with | none => p_X7_worthOfLeaving_35 d g K σ1 l1 l2 l3 (l4 + 1) | some r1 => zOb g r1 0 ∧ (if ((r1 : Nat) = l2 : Prop) then p_X7_worthOfLeaving_35 d g K σ1 l1 l2 l3 (l4 + 1) else (if ((r1 : Nat) = l1 : Prop) then p_X7_worthOfLeaving_35 d g K σ1 l1 l2 l3 (l4 + 1) else zCI mX3_hindered d [.ref 22, .ref 41, .ref r1, .int 2] g σ1 (fun v1 σ2 => p_X7_worthOfLeaving_35 d g K σ2 l1 l2 (l3 + v1) (l4 + 1))))))) : p_X7_worthOfLeaving_35 d g K σ l1 l2 l3 l4 := by
  refine x_iload dX7_worthOfLeaving_35 rfl ?_
  refine x_aload_n dX7_worthOfLeaving_37 rfl ?_
  refine x_getI dX7_worthOfLeaving_38 fl_X7_77 (gA_0 hg) rfl ?_
  refine x_icmp_ge (tgt := 92) dX7_worthOfLeaving_41 rfl (fun q1 => ?_) (fun q1 => ?_)
  · replace h := itT q1 h
    refine x_iload_n dX7_worthOfLeaving_92 rfl ?_
    exact x_iret (S := []) dX7_worthOfLeaving_93 rfl rfl ⟨_, rfl, rfl, h⟩
  · replace h := itF q1 h
    refine x_aload_n dX7_worthOfLeaving_44 rfl ?_
    refine x_iload dX7_worthOfLeaving_45 rfl ?_
    refine x_callV (Y2 := mX7_heirAt) (as := [.int l4]) (S := []) (kc2 := 0) (ks2 := 0) mv_mX7_heirAt (Or.inl ⟨7, _, rfl, rfl, (gA_0 hg)⟩) dX7_worthOfLeaving_47 lk_X7_66 mo_mX7_heirAt rfl rfl (Nat.le_of_ble_eq_true rfl) (Or.inl rfl) rfl rfl h ?_
    rintro _ _ σ1 ⟨x1, rfl, rfl, h⟩
    rcases x1 with _ | r1
    · dsimp only at h
      change zX _ _ 0 0 50 _ [.null] _ _ _
      refine x_astoreN dX7_worthOfLeaving_50 rfl (Nat.le_of_ble_eq_true rfl) (L2 := [_, _, _, _, _, _]) rfl ?_
      refine x_aloadN dX7_worthOfLeaving_52 rfl ?_
      refine x_ifnullN (tgt := 86) dX7_worthOfLeaving_54 rfl ?_
      refine x_iinc dX7_worthOfLeaving_86 rfl (v := l4 + 1) rfl rfl (Nat.le_of_ble_eq_true rfl) (L2 := [_, _, _, _, _, _]) rfl ?_
      refine x_goto (tgt := 35) dX7_worthOfLeaving_89 rfl ?_
      exact x_wk (wC (wC (wC (wC (wC (wN _)))))) h
    · dsimp only at h
      obtain ⟨q2, h⟩ := h
      change zX _ _ 0 0 50 _ [.ref r1] _ _ _
      refine x_astore dX7_worthOfLeaving_50 rfl (Nat.le_of_ble_eq_true rfl) (L2 := [_, _, _, _, _, _]) rfl ?_
      refine x_aload dX7_worthOfLeaving_52 rfl ?_
      refine x_ifnull dX7_worthOfLeaving_54 ?_
      refine x_aload dX7_worthOfLeaving_57 rfl ?_
      refine x_aload_n dX7_worthOfLeaving_59 rfl ?_
      refine x_acmp_eq (tgt := 86) dX7_worthOfLeaving_60 q2.1 h_l2.1 rfl (fun q3 => ?_) (fun q3 => ?_)
      · replace h := itT q3 h
        refine x_iinc dX7_worthOfLeaving_86 rfl (v := l4 + 1) rfl rfl (Nat.le_of_ble_eq_true rfl) (L2 := [_, _, _, _, _, _]) rfl ?_
        refine x_goto (tgt := 35) dX7_worthOfLeaving_89 rfl ?_
        exact x_wk (wC (wC (wC (wC (wC (wN _)))))) h
      · replace h := itF q3 h
        refine x_aload dX7_worthOfLeaving_63 rfl ?_
        refine x_aload_n dX7_worthOfLeaving_65 rfl ?_
        refine x_acmp_eq (tgt := 86) dX7_worthOfLeaving_66 q2.1 h_l1.1 rfl (fun q4 => ?_) (fun q4 => ?_)
        · replace h := itT q4 h
          refine x_iinc dX7_worthOfLeaving_86 rfl (v := l4 + 1) rfl rfl (Nat.le_of_ble_eq_true rfl) (L2 := [_, _, _, _, _, _]) rfl ?_
          refine x_goto (tgt := 35) dX7_worthOfLeaving_89 rfl ?_
          exact x_wk (wC (wC (wC (wC (wC (wN _)))))) h
        · replace h := itF q4 h
          refine x_iload_n dX7_worthOfLeaving_69 rfl ?_
          refine x_aload_n dX7_worthOfLeaving_70 rfl ?_
          refine x_getR dX7_worthOfLeaving_71 fl_X7_33 (gA_0 hg) rfl (gA_0_3 hg) ?_
          refine x_aload_n dX7_worthOfLeaving_74 rfl ?_
          refine x_getR dX7_worthOfLeaving_75 fl_X7_54 (gA_0 hg) rfl (gA_0_6 hg) ?_
          refine x_aload dX7_worthOfLeaving_78 rfl ?_
          refine x_iconst (v := 2) dX7_worthOfLeaving_80 rfl ?_
          refine x_callV (Y2 := mX3_hindered) (as := [.ref 41, .ref r1, .int 2]) (S := [.int l3]) (kc2 := 0) (ks2 := 0) mv_mX3_hindered (Or.inl ⟨3, _, rfl, rfl, (gA_22 hg)⟩) dX7_worthOfLeaving_81 lk_X7_174 mo_mX3_hindered rfl rfl (Nat.le_of_ble_eq_true rfl) (Or.inl rfl) rfl rfl h ?_
          rintro _ _ σ2 ⟨v1, rfl, rfl, h⟩
          change zX _ _ 0 0 84 _ [.int v1, .int l3] _ _ _
          refine x_iadd dX7_worthOfLeaving_84 ?_
          refine x_istore_n dX7_worthOfLeaving_85 rfl (Nat.le_of_ble_eq_true rfl) (L2 := [_, _, _, _, _, _]) rfl ?_
          refine x_iinc dX7_worthOfLeaving_86 rfl (v := l4 + 1) rfl rfl (Nat.le_of_ble_eq_true rfl) (L2 := [_, _, _, _, _, _]) rfl ?_
          refine x_goto (tgt := 35) dX7_worthOfLeaving_89 rfl ?_
          exact x_wk (wC (wC (wC (wC (wC (wN _)))))) h
abbrev p_X7_buy_61 (d : Nat) (g : zG) (K : Int32 → zI → Prop) (σ : zI) (l3 : Int32) (l4 : Nat) (l5 : Nat) (l6 : Int32) (l7 : Int32) (l8 : Int32) : Prop := zX mX7_buy (d + 1) 0 0 61 [.ref 0, .retAddr 0, .retAddr 0, .int l3, .ref l4, .ref l5, .int l6, .int l7, .int l8] [] g σ (zqI g K)
set_option maxRecDepth 20000 in
theorem s_X7_buy {d : Nat} {g : zG} {σ : zI} {K : Int32 → zI → Prop} (hg : zGA g) {l1 : Int32} {l2 : Int32} {l3 : Int32} (h : zCR mX7_heirAt d [.ref 0, .int l1] g σ (fun x1 σ1 => match x1 with | none => zCR mX7_heirAt d [.ref 0, .int l2] g σ1 (fun x2 σ2 => match x2 with | none => K (-2) σ2 | some r2 => zOb g r2 0 ∧ K (-2) σ2) | some r1 => zOb g r1 0 ∧ zCR mX7_heirAt d [.ref 0, .int l2] g σ1 (fun x2 σ2 => match x2 with | none => K (-2) σ2 | some r2 => zOb g r2 0 ∧ (if ((r1 : Nat) = r2 : Prop) then K (-2) σ2 else (if (l3 < 0 : Prop) then K (-2) σ2 else (if (l3 ≤ 1 : Prop) then zCV mX0_become d [.ref 41, .ref r1] g σ2 (fun σ3 => p_X7_buy_61 d g K σ3 l3 r1 r2 (-1) (-1) 1) else K (-2) σ2)))))) : zCI mX7_buy (d + 1) [.ref 0, .int l1, .int l2, .int l3] g σ K := by
  refine c_of_x pn_mX7_buy rfl (Nat.le_of_ble_eq_true rfl) ?_
  change zX _ _ 0 0 0 [.ref 0, .int l1, .int l2, .int l3] [] g σ _
  refine x_aload_n dX7_buy_0 rfl ?_
  refine x_iload_n dX7_buy_1 rfl ?_
  refine x_callV (Y2 := mX7_heirAt) (as := [.int l1]) (S := []) (kc2 := 0) (ks2 := 0) mv_mX7_heirAt (Or.inl ⟨7, _, rfl, rfl, (gA_0 hg)⟩) dX7_buy_2 lk_X7_66 mo_mX7_heirAt rfl rfl (Nat.le_of_ble_eq_true rfl) (Or.inl rfl) rfl rfl h ?_
  rintro _ _ σ1 ⟨x1, rfl, rfl, h⟩
  rcases x1 with _ | r1
  · dsimp only at h
    change zX _ _ 0 0 5 _ [.null] _ _ _
    refine x_astoreN dX7_buy_5 rfl (Nat.le_of_ble_eq_true rfl) (L2 := [_, _, _, _, _]) rfl ?_
    refine x_aload_n dX7_buy_7 rfl ?_
    refine x_iload_n dX7_buy_8 rfl ?_
    refine x_callV (Y2 := mX7_heirAt) (as := [.int l2]) (S := []) (kc2 := 0) (ks2 := 0) mv_mX7_heirAt (Or.inl ⟨7, _, rfl, rfl, (gA_0 hg)⟩) dX7_buy_9 lk_X7_66 mo_mX7_heirAt rfl rfl (Nat.le_of_ble_eq_true rfl) (Or.inl rfl) rfl rfl h ?_
    rintro _ _ σ2 ⟨x2, rfl, rfl, h⟩
    rcases x2 with _ | r2
    · dsimp only at h
      change zX _ _ 0 0 12 _ [.null] _ _ _
      refine x_astoreN dX7_buy_12 rfl (Nat.le_of_ble_eq_true rfl) (L2 := [_, _, _, _, _, _]) rfl ?_
      refine x_aloadN dX7_buy_14 rfl ?_
      refine x_ifnullN (tgt := 40) dX7_buy_16 rfl ?_
      refine x_bipush (v := (-2)) dX7_buy_40 rfl ?_
      exact x_iret (S := []) dX7_buy_42 rfl rfl ⟨_, rfl, rfl, h⟩
    · dsimp only at h
      obtain ⟨q2, h⟩ := h
      change zX _ _ 0 0 12 _ [.ref r2] _ _ _
      refine x_astore dX7_buy_12 rfl (Nat.le_of_ble_eq_true rfl) (L2 := [_, _, _, _, _, _]) rfl ?_
      refine x_aloadN dX7_buy_14 rfl ?_
      refine x_ifnullN (tgt := 40) dX7_buy_16 rfl ?_
      refine x_bipush (v := (-2)) dX7_buy_40 rfl ?_
      exact x_iret (S := []) dX7_buy_42 rfl rfl ⟨_, rfl, rfl, h⟩
  · dsimp only at h
    obtain ⟨q1, h⟩ := h
    change zX _ _ 0 0 5 _ [.ref r1] _ _ _
    refine x_astore dX7_buy_5 rfl (Nat.le_of_ble_eq_true rfl) (L2 := [_, _, _, _, _]) rfl ?_
    refine x_aload_n dX7_buy_7 rfl ?_
    refine x_iload_n dX7_buy_8 rfl ?_
    refine x_callV (Y2 := mX7_heirAt) (as := [.int l2]) (S := []) (kc2 := 0) (ks2 := 0) mv_mX7_heirAt (Or.inl ⟨7, _, rfl, rfl, (gA_0 hg)⟩) dX7_buy_9 lk_X7_66 mo_mX7_heirAt rfl rfl (Nat.le_of_ble_eq_true rfl) (Or.inl rfl) rfl rfl h ?_
    rintro _ _ σ2 ⟨x2, rfl, rfl, h⟩
    rcases x2 with _ | r2
    · dsimp only at h
      change zX _ _ 0 0 12 _ [.null] _ _ _
      refine x_astoreN dX7_buy_12 rfl (Nat.le_of_ble_eq_true rfl) (L2 := [_, _, _, _, _, _]) rfl ?_
      refine x_aload dX7_buy_14 rfl ?_
      refine x_ifnull dX7_buy_16 ?_
      refine x_aloadN dX7_buy_19 rfl ?_
      refine x_ifnullN (tgt := 40) dX7_buy_21 rfl ?_
      refine x_bipush (v := (-2)) dX7_buy_40 rfl ?_
      exact x_iret (S := []) dX7_buy_42 rfl rfl ⟨_, rfl, rfl, h⟩
    · dsimp only at h
      obtain ⟨q2, h⟩ := h
      change zX _ _ 0 0 12 _ [.ref r2] _ _ _
      refine x_astore dX7_buy_12 rfl (Nat.le_of_ble_eq_true rfl) (L2 := [_, _, _, _, _, _]) rfl ?_
      refine x_aload dX7_buy_14 rfl ?_
      refine x_ifnull dX7_buy_16 ?_
      refine x_aload dX7_buy_19 rfl ?_
      refine x_ifnull dX7_buy_21 ?_
      refine x_aload dX7_buy_24 rfl ?_
      refine x_aload dX7_buy_26 rfl ?_
      refine x_acmp_eq (tgt := 40) dX7_buy_28 q1.1 q2.1 rfl (fun q3 => ?_) (fun q3 => ?_)
      · replace h := itT q3 h
        refine x_bipush (v := (-2)) dX7_buy_40 rfl ?_
        exact x_iret (S := []) dX7_buy_42 rfl rfl ⟨_, rfl, rfl, h⟩
      · replace h := itF q3 h
        refine x_iload_n dX7_buy_31 rfl ?_
        refine x_if_lt (tgt := 40) dX7_buy_32 rfl (fun q4 => ?_) (fun q4 => ?_)
        · replace h := itT q4 h
          refine x_bipush (v := (-2)) dX7_buy_40 rfl ?_
          exact x_iret (S := []) dX7_buy_42 rfl rfl ⟨_, rfl, rfl, h⟩
        · replace h := itF q4 h
          refine x_iload_n dX7_buy_35 rfl ?_
          refine x_iconst (v := 1) dX7_buy_36 rfl ?_
          refine x_icmp_le (tgt := 43) dX7_buy_37 rfl (fun q5 => ?_) (fun q5 => ?_)
          · replace h := itT q5 h
            refine x_iconst (v := (-1)) dX7_buy_43 rfl ?_
            refine x_istore dX7_buy_44 rfl (Nat.le_of_ble_eq_true rfl) (L2 := [_, _, _, _, _, _, _]) rfl ?_
            refine x_iconst (v := (-1)) dX7_buy_46 rfl ?_
            refine x_istore dX7_buy_47 rfl (Nat.le_of_ble_eq_true rfl) (L2 := [_, _, _, _, _, _, _, _]) rfl ?_
            refine x_aload_n dX7_buy_49 rfl ?_
            refine x_getR dX7_buy_50 fl_X7_54 (gA_0 hg) rfl (gA_0_6 hg) ?_
            refine x_aload dX7_buy_53 rfl ?_
            refine x_callV (Y2 := mX0_become) (as := [.ref r1]) (S := []) (kc2 := 0) (ks2 := 0) mv_mX0_become (Or.inl ⟨0, _, rfl, rfl, (gA_41 hg)⟩) dX7_buy_55 lk_X7_198 mo_mX0_become rfl rfl (Nat.le_of_ble_eq_true rfl) (Or.inl rfl) rfl rfl h ?_
            rintro _ _ σ3 ⟨rfl, rfl, h⟩
            change zX _ _ 0 0 58 _ [] _ _ _
            refine x_iconst (v := 1) dX7_buy_58 rfl ?_
            refine x_istore dX7_buy_59 rfl (Nat.le_of_ble_eq_true rfl) (L2 := [_, _, _, _, _, _, _, _, _]) rfl ?_
            exact x_wk (wC (wJ (wJ (wC (wC (wC (wC (wC (wC (wN _)))))))))) h
          · replace h := itF q5 h
            refine x_bipush (v := (-2)) dX7_buy_40 rfl ?_
            exact x_iret (S := []) dX7_buy_42 rfl rfl ⟨_, rfl, rfl, h⟩
set_option maxRecDepth 20000 in
theorem s_X7_buy_61 {d : Nat} {g : zG} {σ : zI} {K : Int32 → zI → Prop} (hg : zGA g) {l3 : Int32} {l4 : Nat} (h_l4 : zOb g l4 0) {l5 : Nat} (h_l5 : zOb g l5 0) {l6 : Int32} {l7 : Int32} {l8 : Int32} (h : (if (30 < l8 : Prop) then (if (l3 = 0 : Prop) then K l6 σ else K l7 σ) else zCI mX7_bit d [.int l8] g σ (fun v1 σ1 => zCI mX3_hindered d [.ref 22, .ref 41, .ref l5, .int 0] g (zsI σ1 41 3 ((σ l4 3) ||| v1)) (fun v2 σ2 => (if (l6 = (-1) : Prop) then p_X7_buy_61 d g K σ2 l3 l4 l5 l8 v2 (l8 + 1) else (if (l7 ≤ v2 : Prop) then p_X7_buy_61 d g K σ2 l3 l4 l5 l6 l7 (l8 + 1) else p_X7_buy_61 d g K σ2 l3 l4 l5 l8 v2 (l8 + 1))))))) : p_X7_buy_61 d g K σ l3 l4 l5 l6 l7 l8 := by
  refine x_iload dX7_buy_61 rfl ?_
  refine x_bipush (v := 30) dX7_buy_63 rfl ?_
  refine x_icmp_gt (tgt := 129) dX7_buy_65 rfl (fun q1 => ?_) (fun q1 => ?_)
  · replace h := itT q1 h
    refine x_iload_n dX7_buy_129 rfl ?_
    refine x_if_ne (tgt := 138) dX7_buy_130 rfl (fun q2 => ?_) (fun q2 => ?_)
    · replace h := itF q2 h
      refine x_iload dX7_buy_138 rfl ?_
      exact x_iret (S := []) dX7_buy_140 rfl rfl ⟨_, rfl, rfl, h⟩
    · replace h := itT q2 h
      refine x_iload dX7_buy_133 rfl ?_
      refine x_goto (tgt := 140) dX7_buy_135 rfl ?_
      exact x_iret (S := []) dX7_buy_140 rfl rfl ⟨_, rfl, rfl, h⟩
  · replace h := itF q1 h
    refine x_aload_n dX7_buy_68 rfl ?_
    refine x_getR dX7_buy_69 fl_X7_54 (gA_0 hg) rfl (gA_0_6 hg) ?_
    refine x_aload dX7_buy_72 rfl ?_
    refine x_getI dX7_buy_74 fl_X7_90 h_l4 rfl ?_
    refine x_iload dX7_buy_77 rfl ?_
    refine x_callS (Y2 := mX7_bit) (as := [.int l8]) (S := [.int (σ l4 3), .ref 41]) (kc2 := 0) (ks2 := 0) st_mX7_bit dX7_buy_79 lk_X7_101 mo_mX7_bit rfl rfl (Nat.le_of_ble_eq_true rfl) (Or.inl rfl) rfl rfl h ?_
    rintro _ _ σ1 ⟨v1, rfl, rfl, h⟩
    change zX _ _ 0 0 82 _ [.int v1, .int (σ l4 3), .ref 41] _ _ _
    refine x_ior dX7_buy_82 ?_
    refine x_putI dX7_buy_83 fl_X7_90 (gA_41 hg) rfl rfl ?_
    refine x_aload_n dX7_buy_86 rfl ?_
    refine x_getR dX7_buy_87 fl_X7_33 (gA_0 hg) rfl (gA_0_3 hg) ?_
    refine x_aload_n dX7_buy_90 rfl ?_
    refine x_getR dX7_buy_91 fl_X7_54 (gA_0 hg) rfl (gA_0_6 hg) ?_
    refine x_aload dX7_buy_94 rfl ?_
    refine x_iconst (v := 0) dX7_buy_96 rfl ?_
    refine x_callV (Y2 := mX3_hindered) (as := [.ref 41, .ref l5, .int 0]) (S := []) (kc2 := 0) (ks2 := 0) mv_mX3_hindered (Or.inl ⟨3, _, rfl, rfl, (gA_22 hg)⟩) dX7_buy_97 lk_X7_174 mo_mX3_hindered rfl rfl (Nat.le_of_ble_eq_true rfl) (Or.inl rfl) rfl rfl h ?_
    rintro _ _ σ2 ⟨v2, rfl, rfl, h⟩
    change zX _ _ 0 0 100 _ [.int v2] _ _ _
    refine x_istore dX7_buy_100 rfl (Nat.le_of_ble_eq_true rfl) (L2 := [_, _, _, _, _, _, _, _, _, _]) rfl ?_
    refine x_iload dX7_buy_102 rfl ?_
    refine x_iconst (v := (-1)) dX7_buy_104 rfl ?_
    refine x_icmp_eq (tgt := 115) dX7_buy_105 rfl (fun q2 => ?_) (fun q2 => ?_)
    · replace h := itT q2 h
      refine x_iload dX7_buy_115 rfl ?_
      refine x_istore dX7_buy_117 rfl (Nat.le_of_ble_eq_true rfl) (L2 := [_, _, _, _, _, _, _, _, _, _]) rfl ?_
      refine x_iload dX7_buy_119 rfl ?_
      refine x_istore dX7_buy_121 rfl (Nat.le_of_ble_eq_true rfl) (L2 := [_, _, _, _, _, _, _, _, _, _]) rfl ?_
      refine x_iinc dX7_buy_123 rfl (v := l8 + 1) rfl rfl (Nat.le_of_ble_eq_true rfl) (L2 := [_, _, _, _, _, _, _, _, _, _]) rfl ?_
      refine x_goto (tgt := 61) dX7_buy_126 rfl ?_
      exact x_wk (wC (wJ (wJ (wC (wC (wC (wC (wC (wC (wN _)))))))))) h
    · replace h := itF q2 h
      refine x_iload dX7_buy_108 rfl ?_
      refine x_iload dX7_buy_110 rfl ?_
      refine x_icmp_ge (tgt := 123) dX7_buy_112 rfl (fun q3 => ?_) (fun q3 => ?_)
      · replace h := itT q3 h
        refine x_iinc dX7_buy_123 rfl (v := l8 + 1) rfl rfl (Nat.le_of_ble_eq_true rfl) (L2 := [_, _, _, _, _, _, _, _, _, _]) rfl ?_
        refine x_goto (tgt := 61) dX7_buy_126 rfl ?_
        exact x_wk (wC (wJ (wJ (wC (wC (wC (wC (wC (wC (wN _)))))))))) h
      · replace h := itF q3 h
        refine x_iload dX7_buy_115 rfl ?_
        refine x_istore dX7_buy_117 rfl (Nat.le_of_ble_eq_true rfl) (L2 := [_, _, _, _, _, _, _, _, _, _]) rfl ?_
        refine x_iload dX7_buy_119 rfl ?_
        refine x_istore dX7_buy_121 rfl (Nat.le_of_ble_eq_true rfl) (L2 := [_, _, _, _, _, _, _, _, _, _]) rfl ?_
        refine x_iinc dX7_buy_123 rfl (v := l8 + 1) rfl rfl (Nat.le_of_ble_eq_true rfl) (L2 := [_, _, _, _, _, _, _, _, _, _]) rfl ?_
        refine x_goto (tgt := 61) dX7_buy_126 rfl ?_
        exact x_wk (wC (wJ (wJ (wC (wC (wC (wC (wC (wC (wN _)))))))))) h
abbrev p_X7_pawn_61 (d : Nat) (g : zG) (K : Int32 → zI → Prop) (σ : zI) (l3 : Int32) (l4 : Nat) (l5 : Nat) (l6 : Int32) (l7 : Int32) (l8 : Int32) : Prop := zX mX7_pawn (d + 1) 0 0 61 [.ref 0, .retAddr 0, .retAddr 0, .int l3, .ref l4, .ref l5, .int l6, .int l7, .int l8] [] g σ (zqI g K)
set_option maxRecDepth 20000 in
theorem s_X7_pawn {d : Nat} {g : zG} {σ : zI} {K : Int32 → zI → Prop} (hg : zGA g) {l1 : Int32} {l2 : Int32} {l3 : Int32} (h : zCR mX7_heirAt d [.ref 0, .int l1] g σ (fun x1 σ1 => match x1 with | none => zCR mX7_heirAt d [.ref 0, .int l2] g σ1 (fun x2 σ2 => match x2 with | none => K (-2) σ2 | some r2 => zOb g r2 0 ∧ K (-2) σ2) | some r1 => zOb g r1 0 ∧ zCR mX7_heirAt d [.ref 0, .int l2] g σ1 (fun x2 σ2 => match x2 with | none => K (-2) σ2 | some r2 => zOb g r2 0 ∧ (if ((r1 : Nat) = r2 : Prop) then K (-2) σ2 else (if (l3 < 0 : Prop) then K (-2) σ2 else (if (l3 ≤ 1 : Prop) then zCV mX0_become d [.ref 41, .ref r1] g σ2 (fun σ3 => p_X7_pawn_61 d g K σ3 l3 r1 r2 (-1) (-1) 1) else K (-2) σ2)))))) : zCI mX7_pawn (d + 1) [.ref 0, .int l1, .int l2, .int l3] g σ K := by
  refine c_of_x pn_mX7_pawn rfl (Nat.le_of_ble_eq_true rfl) ?_
  change zX _ _ 0 0 0 [.ref 0, .int l1, .int l2, .int l3] [] g σ _
  refine x_aload_n dX7_pawn_0 rfl ?_
  refine x_iload_n dX7_pawn_1 rfl ?_
  refine x_callV (Y2 := mX7_heirAt) (as := [.int l1]) (S := []) (kc2 := 0) (ks2 := 0) mv_mX7_heirAt (Or.inl ⟨7, _, rfl, rfl, (gA_0 hg)⟩) dX7_pawn_2 lk_X7_66 mo_mX7_heirAt rfl rfl (Nat.le_of_ble_eq_true rfl) (Or.inl rfl) rfl rfl h ?_
  rintro _ _ σ1 ⟨x1, rfl, rfl, h⟩
  rcases x1 with _ | r1
  · dsimp only at h
    change zX _ _ 0 0 5 _ [.null] _ _ _
    refine x_astoreN dX7_pawn_5 rfl (Nat.le_of_ble_eq_true rfl) (L2 := [_, _, _, _, _]) rfl ?_
    refine x_aload_n dX7_pawn_7 rfl ?_
    refine x_iload_n dX7_pawn_8 rfl ?_
    refine x_callV (Y2 := mX7_heirAt) (as := [.int l2]) (S := []) (kc2 := 0) (ks2 := 0) mv_mX7_heirAt (Or.inl ⟨7, _, rfl, rfl, (gA_0 hg)⟩) dX7_pawn_9 lk_X7_66 mo_mX7_heirAt rfl rfl (Nat.le_of_ble_eq_true rfl) (Or.inl rfl) rfl rfl h ?_
    rintro _ _ σ2 ⟨x2, rfl, rfl, h⟩
    rcases x2 with _ | r2
    · dsimp only at h
      change zX _ _ 0 0 12 _ [.null] _ _ _
      refine x_astoreN dX7_pawn_12 rfl (Nat.le_of_ble_eq_true rfl) (L2 := [_, _, _, _, _, _]) rfl ?_
      refine x_aloadN dX7_pawn_14 rfl ?_
      refine x_ifnullN (tgt := 40) dX7_pawn_16 rfl ?_
      refine x_bipush (v := (-2)) dX7_pawn_40 rfl ?_
      exact x_iret (S := []) dX7_pawn_42 rfl rfl ⟨_, rfl, rfl, h⟩
    · dsimp only at h
      obtain ⟨q2, h⟩ := h
      change zX _ _ 0 0 12 _ [.ref r2] _ _ _
      refine x_astore dX7_pawn_12 rfl (Nat.le_of_ble_eq_true rfl) (L2 := [_, _, _, _, _, _]) rfl ?_
      refine x_aloadN dX7_pawn_14 rfl ?_
      refine x_ifnullN (tgt := 40) dX7_pawn_16 rfl ?_
      refine x_bipush (v := (-2)) dX7_pawn_40 rfl ?_
      exact x_iret (S := []) dX7_pawn_42 rfl rfl ⟨_, rfl, rfl, h⟩
  · dsimp only at h
    obtain ⟨q1, h⟩ := h
    change zX _ _ 0 0 5 _ [.ref r1] _ _ _
    refine x_astore dX7_pawn_5 rfl (Nat.le_of_ble_eq_true rfl) (L2 := [_, _, _, _, _]) rfl ?_
    refine x_aload_n dX7_pawn_7 rfl ?_
    refine x_iload_n dX7_pawn_8 rfl ?_
    refine x_callV (Y2 := mX7_heirAt) (as := [.int l2]) (S := []) (kc2 := 0) (ks2 := 0) mv_mX7_heirAt (Or.inl ⟨7, _, rfl, rfl, (gA_0 hg)⟩) dX7_pawn_9 lk_X7_66 mo_mX7_heirAt rfl rfl (Nat.le_of_ble_eq_true rfl) (Or.inl rfl) rfl rfl h ?_
    rintro _ _ σ2 ⟨x2, rfl, rfl, h⟩
    rcases x2 with _ | r2
    · dsimp only at h
      change zX _ _ 0 0 12 _ [.null] _ _ _
      refine x_astoreN dX7_pawn_12 rfl (Nat.le_of_ble_eq_true rfl) (L2 := [_, _, _, _, _, _]) rfl ?_
      refine x_aload dX7_pawn_14 rfl ?_
      refine x_ifnull dX7_pawn_16 ?_
      refine x_aloadN dX7_pawn_19 rfl ?_
      refine x_ifnullN (tgt := 40) dX7_pawn_21 rfl ?_
      refine x_bipush (v := (-2)) dX7_pawn_40 rfl ?_
      exact x_iret (S := []) dX7_pawn_42 rfl rfl ⟨_, rfl, rfl, h⟩
    · dsimp only at h
      obtain ⟨q2, h⟩ := h
      change zX _ _ 0 0 12 _ [.ref r2] _ _ _
      refine x_astore dX7_pawn_12 rfl (Nat.le_of_ble_eq_true rfl) (L2 := [_, _, _, _, _, _]) rfl ?_
      refine x_aload dX7_pawn_14 rfl ?_
      refine x_ifnull dX7_pawn_16 ?_
      refine x_aload dX7_pawn_19 rfl ?_
      refine x_ifnull dX7_pawn_21 ?_
      refine x_aload dX7_pawn_24 rfl ?_
      refine x_aload dX7_pawn_26 rfl ?_
      refine x_acmp_eq (tgt := 40) dX7_pawn_28 q1.1 q2.1 rfl (fun q3 => ?_) (fun q3 => ?_)
      · replace h := itT q3 h
        refine x_bipush (v := (-2)) dX7_pawn_40 rfl ?_
        exact x_iret (S := []) dX7_pawn_42 rfl rfl ⟨_, rfl, rfl, h⟩
      · replace h := itF q3 h
        refine x_iload_n dX7_pawn_31 rfl ?_
        refine x_if_lt (tgt := 40) dX7_pawn_32 rfl (fun q4 => ?_) (fun q4 => ?_)
        · replace h := itT q4 h
          refine x_bipush (v := (-2)) dX7_pawn_40 rfl ?_
          exact x_iret (S := []) dX7_pawn_42 rfl rfl ⟨_, rfl, rfl, h⟩
        · replace h := itF q4 h
          refine x_iload_n dX7_pawn_35 rfl ?_
          refine x_iconst (v := 1) dX7_pawn_36 rfl ?_
          refine x_icmp_le (tgt := 43) dX7_pawn_37 rfl (fun q5 => ?_) (fun q5 => ?_)
          · replace h := itT q5 h
            refine x_iconst (v := (-1)) dX7_pawn_43 rfl ?_
            refine x_istore dX7_pawn_44 rfl (Nat.le_of_ble_eq_true rfl) (L2 := [_, _, _, _, _, _, _]) rfl ?_
            refine x_iconst (v := (-1)) dX7_pawn_46 rfl ?_
            refine x_istore dX7_pawn_47 rfl (Nat.le_of_ble_eq_true rfl) (L2 := [_, _, _, _, _, _, _, _]) rfl ?_
            refine x_aload_n dX7_pawn_49 rfl ?_
            refine x_getR dX7_pawn_50 fl_X7_54 (gA_0 hg) rfl (gA_0_6 hg) ?_
            refine x_aload dX7_pawn_53 rfl ?_
            refine x_callV (Y2 := mX0_become) (as := [.ref r1]) (S := []) (kc2 := 0) (ks2 := 0) mv_mX0_become (Or.inl ⟨0, _, rfl, rfl, (gA_41 hg)⟩) dX7_pawn_55 lk_X7_198 mo_mX0_become rfl rfl (Nat.le_of_ble_eq_true rfl) (Or.inl rfl) rfl rfl h ?_
            rintro _ _ σ3 ⟨rfl, rfl, h⟩
            change zX _ _ 0 0 58 _ [] _ _ _
            refine x_iconst (v := 1) dX7_pawn_58 rfl ?_
            refine x_istore dX7_pawn_59 rfl (Nat.le_of_ble_eq_true rfl) (L2 := [_, _, _, _, _, _, _, _, _]) rfl ?_
            exact x_wk (wC (wJ (wJ (wC (wC (wC (wC (wC (wC (wN _)))))))))) h
          · replace h := itF q5 h
            refine x_bipush (v := (-2)) dX7_pawn_40 rfl ?_
            exact x_iret (S := []) dX7_pawn_42 rfl rfl ⟨_, rfl, rfl, h⟩
set_option maxRecDepth 20000 in
theorem s_X7_pawn_61 {d : Nat} {g : zG} {σ : zI} {K : Int32 → zI → Prop} (hg : zGA g) {l3 : Int32} {l4 : Nat} (h_l4 : zOb g l4 0) {l5 : Nat} (h_l5 : zOb g l5 0) {l6 : Int32} {l7 : Int32} {l8 : Int32} (h : (if (30 < l8 : Prop) then (if (l3 = 0 : Prop) then K l6 σ else K l7 σ) else zCI mX7_has d [.int (σ l4 3), .int l8] g σ (fun v1 σ1 => (if (v1 = 0 : Prop) then p_X7_pawn_61 d g K σ1 l3 l4 l5 l6 l7 (l8 + 1) else zCI mX7_bit d [.int l8] g σ1 (fun v2 σ2 => zCI mX3_payable d [.ref 22, .ref 41, .ref l5] g (zsI σ2 41 3 ((σ1 l4 3) &&& (v2 ^^^ (-1)))) (fun v3 σ3 => (if (l6 = (-1) : Prop) then p_X7_pawn_61 d g K σ3 l3 l4 l5 l8 (99 - v3) (l8 + 1) else (if (l7 ≤ (99 - v3) : Prop) then p_X7_pawn_61 d g K σ3 l3 l4 l5 l6 l7 (l8 + 1) else p_X7_pawn_61 d g K σ3 l3 l4 l5 l8 (99 - v3) (l8 + 1))))))))) : p_X7_pawn_61 d g K σ l3 l4 l5 l6 l7 l8 := by
  refine x_iload dX7_pawn_61 rfl ?_
  refine x_bipush (v := 30) dX7_pawn_63 rfl ?_
  refine x_icmp_gt (tgt := 146) dX7_pawn_65 rfl (fun q1 => ?_) (fun q1 => ?_)
  · replace h := itT q1 h
    refine x_iload_n dX7_pawn_146 rfl ?_
    refine x_if_ne (tgt := 155) dX7_pawn_147 rfl (fun q2 => ?_) (fun q2 => ?_)
    · replace h := itF q2 h
      refine x_iload dX7_pawn_155 rfl ?_
      exact x_iret (S := []) dX7_pawn_157 rfl rfl ⟨_, rfl, rfl, h⟩
    · replace h := itT q2 h
      refine x_iload dX7_pawn_150 rfl ?_
      refine x_goto (tgt := 157) dX7_pawn_152 rfl ?_
      exact x_iret (S := []) dX7_pawn_157 rfl rfl ⟨_, rfl, rfl, h⟩
  · replace h := itF q1 h
    refine x_aload dX7_pawn_68 rfl ?_
    refine x_getI dX7_pawn_70 fl_X7_90 h_l4 rfl ?_
    refine x_iload dX7_pawn_73 rfl ?_
    refine x_callS (Y2 := mX7_has) (as := [.int (σ l4 3), .int l8]) (S := []) (kc2 := 0) (ks2 := 0) st_mX7_has dX7_pawn_75 lk_X7_97 mo_mX7_has rfl rfl (Nat.le_of_ble_eq_true rfl) (Or.inl rfl) rfl rfl h ?_
    rintro _ _ σ1 ⟨v1, rfl, rfl, h⟩
    change zX _ _ 0 0 78 _ [.int v1] _ _ _
    refine x_if_eq (tgt := 140) dX7_pawn_78 rfl (fun q2 => ?_) (fun q2 => ?_)
    · replace h := itT q2 h
      refine x_iinc dX7_pawn_140 rfl (v := l8 + 1) rfl rfl (Nat.le_of_ble_eq_true rfl) (L2 := [_, _, _, _, _, _, _, _, _]) rfl ?_
      refine x_goto (tgt := 61) dX7_pawn_143 rfl ?_
      exact h
    · replace h := itF q2 h
      refine x_aload_n dX7_pawn_81 rfl ?_
      refine x_getR dX7_pawn_82 fl_X7_54 (gA_0 hg) rfl (gA_0_6 hg) ?_
      refine x_aload dX7_pawn_85 rfl ?_
      refine x_getI dX7_pawn_87 fl_X7_90 h_l4 rfl ?_
      refine x_iload dX7_pawn_90 rfl ?_
      refine x_callS (Y2 := mX7_bit) (as := [.int l8]) (S := [.int (σ1 l4 3), .ref 41]) (kc2 := 0) (ks2 := 0) st_mX7_bit dX7_pawn_92 lk_X7_101 mo_mX7_bit rfl rfl (Nat.le_of_ble_eq_true rfl) (Or.inl rfl) rfl rfl h ?_
      rintro _ _ σ2 ⟨v2, rfl, rfl, h⟩
      change zX _ _ 0 0 95 _ [.int v2, .int (σ1 l4 3), .ref 41] _ _ _
      refine x_iconst (v := (-1)) dX7_pawn_95 rfl ?_
      refine x_ixor dX7_pawn_96 ?_
      refine x_iand dX7_pawn_97 ?_
      refine x_putI dX7_pawn_98 fl_X7_90 (gA_41 hg) rfl rfl ?_
      refine x_bipush (v := 99) dX7_pawn_101 rfl ?_
      refine x_aload_n dX7_pawn_103 rfl ?_
      refine x_getR dX7_pawn_104 fl_X7_33 (gA_0 hg) rfl (gA_0_3 hg) ?_
      refine x_aload_n dX7_pawn_107 rfl ?_
      refine x_getR dX7_pawn_108 fl_X7_54 (gA_0 hg) rfl (gA_0_6 hg) ?_
      refine x_aload dX7_pawn_111 rfl ?_
      refine x_callV (Y2 := mX3_payable) (as := [.ref 41, .ref l5]) (S := [.int 99]) (kc2 := 0) (ks2 := 0) mv_mX3_payable (Or.inl ⟨3, _, rfl, rfl, (gA_22 hg)⟩) dX7_pawn_113 lk_X7_202 mo_mX3_payable rfl rfl (Nat.le_of_ble_eq_true rfl) (Or.inl rfl) rfl rfl h ?_
      rintro _ _ σ3 ⟨v3, rfl, rfl, h⟩
      change zX _ _ 0 0 116 _ [.int v3, .int 99] _ _ _
      refine x_isub dX7_pawn_116 ?_
      refine x_istore dX7_pawn_117 rfl (Nat.le_of_ble_eq_true rfl) (L2 := [_, _, _, _, _, _, _, _, _, _]) rfl ?_
      refine x_iload dX7_pawn_119 rfl ?_
      refine x_iconst (v := (-1)) dX7_pawn_121 rfl ?_
      refine x_icmp_eq (tgt := 132) dX7_pawn_122 rfl (fun q3 => ?_) (fun q3 => ?_)
      · replace h := itT q3 h
        refine x_iload dX7_pawn_132 rfl ?_
        refine x_istore dX7_pawn_134 rfl (Nat.le_of_ble_eq_true rfl) (L2 := [_, _, _, _, _, _, _, _, _, _]) rfl ?_
        refine x_iload dX7_pawn_136 rfl ?_
        refine x_istore dX7_pawn_138 rfl (Nat.le_of_ble_eq_true rfl) (L2 := [_, _, _, _, _, _, _, _, _, _]) rfl ?_
        refine x_iinc dX7_pawn_140 rfl (v := l8 + 1) rfl rfl (Nat.le_of_ble_eq_true rfl) (L2 := [_, _, _, _, _, _, _, _, _, _]) rfl ?_
        refine x_goto (tgt := 61) dX7_pawn_143 rfl ?_
        exact x_wk (wC (wJ (wJ (wC (wC (wC (wC (wC (wC (wN _)))))))))) h
      · replace h := itF q3 h
        refine x_iload dX7_pawn_125 rfl ?_
        refine x_iload dX7_pawn_127 rfl ?_
        refine x_icmp_ge (tgt := 140) dX7_pawn_129 rfl (fun q4 => ?_) (fun q4 => ?_)
        · replace h := itT q4 h
          refine x_iinc dX7_pawn_140 rfl (v := l8 + 1) rfl rfl (Nat.le_of_ble_eq_true rfl) (L2 := [_, _, _, _, _, _, _, _, _, _]) rfl ?_
          refine x_goto (tgt := 61) dX7_pawn_143 rfl ?_
          exact x_wk (wC (wJ (wJ (wC (wC (wC (wC (wC (wC (wN _)))))))))) h
        · replace h := itF q4 h
          refine x_iload dX7_pawn_132 rfl ?_
          refine x_istore dX7_pawn_134 rfl (Nat.le_of_ble_eq_true rfl) (L2 := [_, _, _, _, _, _, _, _, _, _]) rfl ?_
          refine x_iload dX7_pawn_136 rfl ?_
          refine x_istore dX7_pawn_138 rfl (Nat.le_of_ble_eq_true rfl) (L2 := [_, _, _, _, _, _, _, _, _, _]) rfl ?_
          refine x_iinc dX7_pawn_140 rfl (v := l8 + 1) rfl rfl (Nat.le_of_ble_eq_true rfl) (L2 := [_, _, _, _, _, _, _, _, _, _]) rfl ?_
          refine x_goto (tgt := 61) dX7_pawn_143 rfl ?_
          exact x_wk (wC (wJ (wJ (wC (wC (wC (wC (wC (wC (wN _)))))))))) h
set_option maxRecDepth 20000 in
theorem s_X7_rows {d : Nat} {g : zG} {σ : zI} {K : Int32 → zI → Prop} (hg : zGA g) {l1 : Int32} {l2 : Int32} {l3 : Int32} {l4 : Int32} (h : zCR mX7_sheetAt d [.ref 0, .int l1] g σ (fun x1 σ1 => match x1 with | none => zCR mX7_heirAt d [.ref 0, .int l2] g σ1 (fun x2 σ2 => match x2 with | none => zCR mX7_heirAt d [.ref 0, .int l3] g σ2 (fun x3 σ3 => match x3 with | none => K (-2) σ3 | some r3 => zOb g r3 0 ∧ K (-2) σ3) | some r2 => zOb g r2 0 ∧ zCR mX7_heirAt d [.ref 0, .int l3] g σ2 (fun x3 σ3 => match x3 with | none => K (-2) σ3 | some r3 => zOb g r3 0 ∧ K (-2) σ3)) | some r1 => zSt g r1 ∧ zCR mX7_heirAt d [.ref 0, .int l2] g σ1 (fun x2 σ2 => match x2 with | none => zCR mX7_heirAt d [.ref 0, .int l3] g σ2 (fun x3 σ3 => match x3 with | none => K (-2) σ3 | some r3 => zOb g r3 0 ∧ K (-2) σ3) | some r2 => zOb g r2 0 ∧ zCR mX7_heirAt d [.ref 0, .int l3] g σ2 (fun x3 σ3 => match x3 with | none => K (-2) σ3 | some r3 => zOb g r3 0 ∧ (if ((r2 : Nat) = r3 : Prop) then K (-2) σ3 else (if (l4 < 0 : Prop) then K (-2) σ3 else (if (l4 ≤ 5 : Prop) then (if ((σ3 r1 0) = (-1) : Prop) then K (-11) σ3 else zCI mX5_tellsSums d [.ref r1] g σ3 (fun v1 σ4 => (if (v1 = 0 : Prop) then K (-2) σ4 else (if (l4 = 0 : Prop) then zCI mX3_firstOtherwise d [.ref 22, .ref r1, .ref r2, .ref r3] g σ4 (fun v2 σ5 => K v2 σ5) else (if (l4 = 1 : Prop) then zCI mX7_kindsAsTold d [.ref 0, .ref r1, .ref r2, .ref r3] g σ4 (fun v2 σ5 => K v2 σ5) else (if (l4 = 2 : Prop) then zCI mX7_moresAsTold d [.ref 0, .ref r1, .ref r2, .ref r3] g σ4 (fun v2 σ5 => K v2 σ5) else (if (l4 = 3 : Prop) then zCI mX7_textsAsTold d [.ref 0, .ref r1, .ref r2, .ref r3] g σ4 (fun v2 σ5 => K v2 σ5) else (if (l4 = 4 : Prop) then zCI mX7_numbersThatMust d [.ref 0, .ref r1, .ref r2, .ref r3] g σ4 (fun v2 σ5 => K v2 σ5) else zCI mX7_numbersThatMay d [.ref 0, .ref r1, .ref r2, .ref r3] g σ4 (fun v2 σ5 => K v2 σ5))))))))) else K (-2) σ3))))))) : zCI mX7_rows (d + 1) [.ref 0, .int l1, .int l2, .int l3, .int l4] g σ K := by
  refine c_of_x pn_mX7_rows rfl (Nat.le_of_ble_eq_true rfl) ?_
  change zX _ _ 0 0 0 [.ref 0, .int l1, .int l2, .int l3, .int l4] [] g σ _
  refine x_aload_n dX7_rows_0 rfl ?_
  refine x_iload_n dX7_rows_1 rfl ?_
  refine x_callV (Y2 := mX7_sheetAt) (as := [.int l1]) (S := []) (kc2 := 0) (ks2 := 0) mv_mX7_sheetAt (Or.inl ⟨7, _, rfl, rfl, (gA_0 hg)⟩) dX7_rows_2 lk_X7_205 mo_mX7_sheetAt rfl rfl (Nat.le_of_ble_eq_true rfl) (Or.inl rfl) rfl rfl h ?_
  rintro _ _ σ1 ⟨x1, rfl, rfl, h⟩
  rcases x1 with _ | r1
  · dsimp only at h
    change zX _ _ 0 0 5 _ [.null] _ _ _
    refine x_astoreN dX7_rows_5 rfl (Nat.le_of_ble_eq_true rfl) (L2 := [_, _, _, _, _, _]) rfl ?_
    refine x_aload_n dX7_rows_7 rfl ?_
    refine x_iload_n dX7_rows_8 rfl ?_
    refine x_callV (Y2 := mX7_heirAt) (as := [.int l2]) (S := []) (kc2 := 0) (ks2 := 0) mv_mX7_heirAt (Or.inl ⟨7, _, rfl, rfl, (gA_0 hg)⟩) dX7_rows_9 lk_X7_66 mo_mX7_heirAt rfl rfl (Nat.le_of_ble_eq_true rfl) (Or.inl rfl) rfl rfl h ?_
    rintro _ _ σ2 ⟨x2, rfl, rfl, h⟩
    rcases x2 with _ | r2
    · dsimp only at h
      change zX _ _ 0 0 12 _ [.null] _ _ _
      refine x_astoreN dX7_rows_12 rfl (Nat.le_of_ble_eq_true rfl) (L2 := [_, _, _, _, _, _, _]) rfl ?_
      refine x_aload_n dX7_rows_14 rfl ?_
      refine x_iload_n dX7_rows_15 rfl ?_
      refine x_callV (Y2 := mX7_heirAt) (as := [.int l3]) (S := []) (kc2 := 0) (ks2 := 0) mv_mX7_heirAt (Or.inl ⟨7, _, rfl, rfl, (gA_0 hg)⟩) dX7_rows_16 lk_X7_66 mo_mX7_heirAt rfl rfl (Nat.le_of_ble_eq_true rfl) (Or.inl rfl) rfl rfl h ?_
      rintro _ _ σ3 ⟨x3, rfl, rfl, h⟩
      rcases x3 with _ | r3
      · dsimp only at h
        change zX _ _ 0 0 19 _ [.null] _ _ _
        refine x_astoreN dX7_rows_19 rfl (Nat.le_of_ble_eq_true rfl) (L2 := [_, _, _, _, _, _, _, _]) rfl ?_
        refine x_aloadN dX7_rows_21 rfl ?_
        refine x_ifnullN (tgt := 54) dX7_rows_23 rfl ?_
        refine x_bipush (v := (-2)) dX7_rows_54 rfl ?_
        exact x_iret (S := []) dX7_rows_56 rfl rfl ⟨_, rfl, rfl, h⟩
      · dsimp only at h
        obtain ⟨q3, h⟩ := h
        change zX _ _ 0 0 19 _ [.ref r3] _ _ _
        refine x_astore dX7_rows_19 rfl (Nat.le_of_ble_eq_true rfl) (L2 := [_, _, _, _, _, _, _, _]) rfl ?_
        refine x_aloadN dX7_rows_21 rfl ?_
        refine x_ifnullN (tgt := 54) dX7_rows_23 rfl ?_
        refine x_bipush (v := (-2)) dX7_rows_54 rfl ?_
        exact x_iret (S := []) dX7_rows_56 rfl rfl ⟨_, rfl, rfl, h⟩
    · dsimp only at h
      obtain ⟨q2, h⟩ := h
      change zX _ _ 0 0 12 _ [.ref r2] _ _ _
      refine x_astore dX7_rows_12 rfl (Nat.le_of_ble_eq_true rfl) (L2 := [_, _, _, _, _, _, _]) rfl ?_
      refine x_aload_n dX7_rows_14 rfl ?_
      refine x_iload_n dX7_rows_15 rfl ?_
      refine x_callV (Y2 := mX7_heirAt) (as := [.int l3]) (S := []) (kc2 := 0) (ks2 := 0) mv_mX7_heirAt (Or.inl ⟨7, _, rfl, rfl, (gA_0 hg)⟩) dX7_rows_16 lk_X7_66 mo_mX7_heirAt rfl rfl (Nat.le_of_ble_eq_true rfl) (Or.inl rfl) rfl rfl h ?_
      rintro _ _ σ3 ⟨x3, rfl, rfl, h⟩
      rcases x3 with _ | r3
      · dsimp only at h
        change zX _ _ 0 0 19 _ [.null] _ _ _
        refine x_astoreN dX7_rows_19 rfl (Nat.le_of_ble_eq_true rfl) (L2 := [_, _, _, _, _, _, _, _]) rfl ?_
        refine x_aloadN dX7_rows_21 rfl ?_
        refine x_ifnullN (tgt := 54) dX7_rows_23 rfl ?_
        refine x_bipush (v := (-2)) dX7_rows_54 rfl ?_
        exact x_iret (S := []) dX7_rows_56 rfl rfl ⟨_, rfl, rfl, h⟩
      · dsimp only at h
        obtain ⟨q3, h⟩ := h
        change zX _ _ 0 0 19 _ [.ref r3] _ _ _
        refine x_astore dX7_rows_19 rfl (Nat.le_of_ble_eq_true rfl) (L2 := [_, _, _, _, _, _, _, _]) rfl ?_
        refine x_aloadN dX7_rows_21 rfl ?_
        refine x_ifnullN (tgt := 54) dX7_rows_23 rfl ?_
        refine x_bipush (v := (-2)) dX7_rows_54 rfl ?_
        exact x_iret (S := []) dX7_rows_56 rfl rfl ⟨_, rfl, rfl, h⟩
  · dsimp only at h
    obtain ⟨q1, h⟩ := h
    change zX _ _ 0 0 5 _ [.ref r1] _ _ _
    refine x_astore dX7_rows_5 rfl (Nat.le_of_ble_eq_true rfl) (L2 := [_, _, _, _, _, _]) rfl ?_
    refine x_aload_n dX7_rows_7 rfl ?_
    refine x_iload_n dX7_rows_8 rfl ?_
    refine x_callV (Y2 := mX7_heirAt) (as := [.int l2]) (S := []) (kc2 := 0) (ks2 := 0) mv_mX7_heirAt (Or.inl ⟨7, _, rfl, rfl, (gA_0 hg)⟩) dX7_rows_9 lk_X7_66 mo_mX7_heirAt rfl rfl (Nat.le_of_ble_eq_true rfl) (Or.inl rfl) rfl rfl h ?_
    rintro _ _ σ2 ⟨x2, rfl, rfl, h⟩
    rcases x2 with _ | r2
    · dsimp only at h
      change zX _ _ 0 0 12 _ [.null] _ _ _
      refine x_astoreN dX7_rows_12 rfl (Nat.le_of_ble_eq_true rfl) (L2 := [_, _, _, _, _, _, _]) rfl ?_
      refine x_aload_n dX7_rows_14 rfl ?_
      refine x_iload_n dX7_rows_15 rfl ?_
      refine x_callV (Y2 := mX7_heirAt) (as := [.int l3]) (S := []) (kc2 := 0) (ks2 := 0) mv_mX7_heirAt (Or.inl ⟨7, _, rfl, rfl, (gA_0 hg)⟩) dX7_rows_16 lk_X7_66 mo_mX7_heirAt rfl rfl (Nat.le_of_ble_eq_true rfl) (Or.inl rfl) rfl rfl h ?_
      rintro _ _ σ3 ⟨x3, rfl, rfl, h⟩
      rcases x3 with _ | r3
      · dsimp only at h
        change zX _ _ 0 0 19 _ [.null] _ _ _
        refine x_astoreN dX7_rows_19 rfl (Nat.le_of_ble_eq_true rfl) (L2 := [_, _, _, _, _, _, _, _]) rfl ?_
        refine x_aload dX7_rows_21 rfl ?_
        refine x_ifnull dX7_rows_23 ?_
        refine x_aloadN dX7_rows_26 rfl ?_
        refine x_ifnullN (tgt := 54) dX7_rows_28 rfl ?_
        refine x_bipush (v := (-2)) dX7_rows_54 rfl ?_
        exact x_iret (S := []) dX7_rows_56 rfl rfl ⟨_, rfl, rfl, h⟩
      · dsimp only at h
        obtain ⟨q3, h⟩ := h
        change zX _ _ 0 0 19 _ [.ref r3] _ _ _
        refine x_astore dX7_rows_19 rfl (Nat.le_of_ble_eq_true rfl) (L2 := [_, _, _, _, _, _, _, _]) rfl ?_
        refine x_aload dX7_rows_21 rfl ?_
        refine x_ifnull dX7_rows_23 ?_
        refine x_aloadN dX7_rows_26 rfl ?_
        refine x_ifnullN (tgt := 54) dX7_rows_28 rfl ?_
        refine x_bipush (v := (-2)) dX7_rows_54 rfl ?_
        exact x_iret (S := []) dX7_rows_56 rfl rfl ⟨_, rfl, rfl, h⟩
    · dsimp only at h
      obtain ⟨q2, h⟩ := h
      change zX _ _ 0 0 12 _ [.ref r2] _ _ _
      refine x_astore dX7_rows_12 rfl (Nat.le_of_ble_eq_true rfl) (L2 := [_, _, _, _, _, _, _]) rfl ?_
      refine x_aload_n dX7_rows_14 rfl ?_
      refine x_iload_n dX7_rows_15 rfl ?_
      refine x_callV (Y2 := mX7_heirAt) (as := [.int l3]) (S := []) (kc2 := 0) (ks2 := 0) mv_mX7_heirAt (Or.inl ⟨7, _, rfl, rfl, (gA_0 hg)⟩) dX7_rows_16 lk_X7_66 mo_mX7_heirAt rfl rfl (Nat.le_of_ble_eq_true rfl) (Or.inl rfl) rfl rfl h ?_
      rintro _ _ σ3 ⟨x3, rfl, rfl, h⟩
      rcases x3 with _ | r3
      · dsimp only at h
        change zX _ _ 0 0 19 _ [.null] _ _ _
        refine x_astoreN dX7_rows_19 rfl (Nat.le_of_ble_eq_true rfl) (L2 := [_, _, _, _, _, _, _, _]) rfl ?_
        refine x_aload dX7_rows_21 rfl ?_
        refine x_ifnull dX7_rows_23 ?_
        refine x_aload dX7_rows_26 rfl ?_
        refine x_ifnull dX7_rows_28 ?_
        refine x_aloadN dX7_rows_31 rfl ?_
        refine x_ifnullN (tgt := 54) dX7_rows_33 rfl ?_
        refine x_bipush (v := (-2)) dX7_rows_54 rfl ?_
        exact x_iret (S := []) dX7_rows_56 rfl rfl ⟨_, rfl, rfl, h⟩
      · dsimp only at h
        obtain ⟨q3, h⟩ := h
        change zX _ _ 0 0 19 _ [.ref r3] _ _ _
        refine x_astore dX7_rows_19 rfl (Nat.le_of_ble_eq_true rfl) (L2 := [_, _, _, _, _, _, _, _]) rfl ?_
        refine x_aload dX7_rows_21 rfl ?_
        refine x_ifnull dX7_rows_23 ?_
        refine x_aload dX7_rows_26 rfl ?_
        refine x_ifnull dX7_rows_28 ?_
        refine x_aload dX7_rows_31 rfl ?_
        refine x_ifnull dX7_rows_33 ?_
        refine x_aload dX7_rows_36 rfl ?_
        refine x_aload dX7_rows_38 rfl ?_
        refine x_acmp_eq (tgt := 54) dX7_rows_40 q2.1 q3.1 rfl (fun q4 => ?_) (fun q4 => ?_)
        · replace h := itT q4 h
          refine x_bipush (v := (-2)) dX7_rows_54 rfl ?_
          exact x_iret (S := []) dX7_rows_56 rfl rfl ⟨_, rfl, rfl, h⟩
        · replace h := itF q4 h
          refine x_iload dX7_rows_43 rfl ?_
          refine x_if_lt (tgt := 54) dX7_rows_45 rfl (fun q5 => ?_) (fun q5 => ?_)
          · replace h := itT q5 h
            refine x_bipush (v := (-2)) dX7_rows_54 rfl ?_
            exact x_iret (S := []) dX7_rows_56 rfl rfl ⟨_, rfl, rfl, h⟩
          · replace h := itF q5 h
            refine x_iload dX7_rows_48 rfl ?_
            refine x_iconst (v := 5) dX7_rows_50 rfl ?_
            refine x_icmp_le (tgt := 57) dX7_rows_51 rfl (fun q6 => ?_) (fun q6 => ?_)
            · replace h := itT q6 h
              refine x_aload dX7_rows_57 rfl ?_
              refine x_getI dX7_rows_59 fl_X7_209 q1.1 rfl ?_
              refine x_iconst (v := (-1)) dX7_rows_62 rfl ?_
              refine x_icmp_ne (tgt := 69) dX7_rows_63 rfl (fun q7 => ?_) (fun q7 => ?_)
              · replace h := itF q7 h
                refine x_aload dX7_rows_69 rfl ?_
                refine x_callV (Y2 := mX5_tellsSums) (as := []) (S := []) (kc2 := 0) (ks2 := 0) mv_mX5_tellsSums (Or.inl ⟨5, _, rfl, rfl, q1.1⟩) dX7_rows_71 lk_X7_212 mo_mX5_tellsSums rfl rfl (Nat.le_of_ble_eq_true rfl) (Or.inl rfl) rfl rfl h ?_
                rintro _ _ σ4 ⟨v1, rfl, rfl, h⟩
                change zX _ _ 0 0 74 _ [.int v1] _ _ _
                refine x_if_ne (tgt := 80) dX7_rows_74 rfl (fun q8 => ?_) (fun q8 => ?_)
                · replace h := itF q8 h
                  refine x_iload dX7_rows_80 rfl ?_
                  by_cases q9 : l4 = 0
                  · refine x_tsw (tgt := 116) dX7_rows_82 (by rw [q9]; decide) (by rw [q9]; decide) (by rw [q9]; rfl) rfl ?_
                    replace h := itT q9 h
                    refine x_aload_n dX7_rows_116 rfl ?_
                    refine x_getR dX7_rows_117 fl_X7_33 (gA_0 hg) rfl (gA_0_3 hg) ?_
                    refine x_aload dX7_rows_120 rfl ?_
                    refine x_aload dX7_rows_122 rfl ?_
                    refine x_aload dX7_rows_124 rfl ?_
                    refine x_callV (Y2 := mX3_firstOtherwise) (as := [.ref r1, .ref r2, .ref r3]) (S := []) (kc2 := 0) (ks2 := 0) mv_mX3_firstOtherwise (Or.inl ⟨3, _, rfl, rfl, (gA_22 hg)⟩) dX7_rows_126 lk_X7_216 mo_mX3_firstOtherwise rfl rfl (Nat.le_of_ble_eq_true rfl) (Or.inl rfl) rfl rfl h ?_
                    rintro _ _ σ5 ⟨v2, rfl, rfl, h⟩
                    change zX _ _ 0 0 129 _ [.int v2] _ _ _
                    exact x_iret (S := []) dX7_rows_129 rfl rfl ⟨_, rfl, rfl, h⟩
                  · replace h := itF q9 h
                    by_cases q10 : l4 = 1
                    · refine x_tsw (tgt := 130) dX7_rows_82 (by rw [q10]; decide) (by rw [q10]; decide) (by rw [q10]; rfl) rfl ?_
                      replace h := itT q10 h
                      refine x_aload_n dX7_rows_130 rfl ?_
                      refine x_aload dX7_rows_131 rfl ?_
                      refine x_aload dX7_rows_133 rfl ?_
                      refine x_aload dX7_rows_135 rfl ?_
                      refine x_callV (Y2 := mX7_kindsAsTold) (as := [.ref r1, .ref r2, .ref r3]) (S := []) (kc2 := 0) (ks2 := 0) mv_mX7_kindsAsTold (Or.inl ⟨7, _, rfl, rfl, (gA_0 hg)⟩) dX7_rows_137 lk_X7_220 mo_mX7_kindsAsTold rfl rfl (Nat.le_of_ble_eq_true rfl) (Or.inl rfl) rfl rfl h ?_
                      rintro _ _ σ5 ⟨v2, rfl, rfl, h⟩
                      change zX _ _ 0 0 140 _ [.int v2] _ _ _
                      exact x_iret (S := []) dX7_rows_140 rfl rfl ⟨_, rfl, rfl, h⟩
                    · replace h := itF q10 h
                      by_cases q11 : l4 = 2
                      · refine x_tsw (tgt := 141) dX7_rows_82 (by rw [q11]; decide) (by rw [q11]; decide) (by rw [q11]; rfl) rfl ?_
                        replace h := itT q11 h
                        refine x_aload_n dX7_rows_141 rfl ?_
                        refine x_aload dX7_rows_142 rfl ?_
                        refine x_aload dX7_rows_144 rfl ?_
                        refine x_aload dX7_rows_146 rfl ?_
                        refine x_callV (Y2 := mX7_moresAsTold) (as := [.ref r1, .ref r2, .ref r3]) (S := []) (kc2 := 0) (ks2 := 0) mv_mX7_moresAsTold (Or.inl ⟨7, _, rfl, rfl, (gA_0 hg)⟩) dX7_rows_148 lk_X7_223 mo_mX7_moresAsTold rfl rfl (Nat.le_of_ble_eq_true rfl) (Or.inl rfl) rfl rfl h ?_
                        rintro _ _ σ5 ⟨v2, rfl, rfl, h⟩
                        change zX _ _ 0 0 151 _ [.int v2] _ _ _
                        exact x_iret (S := []) dX7_rows_151 rfl rfl ⟨_, rfl, rfl, h⟩
                      · replace h := itF q11 h
                        by_cases q12 : l4 = 3
                        · refine x_tsw (tgt := 152) dX7_rows_82 (by rw [q12]; decide) (by rw [q12]; decide) (by rw [q12]; rfl) rfl ?_
                          replace h := itT q12 h
                          refine x_aload_n dX7_rows_152 rfl ?_
                          refine x_aload dX7_rows_153 rfl ?_
                          refine x_aload dX7_rows_155 rfl ?_
                          refine x_aload dX7_rows_157 rfl ?_
                          refine x_callV (Y2 := mX7_textsAsTold) (as := [.ref r1, .ref r2, .ref r3]) (S := []) (kc2 := 0) (ks2 := 0) mv_mX7_textsAsTold (Or.inl ⟨7, _, rfl, rfl, (gA_0 hg)⟩) dX7_rows_159 lk_X7_226 mo_mX7_textsAsTold rfl rfl (Nat.le_of_ble_eq_true rfl) (Or.inl rfl) rfl rfl h ?_
                          rintro _ _ σ5 ⟨v2, rfl, rfl, h⟩
                          change zX _ _ 0 0 162 _ [.int v2] _ _ _
                          exact x_iret (S := []) dX7_rows_162 rfl rfl ⟨_, rfl, rfl, h⟩
                        · replace h := itF q12 h
                          by_cases q13 : l4 = 4
                          · refine x_tsw (tgt := 163) dX7_rows_82 (by rw [q13]; decide) (by rw [q13]; decide) (by rw [q13]; rfl) rfl ?_
                            replace h := itT q13 h
                            refine x_aload_n dX7_rows_163 rfl ?_
                            refine x_aload dX7_rows_164 rfl ?_
                            refine x_aload dX7_rows_166 rfl ?_
                            refine x_aload dX7_rows_168 rfl ?_
                            refine x_callV (Y2 := mX7_numbersThatMust) (as := [.ref r1, .ref r2, .ref r3]) (S := []) (kc2 := 0) (ks2 := 0) mv_mX7_numbersThatMust (Or.inl ⟨7, _, rfl, rfl, (gA_0 hg)⟩) dX7_rows_170 lk_X7_229 mo_mX7_numbersThatMust rfl rfl (Nat.le_of_ble_eq_true rfl) (Or.inl rfl) rfl rfl h ?_
                            rintro _ _ σ5 ⟨v2, rfl, rfl, h⟩
                            change zX _ _ 0 0 173 _ [.int v2] _ _ _
                            exact x_iret (S := []) dX7_rows_173 rfl rfl ⟨_, rfl, rfl, h⟩
                          · replace h := itF q13 h
                            refine x_tswd (tgt := 174) dX7_rows_82 (by have z0 := lv_neT (a := 0) q9 rfl; have z1 := lv_neT (a := 1) q10 rfl; have z2 := lv_neT (a := 2) q11 rfl; have z3 := lv_neT (a := 3) q12 rfl; have z4 := lv_neT (a := 4) q13 rfl; omega) rfl ?_
                            refine x_aload_n dX7_rows_174 rfl ?_
                            refine x_aload dX7_rows_175 rfl ?_
                            refine x_aload dX7_rows_177 rfl ?_
                            refine x_aload dX7_rows_179 rfl ?_
                            refine x_callV (Y2 := mX7_numbersThatMay) (as := [.ref r1, .ref r2, .ref r3]) (S := []) (kc2 := 0) (ks2 := 0) mv_mX7_numbersThatMay (Or.inl ⟨7, _, rfl, rfl, (gA_0 hg)⟩) dX7_rows_181 lk_X7_232 mo_mX7_numbersThatMay rfl rfl (Nat.le_of_ble_eq_true rfl) (Or.inl rfl) rfl rfl h ?_
                            rintro _ _ σ5 ⟨v2, rfl, rfl, h⟩
                            change zX _ _ 0 0 184 _ [.int v2] _ _ _
                            exact x_iret (S := []) dX7_rows_184 rfl rfl ⟨_, rfl, rfl, h⟩
                · replace h := itT q8 h
                  refine x_bipush (v := (-2)) dX7_rows_77 rfl ?_
                  exact x_iret (S := []) dX7_rows_79 rfl rfl ⟨_, rfl, rfl, h⟩
              · replace h := itT q7 h
                refine x_bipush (v := (-11)) dX7_rows_66 rfl ?_
                exact x_iret (S := []) dX7_rows_68 rfl rfl ⟨_, rfl, rfl, h⟩
            · replace h := itF q6 h
              refine x_bipush (v := (-2)) dX7_rows_54 rfl ?_
              exact x_iret (S := []) dX7_rows_56 rfl rfl ⟨_, rfl, rfl, h⟩
set_option maxRecDepth 20000 in
theorem s_X7_sheetAt {d : Nat} {g : zG} {σ : zI} {K : Option Nat → zI → Prop} (hg : zGA g) {l1 : Int32} (h : (if (l1 < 0 : Prop) then K none σ else (if (l1 < (nI 4) : Prop) then vp_in l1 4 ∧ K (some (49 + 2 * l1.toNatClampNeg)) σ else K none σ))) : zCR mX7_sheetAt d [.ref 0, .int l1] g σ K := by
  refine c_of_x pn_mX7_sheetAt rfl (Nat.le_of_ble_eq_true rfl) ?_
  change zX _ _ 0 0 0 [.ref 0, .int l1] [] g σ _
  refine x_iload_n dX7_sheetAt_0 rfl ?_
  refine x_if_lt (tgt := 13) dX7_sheetAt_1 rfl (fun q1 => ?_) (fun q1 => ?_)
  · replace h := itT q1 h
    refine x_null dX7_sheetAt_13 ?_
    refine x_goto (tgt := 23) dX7_sheetAt_14 rfl ?_
    exact x_aretN (S := []) dX7_sheetAt_23 rfl (Or.inl ⟨_, rfl⟩) ⟨none, rfl, rfl, h⟩
  · replace h := itF q1 h
    refine x_iload_n dX7_sheetAt_4 rfl ?_
    refine x_aload_n dX7_sheetAt_5 rfl ?_
    refine x_getR dX7_sheetAt_6 fl_X7_17 (gA_0 hg) rfl (gA_0_1 hg) ?_
    refine x_alenq (t := 1) dX7_sheetAt_9 (gA_2 hg) (by decide) ?_
    refine x_icmp_lt (tgt := 17) dX7_sheetAt_10 rfl (fun q2 => ?_) (fun q2 => ?_)
    · replace h := itT q2 h
      refine x_aload_n dX7_sheetAt_17 rfl ?_
      refine x_getR dX7_sheetAt_18 fl_X7_17 (gA_0 hg) rfl (gA_0_1 hg) ?_
      refine x_iload_n dX7_sheetAt_21 rfl ?_
      obtain ⟨q3, h⟩ := h
      refine x_aald (t := 1) dX7_sheetAt_22 (gA_2 hg) (by decide) q3 (gr_sheets hg q3).1 ?_
      exact x_aret (S := []) dX7_sheetAt_23 rfl (Or.inl ⟨_, rfl⟩) ⟨some (49 + 2 * l1.toNatClampNeg), rfl, rfl, h⟩
    · replace h := itF q2 h
      refine x_null dX7_sheetAt_13 ?_
      refine x_goto (tgt := 23) dX7_sheetAt_14 rfl ?_
      exact x_aretN (S := []) dX7_sheetAt_23 rfl (Or.inl ⟨_, rfl⟩) ⟨none, rfl, rfl, h⟩
abbrev p_X7_kindsAsTold_14 (d : Nat) (g : zG) (K : Int32 → zI → Prop) (σ : zI) (l1 : Nat) (l3 : Nat) (l4 : Int32) (l5 : Int32) : Prop := zX mX7_kindsAsTold (d + 1) 0 0 14 [.ref 0, .ref l1, .retAddr 0, .ref l3, .int l4, .int l5] [] g σ (zqI g K)
set_option maxRecDepth 20000 in
theorem s_X7_kindsAsTold {d : Nat} {g : zG} {σ : zI} {K : Int32 → zI → Prop} (hg : zGA g) {l1 : Nat} (h1 : zSt g l1) {l2 : Nat} (h2 : zOb g l2 0) {l3 : Nat} (h3 : zOb g l3 0) (h : zCV mX0_become d [.ref 41, .ref l2] g σ (fun σ1 => p_X7_kindsAsTold_14 d g K σ1 l1 l3 0 0)) : zCI mX7_kindsAsTold (d + 1) [.ref 0, .ref l1, .ref l2, .ref l3] g σ K := by
  refine c_of_x pn_mX7_kindsAsTold rfl (Nat.le_of_ble_eq_true rfl) ?_
  change zX _ _ 0 0 0 [.ref 0, .ref l1, .ref l2, .ref l3] [] g σ _
  refine x_iconst (v := 0) dX7_kindsAsTold_0 rfl ?_
  refine x_istore dX7_kindsAsTold_1 rfl (Nat.le_of_ble_eq_true rfl) (L2 := [_, _, _, _, _]) rfl ?_
  refine x_aload_n dX7_kindsAsTold_3 rfl ?_
  refine x_getR dX7_kindsAsTold_4 fl_X7_54 (gA_0 hg) rfl (gA_0_6 hg) ?_
  refine x_aload_n dX7_kindsAsTold_7 rfl ?_
  refine x_callV (Y2 := mX0_become) (as := [.ref l2]) (S := []) (kc2 := 0) (ks2 := 0) mv_mX0_become (Or.inl ⟨0, _, rfl, rfl, (gA_41 hg)⟩) dX7_kindsAsTold_8 lk_X7_198 mo_mX0_become rfl rfl (Nat.le_of_ble_eq_true rfl) (Or.inl rfl) rfl rfl h ?_
  rintro _ _ σ1 ⟨rfl, rfl, h⟩
  change zX _ _ 0 0 11 _ [] _ _ _
  refine x_iconst (v := 0) dX7_kindsAsTold_11 rfl ?_
  refine x_istore dX7_kindsAsTold_12 rfl (Nat.le_of_ble_eq_true rfl) (L2 := [_, _, _, _, _, _]) rfl ?_
  exact x_wk (wC (wC (wJ (wC (wC (wC (wN _))))))) h
set_option maxRecDepth 20000 in
theorem s_X7_kindsAsTold_14 {d : Nat} {g : zG} {σ : zI} {K : Int32 → zI → Prop} (hg : zGA g) {l1 : Nat} (h_l1 : zSt g l1) {l3 : Nat} (h_l3 : zOb g l3 0) {l4 : Int32} {l5 : Int32} (h : (if (6 ≤ l5 : Prop) then K l4 σ else zCI mX3_firstOtherwise d [.ref 22, .ref l1, .ref 41, .ref l3] g (zsI σ 41 1 l5) (fun v1 σ1 => (if (v1 = (-1) : Prop) then p_X7_kindsAsTold_14 d g K σ1 l1 l3 (l4 ||| (1 <<< (l5 &&& 31))) (l5 + 1) else p_X7_kindsAsTold_14 d g K σ1 l1 l3 l4 (l5 + 1))))) : p_X7_kindsAsTold_14 d g K σ l1 l3 l4 l5 := by
  refine x_iload dX7_kindsAsTold_14 rfl ?_
  refine x_bipush (v := 6) dX7_kindsAsTold_16 rfl ?_
  refine x_icmp_ge (tgt := 62) dX7_kindsAsTold_18 rfl (fun q1 => ?_) (fun q1 => ?_)
  · replace h := itT q1 h
    refine x_iload dX7_kindsAsTold_62 rfl ?_
    exact x_iret (S := []) dX7_kindsAsTold_64 rfl rfl ⟨_, rfl, rfl, h⟩
  · replace h := itF q1 h
    refine x_aload_n dX7_kindsAsTold_21 rfl ?_
    refine x_getR dX7_kindsAsTold_22 fl_X7_54 (gA_0 hg) rfl (gA_0_6 hg) ?_
    refine x_iload dX7_kindsAsTold_25 rfl ?_
    refine x_putI dX7_kindsAsTold_27 fl_X7_84 (gA_41 hg) rfl rfl ?_
    refine x_aload_n dX7_kindsAsTold_30 rfl ?_
    refine x_getR dX7_kindsAsTold_31 fl_X7_33 (gA_0 hg) rfl (gA_0_3 hg) ?_
    refine x_aload_n dX7_kindsAsTold_34 rfl ?_
    refine x_aload_n dX7_kindsAsTold_35 rfl ?_
    refine x_getR dX7_kindsAsTold_36 fl_X7_54 (gA_0 hg) rfl (gA_0_6 hg) ?_
    refine x_aload_n dX7_kindsAsTold_39 rfl ?_
    refine x_callV (Y2 := mX3_firstOtherwise) (as := [.ref l1, .ref 41, .ref l3]) (S := []) (kc2 := 0) (ks2 := 0) mv_mX3_firstOtherwise (Or.inl ⟨3, _, rfl, rfl, (gA_22 hg)⟩) dX7_kindsAsTold_40 lk_X7_216 mo_mX3_firstOtherwise rfl rfl (Nat.le_of_ble_eq_true rfl) (Or.inl rfl) rfl rfl h ?_
    rintro _ _ σ1 ⟨v1, rfl, rfl, h⟩
    change zX _ _ 0 0 43 _ [.int v1] _ _ _
    refine x_iconst (v := (-1)) dX7_kindsAsTold_43 rfl ?_
    refine x_icmp_ne (tgt := 56) dX7_kindsAsTold_44 rfl (fun q2 => ?_) (fun q2 => ?_)
    · replace h := itF q2 h
      refine x_iinc dX7_kindsAsTold_56 rfl (v := l5 + 1) rfl rfl (Nat.le_of_ble_eq_true rfl) (L2 := [_, _, _, _, _, _]) rfl ?_
      refine x_goto (tgt := 14) dX7_kindsAsTold_59 rfl ?_
      exact h
    · replace h := itT q2 h
      refine x_iload dX7_kindsAsTold_47 rfl ?_
      refine x_iconst (v := 1) dX7_kindsAsTold_49 rfl ?_
      refine x_iload dX7_kindsAsTold_50 rfl ?_
      refine x_ishl dX7_kindsAsTold_52 ?_
      refine x_ior dX7_kindsAsTold_53 ?_
      refine x_istore dX7_kindsAsTold_54 rfl (Nat.le_of_ble_eq_true rfl) (L2 := [_, _, _, _, _, _]) rfl ?_
      refine x_iinc dX7_kindsAsTold_56 rfl (v := l5 + 1) rfl rfl (Nat.le_of_ble_eq_true rfl) (L2 := [_, _, _, _, _, _]) rfl ?_
      refine x_goto (tgt := 14) dX7_kindsAsTold_59 rfl ?_
      exact h
abbrev p_X7_moresAsTold_14 (d : Nat) (g : zG) (K : Int32 → zI → Prop) (σ : zI) (l1 : Nat) (l3 : Nat) (l4 : Int32) (l5 : Int32) : Prop := zX mX7_moresAsTold (d + 1) 0 0 14 [.ref 0, .ref l1, .retAddr 0, .ref l3, .int l4, .int l5] [] g σ (zqI g K)
set_option maxRecDepth 20000 in
theorem s_X7_moresAsTold {d : Nat} {g : zG} {σ : zI} {K : Int32 → zI → Prop} (hg : zGA g) {l1 : Nat} (h1 : zSt g l1) {l2 : Nat} (h2 : zOb g l2 0) {l3 : Nat} (h3 : zOb g l3 0) (h : zCV mX0_become d [.ref 41, .ref l2] g σ (fun σ1 => p_X7_moresAsTold_14 d g K σ1 l1 l3 0 0)) : zCI mX7_moresAsTold (d + 1) [.ref 0, .ref l1, .ref l2, .ref l3] g σ K := by
  refine c_of_x pn_mX7_moresAsTold rfl (Nat.le_of_ble_eq_true rfl) ?_
  change zX _ _ 0 0 0 [.ref 0, .ref l1, .ref l2, .ref l3] [] g σ _
  refine x_iconst (v := 0) dX7_moresAsTold_0 rfl ?_
  refine x_istore dX7_moresAsTold_1 rfl (Nat.le_of_ble_eq_true rfl) (L2 := [_, _, _, _, _]) rfl ?_
  refine x_aload_n dX7_moresAsTold_3 rfl ?_
  refine x_getR dX7_moresAsTold_4 fl_X7_54 (gA_0 hg) rfl (gA_0_6 hg) ?_
  refine x_aload_n dX7_moresAsTold_7 rfl ?_
  refine x_callV (Y2 := mX0_become) (as := [.ref l2]) (S := []) (kc2 := 0) (ks2 := 0) mv_mX0_become (Or.inl ⟨0, _, rfl, rfl, (gA_41 hg)⟩) dX7_moresAsTold_8 lk_X7_198 mo_mX0_become rfl rfl (Nat.le_of_ble_eq_true rfl) (Or.inl rfl) rfl rfl h ?_
  rintro _ _ σ1 ⟨rfl, rfl, h⟩
  change zX _ _ 0 0 11 _ [] _ _ _
  refine x_iconst (v := 0) dX7_moresAsTold_11 rfl ?_
  refine x_istore dX7_moresAsTold_12 rfl (Nat.le_of_ble_eq_true rfl) (L2 := [_, _, _, _, _, _]) rfl ?_
  exact x_wk (wC (wC (wJ (wC (wC (wC (wN _))))))) h
set_option maxRecDepth 20000 in
theorem s_X7_moresAsTold_14 {d : Nat} {g : zG} {σ : zI} {K : Int32 → zI → Prop} (hg : zGA g) {l1 : Nat} (h_l1 : zSt g l1) {l3 : Nat} (h_l3 : zOb g l3 0) {l4 : Int32} {l5 : Int32} (h : (if (10 ≤ l5 : Prop) then K l4 σ else zCI mX3_firstOtherwise d [.ref 22, .ref l1, .ref 41, .ref l3] g (zsI σ 41 2 l5) (fun v1 σ1 => (if (v1 = (-1) : Prop) then p_X7_moresAsTold_14 d g K σ1 l1 l3 (l4 ||| (1 <<< (l5 &&& 31))) (l5 + 1) else p_X7_moresAsTold_14 d g K σ1 l1 l3 l4 (l5 + 1))))) : p_X7_moresAsTold_14 d g K σ l1 l3 l4 l5 := by
  refine x_iload dX7_moresAsTold_14 rfl ?_
  refine x_bipush (v := 10) dX7_moresAsTold_16 rfl ?_
  refine x_icmp_ge (tgt := 62) dX7_moresAsTold_18 rfl (fun q1 => ?_) (fun q1 => ?_)
  · replace h := itT q1 h
    refine x_iload dX7_moresAsTold_62 rfl ?_
    exact x_iret (S := []) dX7_moresAsTold_64 rfl rfl ⟨_, rfl, rfl, h⟩
  · replace h := itF q1 h
    refine x_aload_n dX7_moresAsTold_21 rfl ?_
    refine x_getR dX7_moresAsTold_22 fl_X7_54 (gA_0 hg) rfl (gA_0_6 hg) ?_
    refine x_iload dX7_moresAsTold_25 rfl ?_
    refine x_putI dX7_moresAsTold_27 fl_X7_87 (gA_41 hg) rfl rfl ?_
    refine x_aload_n dX7_moresAsTold_30 rfl ?_
    refine x_getR dX7_moresAsTold_31 fl_X7_33 (gA_0 hg) rfl (gA_0_3 hg) ?_
    refine x_aload_n dX7_moresAsTold_34 rfl ?_
    refine x_aload_n dX7_moresAsTold_35 rfl ?_
    refine x_getR dX7_moresAsTold_36 fl_X7_54 (gA_0 hg) rfl (gA_0_6 hg) ?_
    refine x_aload_n dX7_moresAsTold_39 rfl ?_
    refine x_callV (Y2 := mX3_firstOtherwise) (as := [.ref l1, .ref 41, .ref l3]) (S := []) (kc2 := 0) (ks2 := 0) mv_mX3_firstOtherwise (Or.inl ⟨3, _, rfl, rfl, (gA_22 hg)⟩) dX7_moresAsTold_40 lk_X7_216 mo_mX3_firstOtherwise rfl rfl (Nat.le_of_ble_eq_true rfl) (Or.inl rfl) rfl rfl h ?_
    rintro _ _ σ1 ⟨v1, rfl, rfl, h⟩
    change zX _ _ 0 0 43 _ [.int v1] _ _ _
    refine x_iconst (v := (-1)) dX7_moresAsTold_43 rfl ?_
    refine x_icmp_ne (tgt := 56) dX7_moresAsTold_44 rfl (fun q2 => ?_) (fun q2 => ?_)
    · replace h := itF q2 h
      refine x_iinc dX7_moresAsTold_56 rfl (v := l5 + 1) rfl rfl (Nat.le_of_ble_eq_true rfl) (L2 := [_, _, _, _, _, _]) rfl ?_
      refine x_goto (tgt := 14) dX7_moresAsTold_59 rfl ?_
      exact h
    · replace h := itT q2 h
      refine x_iload dX7_moresAsTold_47 rfl ?_
      refine x_iconst (v := 1) dX7_moresAsTold_49 rfl ?_
      refine x_iload dX7_moresAsTold_50 rfl ?_
      refine x_ishl dX7_moresAsTold_52 ?_
      refine x_ior dX7_moresAsTold_53 ?_
      refine x_istore dX7_moresAsTold_54 rfl (Nat.le_of_ble_eq_true rfl) (L2 := [_, _, _, _, _, _]) rfl ?_
      refine x_iinc dX7_moresAsTold_56 rfl (v := l5 + 1) rfl rfl (Nat.le_of_ble_eq_true rfl) (L2 := [_, _, _, _, _, _]) rfl ?_
      refine x_goto (tgt := 14) dX7_moresAsTold_59 rfl ?_
      exact h
abbrev p_X7_textsAsTold_15 (d : Nat) (g : zG) (K : Int32 → zI → Prop) (σ : zI) (l1 : Nat) (l2 : Nat) (l3 : Nat) (l4 : Int32) (l5 : Int32) (l6 : Int32) : Prop := zX mX7_textsAsTold (d + 1) 0 0 15 [.ref 0, .ref l1, .ref l2, .ref l3, .int l4, .int l5, .int l6] [] g σ (zqI g K)
set_option maxRecDepth 20000 in
theorem s_X7_textsAsTold {d : Nat} {g : zG} {σ : zI} {K : Int32 → zI → Prop} (hg : zGA g) {l1 : Nat} (h1 : zSt g l1) {l2 : Nat} (h2 : zOb g l2 0) {l3 : Nat} (h3 : zOb g l3 0) (h : p_X7_textsAsTold_15 d g K σ l1 l2 l3 0 (σ 3 6) 0) : zCI mX7_textsAsTold (d + 1) [.ref 0, .ref l1, .ref l2, .ref l3] g σ K := by
  refine c_of_x pn_mX7_textsAsTold rfl (Nat.le_of_ble_eq_true rfl) ?_
  change zX _ _ 0 0 0 [.ref 0, .ref l1, .ref l2, .ref l3] [] g σ _
  refine x_iconst (v := 0) dX7_textsAsTold_0 rfl ?_
  refine x_istore dX7_textsAsTold_1 rfl (Nat.le_of_ble_eq_true rfl) (L2 := [_, _, _, _, _]) rfl ?_
  refine x_aload_n dX7_textsAsTold_3 rfl ?_
  refine x_getR dX7_textsAsTold_4 fl_X7_24 (gA_0 hg) rfl (gA_0_2 hg) ?_
  refine x_getI dX7_textsAsTold_7 fl_X7_133 (gA_3 hg) rfl ?_
  refine x_istore dX7_textsAsTold_10 rfl (Nat.le_of_ble_eq_true rfl) (L2 := [_, _, _, _, _, _]) rfl ?_
  refine x_iconst (v := 0) dX7_textsAsTold_12 rfl ?_
  refine x_istore dX7_textsAsTold_13 rfl (Nat.le_of_ble_eq_true rfl) (L2 := [_, _, _, _, _, _, _]) rfl ?_
  exact h
set_option maxRecDepth 20000 in
theorem s_X7_textsAsTold_15 {d : Nat} {g : zG} {σ : zI} {K : Int32 → zI → Prop} (hg : zGA g) {l1 : Nat} (h_l1 : zSt g l1) {l2 : Nat} (h_l2 : zOb g l2 0) {l3 : Nat} (h_l3 : zOb g l3 0) {l4 : Int32} {l5 : Int32} {l6 : Int32} (h : (if ((σ 3 5) ≤ l6 : Prop) then K l4 (zsI σ 3 6 l5) else zCI mX3_firstOtherwise d [.ref 22, .ref l1, .ref l2, .ref l3] g (zsI σ 3 6 l6) (fun v1 σ1 => (if (v1 = (-1) : Prop) then p_X7_textsAsTold_15 d g K σ1 l1 l2 l3 (l4 ||| (1 <<< (l6 &&& 31))) l5 (l6 + 1) else p_X7_textsAsTold_15 d g K σ1 l1 l2 l3 l4 l5 (l6 + 1))))) : p_X7_textsAsTold_15 d g K σ l1 l2 l3 l4 l5 l6 := by
  refine x_iload dX7_textsAsTold_15 rfl ?_
  refine x_aload_n dX7_textsAsTold_17 rfl ?_
  refine x_getR dX7_textsAsTold_18 fl_X7_24 (gA_0 hg) rfl (gA_0_2 hg) ?_
  refine x_getI dX7_textsAsTold_21 fl_X7_127 (gA_3 hg) rfl ?_
  refine x_icmp_ge (tgt := 65) dX7_textsAsTold_24 rfl (fun q1 => ?_) (fun q1 => ?_)
  · replace h := itT q1 h
    refine x_aload_n dX7_textsAsTold_65 rfl ?_
    refine x_getR dX7_textsAsTold_66 fl_X7_24 (gA_0 hg) rfl (gA_0_2 hg) ?_
    refine x_iload dX7_textsAsTold_69 rfl ?_
    refine x_putI dX7_textsAsTold_71 fl_X7_133 (gA_3 hg) rfl rfl ?_
    refine x_iload dX7_textsAsTold_74 rfl ?_
    exact x_iret (S := []) dX7_textsAsTold_76 rfl rfl ⟨_, rfl, rfl, h⟩
  · replace h := itF q1 h
    refine x_aload_n dX7_textsAsTold_27 rfl ?_
    refine x_getR dX7_textsAsTold_28 fl_X7_24 (gA_0 hg) rfl (gA_0_2 hg) ?_
    refine x_iload dX7_textsAsTold_31 rfl ?_
    refine x_putI dX7_textsAsTold_33 fl_X7_133 (gA_3 hg) rfl rfl ?_
    refine x_aload_n dX7_textsAsTold_36 rfl ?_
    refine x_getR dX7_textsAsTold_37 fl_X7_33 (gA_0 hg) rfl (gA_0_3 hg) ?_
    refine x_aload_n dX7_textsAsTold_40 rfl ?_
    refine x_aload_n dX7_textsAsTold_41 rfl ?_
    refine x_aload_n dX7_textsAsTold_42 rfl ?_
    refine x_callV (Y2 := mX3_firstOtherwise) (as := [.ref l1, .ref l2, .ref l3]) (S := []) (kc2 := 0) (ks2 := 0) mv_mX3_firstOtherwise (Or.inl ⟨3, _, rfl, rfl, (gA_22 hg)⟩) dX7_textsAsTold_43 lk_X7_216 mo_mX3_firstOtherwise rfl rfl (Nat.le_of_ble_eq_true rfl) (Or.inl rfl) rfl rfl h ?_
    rintro _ _ σ1 ⟨v1, rfl, rfl, h⟩
    change zX _ _ 0 0 46 _ [.int v1] _ _ _
    refine x_iconst (v := (-1)) dX7_textsAsTold_46 rfl ?_
    refine x_icmp_ne (tgt := 59) dX7_textsAsTold_47 rfl (fun q2 => ?_) (fun q2 => ?_)
    · replace h := itF q2 h
      refine x_iinc dX7_textsAsTold_59 rfl (v := l6 + 1) rfl rfl (Nat.le_of_ble_eq_true rfl) (L2 := [_, _, _, _, _, _, _]) rfl ?_
      refine x_goto (tgt := 15) dX7_textsAsTold_62 rfl ?_
      exact h
    · replace h := itT q2 h
      refine x_iload dX7_textsAsTold_50 rfl ?_
      refine x_iconst (v := 1) dX7_textsAsTold_52 rfl ?_
      refine x_iload dX7_textsAsTold_53 rfl ?_
      refine x_ishl dX7_textsAsTold_55 ?_
      refine x_ior dX7_textsAsTold_56 ?_
      refine x_istore dX7_textsAsTold_57 rfl (Nat.le_of_ble_eq_true rfl) (L2 := [_, _, _, _, _, _, _]) rfl ?_
      refine x_iinc dX7_textsAsTold_59 rfl (v := l6 + 1) rfl rfl (Nat.le_of_ble_eq_true rfl) (L2 := [_, _, _, _, _, _, _]) rfl ?_
      refine x_goto (tgt := 15) dX7_textsAsTold_62 rfl ?_
      exact h
abbrev p_X7_numbersThatMust_14 (d : Nat) (g : zG) (K : Int32 → zI → Prop) (σ : zI) (l1 : Nat) (l2 : Nat) (l3 : Nat) (l4 : Int32) (l5 : Int32) : Prop := zX mX7_numbersThatMust (d + 1) 0 0 14 [.ref 0, .ref l1, .ref l2, .ref l3, .int l4, .int l5] [] g σ (zqI g K)
set_option maxRecDepth 20000 in
theorem s_X7_numbersThatMust {d : Nat} {g : zG} {σ : zI} {K : Int32 → zI → Prop} (hg : zGA g) {l1 : Nat} (h1 : zSt g l1) {l2 : Nat} (h2 : zOb g l2 0) {l3 : Nat} (h3 : zOb g l3 0) (h : zCV mX0_become d [.ref 41, .ref l2] g σ (fun σ1 => p_X7_numbersThatMust_14 d g K σ1 l1 l2 l3 0 1)) : zCI mX7_numbersThatMust (d + 1) [.ref 0, .ref l1, .ref l2, .ref l3] g σ K := by
  refine c_of_x pn_mX7_numbersThatMust rfl (Nat.le_of_ble_eq_true rfl) ?_
  change zX _ _ 0 0 0 [.ref 0, .ref l1, .ref l2, .ref l3] [] g σ _
  refine x_iconst (v := 0) dX7_numbersThatMust_0 rfl ?_
  refine x_istore dX7_numbersThatMust_1 rfl (Nat.le_of_ble_eq_true rfl) (L2 := [_, _, _, _, _]) rfl ?_
  refine x_aload_n dX7_numbersThatMust_3 rfl ?_
  refine x_getR dX7_numbersThatMust_4 fl_X7_54 (gA_0 hg) rfl (gA_0_6 hg) ?_
  refine x_aload_n dX7_numbersThatMust_7 rfl ?_
  refine x_callV (Y2 := mX0_become) (as := [.ref l2]) (S := []) (kc2 := 0) (ks2 := 0) mv_mX0_become (Or.inl ⟨0, _, rfl, rfl, (gA_41 hg)⟩) dX7_numbersThatMust_8 lk_X7_198 mo_mX0_become rfl rfl (Nat.le_of_ble_eq_true rfl) (Or.inl rfl) rfl rfl h ?_
  rintro _ _ σ1 ⟨rfl, rfl, h⟩
  change zX _ _ 0 0 11 _ [] _ _ _
  refine x_iconst (v := 1) dX7_numbersThatMust_11 rfl ?_
  refine x_istore dX7_numbersThatMust_12 rfl (Nat.le_of_ble_eq_true rfl) (L2 := [_, _, _, _, _, _]) rfl ?_
  exact h
set_option maxRecDepth 20000 in
theorem s_X7_numbersThatMust_14 {d : Nat} {g : zG} {σ : zI} {K : Int32 → zI → Prop} (hg : zGA g) {l1 : Nat} (h_l1 : zSt g l1) {l2 : Nat} (h_l2 : zOb g l2 0) {l3 : Nat} (h_l3 : zOb g l3 0) {l4 : Int32} {l5 : Int32} (h : (if (30 < l5 : Prop) then K l4 σ else zCI mX7_has d [.int (σ l2 3), .int l5] g σ (fun v1 σ1 => (if (v1 = 0 : Prop) then p_X7_numbersThatMust_14 d g K σ1 l1 l2 l3 l4 (l5 + 1) else zCI mX7_bit d [.int l5] g σ1 (fun v2 σ2 => zCI mX3_firstOtherwise d [.ref 22, .ref l1, .ref 41, .ref l3] g (zsI σ2 41 3 ((σ1 l2 3) &&& (v2 ^^^ (-1)))) (fun v3 σ3 => (if (v3 = (-1) : Prop) then p_X7_numbersThatMust_14 d g K σ3 l1 l2 l3 l4 (l5 + 1) else zCI mX7_bit d [.int l5] g σ3 (fun v4 σ4 => p_X7_numbersThatMust_14 d g K σ4 l1 l2 l3 (l4 ||| v4) (l5 + 1))))))))) : p_X7_numbersThatMust_14 d g K σ l1 l2 l3 l4 l5 := by
  refine x_iload dX7_numbersThatMust_14 rfl ?_
  refine x_bipush (v := 30) dX7_numbersThatMust_16 rfl ?_
  refine x_icmp_gt (tgt := 85) dX7_numbersThatMust_18 rfl (fun q1 => ?_) (fun q1 => ?_)
  · replace h := itT q1 h
    refine x_iload dX7_numbersThatMust_85 rfl ?_
    exact x_iret (S := []) dX7_numbersThatMust_87 rfl rfl ⟨_, rfl, rfl, h⟩
  · replace h := itF q1 h
    refine x_aload_n dX7_numbersThatMust_21 rfl ?_
    refine x_getI dX7_numbersThatMust_22 fl_X7_90 h_l2 rfl ?_
    refine x_iload dX7_numbersThatMust_25 rfl ?_
    refine x_callS (Y2 := mX7_has) (as := [.int (σ l2 3), .int l5]) (S := []) (kc2 := 0) (ks2 := 0) st_mX7_has dX7_numbersThatMust_27 lk_X7_97 mo_mX7_has rfl rfl (Nat.le_of_ble_eq_true rfl) (Or.inl rfl) rfl rfl h ?_
    rintro _ _ σ1 ⟨v1, rfl, rfl, h⟩
    change zX _ _ 0 0 30 _ [.int v1] _ _ _
    refine x_if_eq (tgt := 79) dX7_numbersThatMust_30 rfl (fun q2 => ?_) (fun q2 => ?_)
    · replace h := itT q2 h
      refine x_iinc dX7_numbersThatMust_79 rfl (v := l5 + 1) rfl rfl (Nat.le_of_ble_eq_true rfl) (L2 := [_, _, _, _, _, _]) rfl ?_
      refine x_goto (tgt := 14) dX7_numbersThatMust_82 rfl ?_
      exact h
    · replace h := itF q2 h
      refine x_aload_n dX7_numbersThatMust_33 rfl ?_
      refine x_getR dX7_numbersThatMust_34 fl_X7_54 (gA_0 hg) rfl (gA_0_6 hg) ?_
      refine x_aload_n dX7_numbersThatMust_37 rfl ?_
      refine x_getI dX7_numbersThatMust_38 fl_X7_90 h_l2 rfl ?_
      refine x_iload dX7_numbersThatMust_41 rfl ?_
      refine x_callS (Y2 := mX7_bit) (as := [.int l5]) (S := [.int (σ1 l2 3), .ref 41]) (kc2 := 0) (ks2 := 0) st_mX7_bit dX7_numbersThatMust_43 lk_X7_101 mo_mX7_bit rfl rfl (Nat.le_of_ble_eq_true rfl) (Or.inl rfl) rfl rfl h ?_
      rintro _ _ σ2 ⟨v2, rfl, rfl, h⟩
      change zX _ _ 0 0 46 _ [.int v2, .int (σ1 l2 3), .ref 41] _ _ _
      refine x_iconst (v := (-1)) dX7_numbersThatMust_46 rfl ?_
      refine x_ixor dX7_numbersThatMust_47 ?_
      refine x_iand dX7_numbersThatMust_48 ?_
      refine x_putI dX7_numbersThatMust_49 fl_X7_90 (gA_41 hg) rfl rfl ?_
      refine x_aload_n dX7_numbersThatMust_52 rfl ?_
      refine x_getR dX7_numbersThatMust_53 fl_X7_33 (gA_0 hg) rfl (gA_0_3 hg) ?_
      refine x_aload_n dX7_numbersThatMust_56 rfl ?_
      refine x_aload_n dX7_numbersThatMust_57 rfl ?_
      refine x_getR dX7_numbersThatMust_58 fl_X7_54 (gA_0 hg) rfl (gA_0_6 hg) ?_
      refine x_aload_n dX7_numbersThatMust_61 rfl ?_
      refine x_callV (Y2 := mX3_firstOtherwise) (as := [.ref l1, .ref 41, .ref l3]) (S := []) (kc2 := 0) (ks2 := 0) mv_mX3_firstOtherwise (Or.inl ⟨3, _, rfl, rfl, (gA_22 hg)⟩) dX7_numbersThatMust_62 lk_X7_216 mo_mX3_firstOtherwise rfl rfl (Nat.le_of_ble_eq_true rfl) (Or.inl rfl) rfl rfl h ?_
      rintro _ _ σ3 ⟨v3, rfl, rfl, h⟩
      change zX _ _ 0 0 65 _ [.int v3] _ _ _
      refine x_iconst (v := (-1)) dX7_numbersThatMust_65 rfl ?_
      refine x_icmp_eq (tgt := 79) dX7_numbersThatMust_66 rfl (fun q3 => ?_) (fun q3 => ?_)
      · replace h := itT q3 h
        refine x_iinc dX7_numbersThatMust_79 rfl (v := l5 + 1) rfl rfl (Nat.le_of_ble_eq_true rfl) (L2 := [_, _, _, _, _, _]) rfl ?_
        refine x_goto (tgt := 14) dX7_numbersThatMust_82 rfl ?_
        exact h
      · replace h := itF q3 h
        refine x_iload dX7_numbersThatMust_69 rfl ?_
        refine x_iload dX7_numbersThatMust_71 rfl ?_
        refine x_callS (Y2 := mX7_bit) (as := [.int l5]) (S := [.int l4]) (kc2 := 0) (ks2 := 0) st_mX7_bit dX7_numbersThatMust_73 lk_X7_101 mo_mX7_bit rfl rfl (Nat.le_of_ble_eq_true rfl) (Or.inl rfl) rfl rfl h ?_
        rintro _ _ σ4 ⟨v4, rfl, rfl, h⟩
        change zX _ _ 0 0 76 _ [.int v4, .int l4] _ _ _
        refine x_ior dX7_numbersThatMust_76 ?_
        refine x_istore dX7_numbersThatMust_77 rfl (Nat.le_of_ble_eq_true rfl) (L2 := [_, _, _, _, _, _]) rfl ?_
        refine x_iinc dX7_numbersThatMust_79 rfl (v := l5 + 1) rfl rfl (Nat.le_of_ble_eq_true rfl) (L2 := [_, _, _, _, _, _]) rfl ?_
        refine x_goto (tgt := 14) dX7_numbersThatMust_82 rfl ?_
        exact h
abbrev p_X7_numbersThatMay_14 (d : Nat) (g : zG) (K : Int32 → zI → Prop) (σ : zI) (l1 : Nat) (l2 : Nat) (l3 : Nat) (l4 : Int32) (l5 : Int32) : Prop := zX mX7_numbersThatMay (d + 1) 0 0 14 [.ref 0, .ref l1, .ref l2, .ref l3, .int l4, .int l5] [] g σ (zqI g K)
set_option maxRecDepth 20000 in
theorem s_X7_numbersThatMay {d : Nat} {g : zG} {σ : zI} {K : Int32 → zI → Prop} (hg : zGA g) {l1 : Nat} (h1 : zSt g l1) {l2 : Nat} (h2 : zOb g l2 0) {l3 : Nat} (h3 : zOb g l3 0) (h : zCV mX0_become d [.ref 41, .ref l2] g σ (fun σ1 => p_X7_numbersThatMay_14 d g K σ1 l1 l2 l3 0 1)) : zCI mX7_numbersThatMay (d + 1) [.ref 0, .ref l1, .ref l2, .ref l3] g σ K := by
  refine c_of_x pn_mX7_numbersThatMay rfl (Nat.le_of_ble_eq_true rfl) ?_
  change zX _ _ 0 0 0 [.ref 0, .ref l1, .ref l2, .ref l3] [] g σ _
  refine x_iconst (v := 0) dX7_numbersThatMay_0 rfl ?_
  refine x_istore dX7_numbersThatMay_1 rfl (Nat.le_of_ble_eq_true rfl) (L2 := [_, _, _, _, _]) rfl ?_
  refine x_aload_n dX7_numbersThatMay_3 rfl ?_
  refine x_getR dX7_numbersThatMay_4 fl_X7_54 (gA_0 hg) rfl (gA_0_6 hg) ?_
  refine x_aload_n dX7_numbersThatMay_7 rfl ?_
  refine x_callV (Y2 := mX0_become) (as := [.ref l2]) (S := []) (kc2 := 0) (ks2 := 0) mv_mX0_become (Or.inl ⟨0, _, rfl, rfl, (gA_41 hg)⟩) dX7_numbersThatMay_8 lk_X7_198 mo_mX0_become rfl rfl (Nat.le_of_ble_eq_true rfl) (Or.inl rfl) rfl rfl h ?_
  rintro _ _ σ1 ⟨rfl, rfl, h⟩
  change zX _ _ 0 0 11 _ [] _ _ _
  refine x_iconst (v := 1) dX7_numbersThatMay_11 rfl ?_
  refine x_istore dX7_numbersThatMay_12 rfl (Nat.le_of_ble_eq_true rfl) (L2 := [_, _, _, _, _, _]) rfl ?_
  exact h
set_option maxRecDepth 20000 in
theorem s_X7_numbersThatMay_14 {d : Nat} {g : zG} {σ : zI} {K : Int32 → zI → Prop} (hg : zGA g) {l1 : Nat} (h_l1 : zSt g l1) {l2 : Nat} (h_l2 : zOb g l2 0) {l3 : Nat} (h_l3 : zOb g l3 0) {l4 : Int32} {l5 : Int32} (h : (if (30 < l5 : Prop) then K l4 σ else zCI mX7_has d [.int (σ l2 3), .int l5] g σ (fun v1 σ1 => (if (v1 = 0 : Prop) then zCI mX7_bit d [.int l5] g σ1 (fun v2 σ2 => zCI mX3_firstOtherwise d [.ref 22, .ref l1, .ref 41, .ref l3] g (zsI σ2 41 3 ((σ1 l2 3) ||| v2)) (fun v3 σ3 => (if (v3 = (-1) : Prop) then zCI mX7_bit d [.int l5] g σ3 (fun v4 σ4 => p_X7_numbersThatMay_14 d g K σ4 l1 l2 l3 (l4 ||| v4) (l5 + 1)) else p_X7_numbersThatMay_14 d g K σ3 l1 l2 l3 l4 (l5 + 1)))) else p_X7_numbersThatMay_14 d g K σ1 l1 l2 l3 l4 (l5 + 1))))) : p_X7_numbersThatMay_14 d g K σ l1 l2 l3 l4 l5 := by
  refine x_iload dX7_numbersThatMay_14 rfl ?_
  refine x_bipush (v := 30) dX7_numbersThatMay_16 rfl ?_
  refine x_icmp_gt (tgt := 83) dX7_numbersThatMay_18 rfl (fun q1 => ?_) (fun q1 => ?_)
  · replace h := itT q1 h
    refine x_iload dX7_numbersThatMay_83 rfl ?_
    exact x_iret (S := []) dX7_numbersThatMay_85 rfl rfl ⟨_, rfl, rfl, h⟩
  · replace h := itF q1 h
    refine x_aload_n dX7_numbersThatMay_21 rfl ?_
    refine x_getI dX7_numbersThatMay_22 fl_X7_90 h_l2 rfl ?_
    refine x_iload dX7_numbersThatMay_25 rfl ?_
    refine x_callS (Y2 := mX7_has) (as := [.int (σ l2 3), .int l5]) (S := []) (kc2 := 0) (ks2 := 0) st_mX7_has dX7_numbersThatMay_27 lk_X7_97 mo_mX7_has rfl rfl (Nat.le_of_ble_eq_true rfl) (Or.inl rfl) rfl rfl h ?_
    rintro _ _ σ1 ⟨v1, rfl, rfl, h⟩
    change zX _ _ 0 0 30 _ [.int v1] _ _ _
    refine x_if_ne (tgt := 77) dX7_numbersThatMay_30 rfl (fun q2 => ?_) (fun q2 => ?_)
    · replace h := itF q2 h
      refine x_iinc dX7_numbersThatMay_77 rfl (v := l5 + 1) rfl rfl (Nat.le_of_ble_eq_true rfl) (L2 := [_, _, _, _, _, _]) rfl ?_
      refine x_goto (tgt := 14) dX7_numbersThatMay_80 rfl ?_
      exact h
    · replace h := itT q2 h
      refine x_aload_n dX7_numbersThatMay_33 rfl ?_
      refine x_getR dX7_numbersThatMay_34 fl_X7_54 (gA_0 hg) rfl (gA_0_6 hg) ?_
      refine x_aload_n dX7_numbersThatMay_37 rfl ?_
      refine x_getI dX7_numbersThatMay_38 fl_X7_90 h_l2 rfl ?_
      refine x_iload dX7_numbersThatMay_41 rfl ?_
      refine x_callS (Y2 := mX7_bit) (as := [.int l5]) (S := [.int (σ1 l2 3), .ref 41]) (kc2 := 0) (ks2 := 0) st_mX7_bit dX7_numbersThatMay_43 lk_X7_101 mo_mX7_bit rfl rfl (Nat.le_of_ble_eq_true rfl) (Or.inl rfl) rfl rfl h ?_
      rintro _ _ σ2 ⟨v2, rfl, rfl, h⟩
      change zX _ _ 0 0 46 _ [.int v2, .int (σ1 l2 3), .ref 41] _ _ _
      refine x_ior dX7_numbersThatMay_46 ?_
      refine x_putI dX7_numbersThatMay_47 fl_X7_90 (gA_41 hg) rfl rfl ?_
      refine x_aload_n dX7_numbersThatMay_50 rfl ?_
      refine x_getR dX7_numbersThatMay_51 fl_X7_33 (gA_0 hg) rfl (gA_0_3 hg) ?_
      refine x_aload_n dX7_numbersThatMay_54 rfl ?_
      refine x_aload_n dX7_numbersThatMay_55 rfl ?_
      refine x_getR dX7_numbersThatMay_56 fl_X7_54 (gA_0 hg) rfl (gA_0_6 hg) ?_
      refine x_aload_n dX7_numbersThatMay_59 rfl ?_
      refine x_callV (Y2 := mX3_firstOtherwise) (as := [.ref l1, .ref 41, .ref l3]) (S := []) (kc2 := 0) (ks2 := 0) mv_mX3_firstOtherwise (Or.inl ⟨3, _, rfl, rfl, (gA_22 hg)⟩) dX7_numbersThatMay_60 lk_X7_216 mo_mX3_firstOtherwise rfl rfl (Nat.le_of_ble_eq_true rfl) (Or.inl rfl) rfl rfl h ?_
      rintro _ _ σ3 ⟨v3, rfl, rfl, h⟩
      change zX _ _ 0 0 63 _ [.int v3] _ _ _
      refine x_iconst (v := (-1)) dX7_numbersThatMay_63 rfl ?_
      refine x_icmp_ne (tgt := 77) dX7_numbersThatMay_64 rfl (fun q3 => ?_) (fun q3 => ?_)
      · replace h := itF q3 h
        refine x_iinc dX7_numbersThatMay_77 rfl (v := l5 + 1) rfl rfl (Nat.le_of_ble_eq_true rfl) (L2 := [_, _, _, _, _, _]) rfl ?_
        refine x_goto (tgt := 14) dX7_numbersThatMay_80 rfl ?_
        exact h
      · replace h := itT q3 h
        refine x_iload dX7_numbersThatMay_67 rfl ?_
        refine x_iload dX7_numbersThatMay_69 rfl ?_
        refine x_callS (Y2 := mX7_bit) (as := [.int l5]) (S := [.int l4]) (kc2 := 0) (ks2 := 0) st_mX7_bit dX7_numbersThatMay_71 lk_X7_101 mo_mX7_bit rfl rfl (Nat.le_of_ble_eq_true rfl) (Or.inl rfl) rfl rfl h ?_
        rintro _ _ σ4 ⟨v4, rfl, rfl, h⟩
        change zX _ _ 0 0 74 _ [.int v4, .int l4] _ _ _
        refine x_ior dX7_numbersThatMay_74 ?_
        refine x_istore dX7_numbersThatMay_75 rfl (Nat.le_of_ble_eq_true rfl) (L2 := [_, _, _, _, _, _]) rfl ?_
        refine x_iinc dX7_numbersThatMay_77 rfl (v := l5 + 1) rfl rfl (Nat.le_of_ble_eq_true rfl) (L2 := [_, _, _, _, _, _]) rfl ?_
        refine x_goto (tgt := 14) dX7_numbersThatMay_80 rfl ?_
        exact h
abbrev p_X7_film_112 (d : Nat) (g : zG) (K : Int32 → zI → Prop) (σ : zI) (l3 : Int32) (l5 : Nat) (l8 : Int32) (l9 : Int32) : Prop := zX mX7_film (d + 1) 0 0 112 [.ref 0, .retAddr 0, .retAddr 0, .int l3, .retAddr 0, .ref l5, .retAddr 0, .retAddr 0, .int l8, .int l9] [] g σ (zqI g K)
set_option maxRecDepth 20000 in
theorem s_X7_film {d : Nat} {g : zG} {σ : zI} {K : Int32 → zI → Prop} (hg : zGA g) {l1 : Int32} {l2 : Int32} {l3 : Int32} {l4 : Int32} (h : zCR mX7_sheetAt d [.ref 0, .int l1] g σ (fun x1 σ1 => match x1 with | none => zCR mX7_heirAt d [.ref 0, .int (l2 / 10)] g σ1 (fun x2 σ2 => match x2 with | none => zCR mX7_heirAt d [.ref 0, .int (l2 - l2 / 10 * 10)] g σ2 (fun x3 σ3 => match x3 with | none => K (-2) σ3 | some r3 => zOb g r3 0 ∧ K (-2) σ3) | some r2 => zOb g r2 0 ∧ zCR mX7_heirAt d [.ref 0, .int (l2 - l2 / 10 * 10)] g σ2 (fun x3 σ3 => match x3 with | none => K (-2) σ3 | some r3 => zOb g r3 0 ∧ K (-2) σ3)) | some r1 => zSt g r1 ∧ zCR mX7_heirAt d [.ref 0, .int (l2 / 10)] g σ1 (fun x2 σ2 => match x2 with | none => zCR mX7_heirAt d [.ref 0, .int (l2 - l2 / 10 * 10)] g σ2 (fun x3 σ3 => match x3 with | none => K (-2) σ3 | some r3 => zOb g r3 0 ∧ K (-2) σ3) | some r2 => zOb g r2 0 ∧ zCR mX7_heirAt d [.ref 0, .int (l2 - l2 / 10 * 10)] g σ2 (fun x3 σ3 => match x3 with | none => K (-2) σ3 | some r3 => zOb g r3 0 ∧ (if ((r2 : Nat) = r3 : Prop) then K (-2) σ3 else zCI mX7_isSum d [.int l3] g σ3 (fun v1 σ4 => (if (v1 = 0 : Prop) then K (-2) σ4 else (if (l4 < 0 : Prop) then K (-2) σ4 else (if (l4 ≤ 20 : Prop) then zCV mX3_fillLeast d [.ref 22, .ref r2, .ref r3, .int 99, .int 0] g σ4 (fun σ5 => zCV mX5_lay d [.ref r1, .int 1, .int (2 * (if (100 - l3) < l4 then (100 - l3) else l4))] g σ5 (fun σ6 => p_X7_film_112 d g K σ6 l3 r1 (if (100 - l3) < l4 then (100 - l3) else l4) 0)) else K (-2) σ4))))))))) : zCI mX7_film (d + 1) [.ref 0, .int l1, .int l2, .int l3, .int l4] g σ K := by
  refine c_of_x pn_mX7_film rfl (Nat.le_of_ble_eq_true rfl) ?_
  change zX _ _ 0 0 0 [.ref 0, .int l1, .int l2, .int l3, .int l4] [] g σ _
  refine x_aload_n dX7_film_0 rfl ?_
  refine x_iload_n dX7_film_1 rfl ?_
  refine x_callV (Y2 := mX7_sheetAt) (as := [.int l1]) (S := []) (kc2 := 0) (ks2 := 0) mv_mX7_sheetAt (Or.inl ⟨7, _, rfl, rfl, (gA_0 hg)⟩) dX7_film_2 lk_X7_205 mo_mX7_sheetAt rfl rfl (Nat.le_of_ble_eq_true rfl) (Or.inl rfl) rfl rfl h ?_
  rintro _ _ σ1 ⟨x1, rfl, rfl, h⟩
  rcases x1 with _ | r1
  · dsimp only at h
    change zX _ _ 0 0 5 _ [.null] _ _ _
    refine x_astoreN dX7_film_5 rfl (Nat.le_of_ble_eq_true rfl) (L2 := [_, _, _, _, _, _]) rfl ?_
    refine x_aload_n dX7_film_7 rfl ?_
    refine x_iload_n dX7_film_8 rfl ?_
    refine x_bipush (v := 10) dX7_film_9 rfl ?_
    refine x_idiv dX7_film_11 (by decide) ?_
    refine x_callV (Y2 := mX7_heirAt) (as := [.int (l2 / 10)]) (S := []) (kc2 := 0) (ks2 := 0) mv_mX7_heirAt (Or.inl ⟨7, _, rfl, rfl, (gA_0 hg)⟩) dX7_film_12 lk_X7_66 mo_mX7_heirAt rfl rfl (Nat.le_of_ble_eq_true rfl) (Or.inl rfl) rfl rfl h ?_
    rintro _ _ σ2 ⟨x2, rfl, rfl, h⟩
    rcases x2 with _ | r2
    · dsimp only at h
      change zX _ _ 0 0 15 _ [.null] _ _ _
      refine x_astoreN dX7_film_15 rfl (Nat.le_of_ble_eq_true rfl) (L2 := [_, _, _, _, _, _, _]) rfl ?_
      refine x_aload_n dX7_film_17 rfl ?_
      refine x_iload_n dX7_film_18 rfl ?_
      refine x_bipush (v := 10) dX7_film_19 rfl ?_
      refine x_irem dX7_film_21 (by decide) ?_
      refine x_callV (Y2 := mX7_heirAt) (as := [.int (l2 - l2 / 10 * 10)]) (S := []) (kc2 := 0) (ks2 := 0) mv_mX7_heirAt (Or.inl ⟨7, _, rfl, rfl, (gA_0 hg)⟩) dX7_film_22 lk_X7_66 mo_mX7_heirAt rfl rfl (Nat.le_of_ble_eq_true rfl) (Or.inl rfl) rfl rfl h ?_
      rintro _ _ σ3 ⟨x3, rfl, rfl, h⟩
      rcases x3 with _ | r3
      · dsimp only at h
        change zX _ _ 0 0 25 _ [.null] _ _ _
        refine x_astoreN dX7_film_25 rfl (Nat.le_of_ble_eq_true rfl) (L2 := [_, _, _, _, _, _, _, _]) rfl ?_
        refine x_aloadN dX7_film_27 rfl ?_
        refine x_ifnullN (tgt := 49) dX7_film_29 rfl ?_
        refine x_bipush (v := (-2)) dX7_film_49 rfl ?_
        exact x_iret (S := []) dX7_film_51 rfl rfl ⟨_, rfl, rfl, h⟩
      · dsimp only at h
        obtain ⟨q3, h⟩ := h
        change zX _ _ 0 0 25 _ [.ref r3] _ _ _
        refine x_astore dX7_film_25 rfl (Nat.le_of_ble_eq_true rfl) (L2 := [_, _, _, _, _, _, _, _]) rfl ?_
        refine x_aloadN dX7_film_27 rfl ?_
        refine x_ifnullN (tgt := 49) dX7_film_29 rfl ?_
        refine x_bipush (v := (-2)) dX7_film_49 rfl ?_
        exact x_iret (S := []) dX7_film_51 rfl rfl ⟨_, rfl, rfl, h⟩
    · dsimp only at h
      obtain ⟨q2, h⟩ := h
      change zX _ _ 0 0 15 _ [.ref r2] _ _ _
      refine x_astore dX7_film_15 rfl (Nat.le_of_ble_eq_true rfl) (L2 := [_, _, _, _, _, _, _]) rfl ?_
      refine x_aload_n dX7_film_17 rfl ?_
      refine x_iload_n dX7_film_18 rfl ?_
      refine x_bipush (v := 10) dX7_film_19 rfl ?_
      refine x_irem dX7_film_21 (by decide) ?_
      refine x_callV (Y2 := mX7_heirAt) (as := [.int (l2 - l2 / 10 * 10)]) (S := []) (kc2 := 0) (ks2 := 0) mv_mX7_heirAt (Or.inl ⟨7, _, rfl, rfl, (gA_0 hg)⟩) dX7_film_22 lk_X7_66 mo_mX7_heirAt rfl rfl (Nat.le_of_ble_eq_true rfl) (Or.inl rfl) rfl rfl h ?_
      rintro _ _ σ3 ⟨x3, rfl, rfl, h⟩
      rcases x3 with _ | r3
      · dsimp only at h
        change zX _ _ 0 0 25 _ [.null] _ _ _
        refine x_astoreN dX7_film_25 rfl (Nat.le_of_ble_eq_true rfl) (L2 := [_, _, _, _, _, _, _, _]) rfl ?_
        refine x_aloadN dX7_film_27 rfl ?_
        refine x_ifnullN (tgt := 49) dX7_film_29 rfl ?_
        refine x_bipush (v := (-2)) dX7_film_49 rfl ?_
        exact x_iret (S := []) dX7_film_51 rfl rfl ⟨_, rfl, rfl, h⟩
      · dsimp only at h
        obtain ⟨q3, h⟩ := h
        change zX _ _ 0 0 25 _ [.ref r3] _ _ _
        refine x_astore dX7_film_25 rfl (Nat.le_of_ble_eq_true rfl) (L2 := [_, _, _, _, _, _, _, _]) rfl ?_
        refine x_aloadN dX7_film_27 rfl ?_
        refine x_ifnullN (tgt := 49) dX7_film_29 rfl ?_
        refine x_bipush (v := (-2)) dX7_film_49 rfl ?_
        exact x_iret (S := []) dX7_film_51 rfl rfl ⟨_, rfl, rfl, h⟩
  · dsimp only at h
    obtain ⟨q1, h⟩ := h
    change zX _ _ 0 0 5 _ [.ref r1] _ _ _
    refine x_astore dX7_film_5 rfl (Nat.le_of_ble_eq_true rfl) (L2 := [_, _, _, _, _, _]) rfl ?_
    refine x_aload_n dX7_film_7 rfl ?_
    refine x_iload_n dX7_film_8 rfl ?_
    refine x_bipush (v := 10) dX7_film_9 rfl ?_
    refine x_idiv dX7_film_11 (by decide) ?_
    refine x_callV (Y2 := mX7_heirAt) (as := [.int (l2 / 10)]) (S := []) (kc2 := 0) (ks2 := 0) mv_mX7_heirAt (Or.inl ⟨7, _, rfl, rfl, (gA_0 hg)⟩) dX7_film_12 lk_X7_66 mo_mX7_heirAt rfl rfl (Nat.le_of_ble_eq_true rfl) (Or.inl rfl) rfl rfl h ?_
    rintro _ _ σ2 ⟨x2, rfl, rfl, h⟩
    rcases x2 with _ | r2
    · dsimp only at h
      change zX _ _ 0 0 15 _ [.null] _ _ _
      refine x_astoreN dX7_film_15 rfl (Nat.le_of_ble_eq_true rfl) (L2 := [_, _, _, _, _, _, _]) rfl ?_
      refine x_aload_n dX7_film_17 rfl ?_
      refine x_iload_n dX7_film_18 rfl ?_
      refine x_bipush (v := 10) dX7_film_19 rfl ?_
      refine x_irem dX7_film_21 (by decide) ?_
      refine x_callV (Y2 := mX7_heirAt) (as := [.int (l2 - l2 / 10 * 10)]) (S := []) (kc2 := 0) (ks2 := 0) mv_mX7_heirAt (Or.inl ⟨7, _, rfl, rfl, (gA_0 hg)⟩) dX7_film_22 lk_X7_66 mo_mX7_heirAt rfl rfl (Nat.le_of_ble_eq_true rfl) (Or.inl rfl) rfl rfl h ?_
      rintro _ _ σ3 ⟨x3, rfl, rfl, h⟩
      rcases x3 with _ | r3
      · dsimp only at h
        change zX _ _ 0 0 25 _ [.null] _ _ _
        refine x_astoreN dX7_film_25 rfl (Nat.le_of_ble_eq_true rfl) (L2 := [_, _, _, _, _, _, _, _]) rfl ?_
        refine x_aload dX7_film_27 rfl ?_
        refine x_ifnull dX7_film_29 ?_
        refine x_aloadN dX7_film_32 rfl ?_
        refine x_ifnullN (tgt := 49) dX7_film_34 rfl ?_
        refine x_bipush (v := (-2)) dX7_film_49 rfl ?_
        exact x_iret (S := []) dX7_film_51 rfl rfl ⟨_, rfl, rfl, h⟩
      · dsimp only at h
        obtain ⟨q3, h⟩ := h
        change zX _ _ 0 0 25 _ [.ref r3] _ _ _
        refine x_astore dX7_film_25 rfl (Nat.le_of_ble_eq_true rfl) (L2 := [_, _, _, _, _, _, _, _]) rfl ?_
        refine x_aload dX7_film_27 rfl ?_
        refine x_ifnull dX7_film_29 ?_
        refine x_aloadN dX7_film_32 rfl ?_
        refine x_ifnullN (tgt := 49) dX7_film_34 rfl ?_
        refine x_bipush (v := (-2)) dX7_film_49 rfl ?_
        exact x_iret (S := []) dX7_film_51 rfl rfl ⟨_, rfl, rfl, h⟩
    · dsimp only at h
      obtain ⟨q2, h⟩ := h
      change zX _ _ 0 0 15 _ [.ref r2] _ _ _
      refine x_astore dX7_film_15 rfl (Nat.le_of_ble_eq_true rfl) (L2 := [_, _, _, _, _, _, _]) rfl ?_
      refine x_aload_n dX7_film_17 rfl ?_
      refine x_iload_n dX7_film_18 rfl ?_
      refine x_bipush (v := 10) dX7_film_19 rfl ?_
      refine x_irem dX7_film_21 (by decide) ?_
      refine x_callV (Y2 := mX7_heirAt) (as := [.int (l2 - l2 / 10 * 10)]) (S := []) (kc2 := 0) (ks2 := 0) mv_mX7_heirAt (Or.inl ⟨7, _, rfl, rfl, (gA_0 hg)⟩) dX7_film_22 lk_X7_66 mo_mX7_heirAt rfl rfl (Nat.le_of_ble_eq_true rfl) (Or.inl rfl) rfl rfl h ?_
      rintro _ _ σ3 ⟨x3, rfl, rfl, h⟩
      rcases x3 with _ | r3
      · dsimp only at h
        change zX _ _ 0 0 25 _ [.null] _ _ _
        refine x_astoreN dX7_film_25 rfl (Nat.le_of_ble_eq_true rfl) (L2 := [_, _, _, _, _, _, _, _]) rfl ?_
        refine x_aload dX7_film_27 rfl ?_
        refine x_ifnull dX7_film_29 ?_
        refine x_aload dX7_film_32 rfl ?_
        refine x_ifnull dX7_film_34 ?_
        refine x_aloadN dX7_film_37 rfl ?_
        refine x_ifnullN (tgt := 49) dX7_film_39 rfl ?_
        refine x_bipush (v := (-2)) dX7_film_49 rfl ?_
        exact x_iret (S := []) dX7_film_51 rfl rfl ⟨_, rfl, rfl, h⟩
      · dsimp only at h
        obtain ⟨q3, h⟩ := h
        change zX _ _ 0 0 25 _ [.ref r3] _ _ _
        refine x_astore dX7_film_25 rfl (Nat.le_of_ble_eq_true rfl) (L2 := [_, _, _, _, _, _, _, _]) rfl ?_
        refine x_aload dX7_film_27 rfl ?_
        refine x_ifnull dX7_film_29 ?_
        refine x_aload dX7_film_32 rfl ?_
        refine x_ifnull dX7_film_34 ?_
        refine x_aload dX7_film_37 rfl ?_
        refine x_ifnull dX7_film_39 ?_
        refine x_aload dX7_film_42 rfl ?_
        refine x_aload dX7_film_44 rfl ?_
        refine x_acmp_ne (tgt := 52) dX7_film_46 q2.1 q3.1 rfl (fun q4 => ?_) (fun q4 => ?_)
        · replace h := itF q4 h
          refine x_iload_n dX7_film_52 rfl ?_
          refine x_callS (Y2 := mX7_isSum) (as := [.int l3]) (S := []) (kc2 := 0) (ks2 := 0) st_mX7_isSum dX7_film_53 lk_X7_136 mo_mX7_isSum rfl rfl (Nat.le_of_ble_eq_true rfl) (Or.inl rfl) rfl rfl h ?_
          rintro _ _ σ4 ⟨v1, rfl, rfl, h⟩
          change zX _ _ 0 0 56 _ [.int v1] _ _ _
          refine x_if_eq (tgt := 71) dX7_film_56 rfl (fun q5 => ?_) (fun q5 => ?_)
          · replace h := itT q5 h
            refine x_bipush (v := (-2)) dX7_film_71 rfl ?_
            exact x_iret (S := []) dX7_film_73 rfl rfl ⟨_, rfl, rfl, h⟩
          · replace h := itF q5 h
            refine x_iload dX7_film_59 rfl ?_
            refine x_if_lt (tgt := 71) dX7_film_61 rfl (fun q6 => ?_) (fun q6 => ?_)
            · replace h := itT q6 h
              refine x_bipush (v := (-2)) dX7_film_71 rfl ?_
              exact x_iret (S := []) dX7_film_73 rfl rfl ⟨_, rfl, rfl, h⟩
            · replace h := itF q6 h
              refine x_iload dX7_film_64 rfl ?_
              refine x_bipush (v := 20) dX7_film_66 rfl ?_
              refine x_icmp_le (tgt := 74) dX7_film_68 rfl (fun q7 => ?_) (fun q7 => ?_)
              · replace h := itT q7 h
                refine x_iload dX7_film_74 rfl ?_
                refine x_bipush (v := 100) dX7_film_76 rfl ?_
                refine x_iload_n dX7_film_78 rfl ?_
                refine x_isub dX7_film_79 ?_
                refine x_mmin dX7_film_80 lw_X7_235 tw_min1 tw_math tw_min2 (Nat.le_of_ble_eq_true rfl) ?_
                refine x_istore dX7_film_83 rfl (Nat.le_of_ble_eq_true rfl) (L2 := [_, _, _, _, _, _, _, _, _]) rfl ?_
                refine x_aload_n dX7_film_85 rfl ?_
                refine x_getR dX7_film_86 fl_X7_33 (gA_0 hg) rfl (gA_0_3 hg) ?_
                refine x_aload dX7_film_89 rfl ?_
                refine x_aload dX7_film_91 rfl ?_
                refine x_bipush (v := 99) dX7_film_93 rfl ?_
                refine x_iconst (v := 0) dX7_film_95 rfl ?_
                refine x_callV (Y2 := mX3_fillLeast) (as := [.ref r2, .ref r3, .int 99, .int 0]) (S := []) (kc2 := 0) (ks2 := 0) mv_mX3_fillLeast (Or.inl ⟨3, _, rfl, rfl, (gA_22 hg)⟩) dX7_film_96 lk_X7_153 mo_mX3_fillLeast rfl rfl (Nat.le_of_ble_eq_true rfl) (Or.inl rfl) rfl rfl h ?_
                rintro _ _ σ5 ⟨rfl, rfl, h⟩
                change zX _ _ 0 0 99 _ [] _ _ _
                refine x_aload dX7_film_99 rfl ?_
                refine x_iconst (v := 1) dX7_film_101 rfl ?_
                refine x_iconst (v := 2) dX7_film_102 rfl ?_
                refine x_iload dX7_film_103 rfl ?_
                refine x_imul dX7_film_105 ?_
                refine x_callV (Y2 := mX5_lay) (as := [.int 1, .int (2 * (if (100 - l3) < l4 then (100 - l3) else l4))]) (S := []) (kc2 := 0) (ks2 := 0) mv_mX5_lay (Or.inl ⟨5, _, rfl, rfl, q1.1⟩) dX7_film_106 lk_X7_241 mo_mX5_lay rfl rfl (Nat.le_of_ble_eq_true rfl) (Or.inl rfl) rfl rfl h ?_
                rintro _ _ σ6 ⟨rfl, rfl, h⟩
                change zX _ _ 0 0 109 _ [] _ _ _
                refine x_iconst (v := 0) dX7_film_109 rfl ?_
                refine x_istore dX7_film_110 rfl (Nat.le_of_ble_eq_true rfl) (L2 := [_, _, _, _, _, _, _, _, _, _]) rfl ?_
                exact x_wk (wC (wJ (wJ (wC (wJ (wC (wJ (wJ (wC (wC (wN _))))))))))) h
              · replace h := itF q7 h
                refine x_bipush (v := (-2)) dX7_film_71 rfl ?_
                exact x_iret (S := []) dX7_film_73 rfl rfl ⟨_, rfl, rfl, h⟩
        · replace h := itT q4 h
          refine x_bipush (v := (-2)) dX7_film_49 rfl ?_
          exact x_iret (S := []) dX7_film_51 rfl rfl ⟨_, rfl, rfl, h⟩
set_option maxRecDepth 20000 in
theorem s_X7_film_112 {d : Nat} {g : zG} {σ : zI} {K : Int32 → zI → Prop} (hg : zGA g) {l3 : Int32} {l5 : Nat} (h_l5 : zSt g l5) {l8 : Int32} {l9 : Int32} (h : (if (l8 ≤ l9 : Prop) then K l8 σ else zCV mX5_put d [.ref l5, .int (2 * l9), .int (l3 + l9)] g σ (fun σ1 => zCI mX3_leastOf d [.ref 22, .int (l3 + l9)] g σ1 (fun v1 σ2 => zCV mX5_put d [.ref l5, .int ((2 * l9) + 1), .int v1] g σ2 (fun σ3 => p_X7_film_112 d g K σ3 l3 l5 l8 (l9 + 1)))))) : p_X7_film_112 d g K σ l3 l5 l8 l9 := by
  refine x_iload dX7_film_112 rfl ?_
  refine x_iload dX7_film_114 rfl ?_
  refine x_icmp_ge (tgt := 160) dX7_film_116 rfl (fun q1 => ?_) (fun q1 => ?_)
  · replace h := itT q1 h
    refine x_iload dX7_film_160 rfl ?_
    exact x_iret (S := []) dX7_film_162 rfl rfl ⟨_, rfl, rfl, h⟩
  · replace h := itF q1 h
    refine x_aload dX7_film_119 rfl ?_
    refine x_iconst (v := 2) dX7_film_121 rfl ?_
    refine x_iload dX7_film_122 rfl ?_
    refine x_imul dX7_film_124 ?_
    refine x_iload_n dX7_film_125 rfl ?_
    refine x_iload dX7_film_126 rfl ?_
    refine x_iadd dX7_film_128 ?_
    refine x_callV (Y2 := mX5_put) (as := [.int (2 * l9), .int (l3 + l9)]) (S := []) (kc2 := 0) (ks2 := 0) mv_mX5_put (Or.inl ⟨5, _, rfl, rfl, h_l5.1⟩) dX7_film_129 lk_X7_244 mo_mX5_put rfl rfl (Nat.le_of_ble_eq_true rfl) (Or.inl rfl) rfl rfl h ?_
    rintro _ _ σ1 ⟨rfl, rfl, h⟩
    change zX _ _ 0 0 132 _ [] _ _ _
    refine x_aload dX7_film_132 rfl ?_
    refine x_iconst (v := 2) dX7_film_134 rfl ?_
    refine x_iload dX7_film_135 rfl ?_
    refine x_imul dX7_film_137 ?_
    refine x_iconst (v := 1) dX7_film_138 rfl ?_
    refine x_iadd dX7_film_139 ?_
    refine x_aload_n dX7_film_140 rfl ?_
    refine x_getR dX7_film_141 fl_X7_33 (gA_0 hg) rfl (gA_0_3 hg) ?_
    refine x_iload_n dX7_film_144 rfl ?_
    refine x_iload dX7_film_145 rfl ?_
    refine x_iadd dX7_film_147 ?_
    refine x_callV (Y2 := mX3_leastOf) (as := [.int (l3 + l9)]) (S := [.int ((2 * l9) + 1), .ref l5]) (kc2 := 0) (ks2 := 0) mv_mX3_leastOf (Or.inl ⟨3, _, rfl, rfl, (gA_22 hg)⟩) dX7_film_148 lk_X7_157 mo_mX3_leastOf rfl rfl (Nat.le_of_ble_eq_true rfl) (Or.inl rfl) rfl rfl h ?_
    rintro _ _ σ2 ⟨v1, rfl, rfl, h⟩
    change zX _ _ 0 0 151 _ [.int v1, .int ((2 * l9) + 1), .ref l5] _ _ _
    refine x_callV (Y2 := mX5_put) (as := [.int ((2 * l9) + 1), .int v1]) (S := []) (kc2 := 0) (ks2 := 0) mv_mX5_put (Or.inl ⟨5, _, rfl, rfl, h_l5.1⟩) dX7_film_151 lk_X7_244 mo_mX5_put rfl rfl (Nat.le_of_ble_eq_true rfl) (Or.inl rfl) rfl rfl h ?_
    rintro _ _ σ3 ⟨rfl, rfl, h⟩
    change zX _ _ 0 0 154 _ [] _ _ _
    refine x_iinc dX7_film_154 rfl (v := l9 + 1) rfl rfl (Nat.le_of_ble_eq_true rfl) (L2 := [_, _, _, _, _, _, _, _, _, _]) rfl ?_
    refine x_goto (tgt := 112) dX7_film_157 rfl ?_
    exact h
set_option maxRecDepth 20000 in
theorem s_X7_drawn {d : Nat} {g : zG} {σ : zI} {K : Int32 → zI → Prop} (hg : zGA g) {l1 : Int32} (h : zCR mX7_heirAt d [.ref 0, .int 0] g σ (fun x1 σ1 => match x1 with | none => zCR mX7_heirAt d [.ref 0, .int 1] g σ1 (fun x2 σ2 => match x2 with | none => K (-3) σ2 | some r2 => zOb g r2 0 ∧ K (-3) σ2) | some r1 => zOb g r1 0 ∧ zCR mX7_heirAt d [.ref 0, .int 1] g σ1 (fun x2 σ2 => match x2 with | none => K (-3) σ2 | some r2 => zOb g r2 0 ∧ zCI mX7_payableIfDrawn d [.ref 0, .int l1, .ref r1, .ref r2] g σ2 (fun v1 σ3 => K v1 σ3)))) : zCI mX7_drawn (d + 1) [.ref 0, .int l1] g σ K := by
  refine c_of_x pn_mX7_drawn rfl (Nat.le_of_ble_eq_true rfl) ?_
  change zX _ _ 0 0 0 [.ref 0, .int l1] [] g σ _
  refine x_aload_n dX7_drawn_0 rfl ?_
  refine x_iconst (v := 0) dX7_drawn_1 rfl ?_
  refine x_callV (Y2 := mX7_heirAt) (as := [.int 0]) (S := []) (kc2 := 0) (ks2 := 0) mv_mX7_heirAt (Or.inl ⟨7, _, rfl, rfl, (gA_0 hg)⟩) dX7_drawn_2 lk_X7_66 mo_mX7_heirAt rfl rfl (Nat.le_of_ble_eq_true rfl) (Or.inl rfl) rfl rfl h ?_
  rintro _ _ σ1 ⟨x1, rfl, rfl, h⟩
  rcases x1 with _ | r1
  · dsimp only at h
    change zX _ _ 0 0 5 _ [.null] _ _ _
    refine x_astore_nN dX7_drawn_5 rfl (Nat.le_of_ble_eq_true rfl) (L2 := [_, _, _]) rfl ?_
    refine x_aload_n dX7_drawn_6 rfl ?_
    refine x_iconst (v := 1) dX7_drawn_7 rfl ?_
    refine x_callV (Y2 := mX7_heirAt) (as := [.int 1]) (S := []) (kc2 := 0) (ks2 := 0) mv_mX7_heirAt (Or.inl ⟨7, _, rfl, rfl, (gA_0 hg)⟩) dX7_drawn_8 lk_X7_66 mo_mX7_heirAt rfl rfl (Nat.le_of_ble_eq_true rfl) (Or.inl rfl) rfl rfl h ?_
    rintro _ _ σ2 ⟨x2, rfl, rfl, h⟩
    rcases x2 with _ | r2
    · dsimp only at h
      change zX _ _ 0 0 11 _ [.null] _ _ _
      refine x_astore_nN dX7_drawn_11 rfl (Nat.le_of_ble_eq_true rfl) (L2 := [_, _, _, _]) rfl ?_
      refine x_aload_nN dX7_drawn_12 rfl ?_
      refine x_ifnullN (tgt := 20) dX7_drawn_13 rfl ?_
      refine x_bipush (v := (-3)) dX7_drawn_20 rfl ?_
      exact x_iret (S := []) dX7_drawn_22 rfl rfl ⟨_, rfl, rfl, h⟩
    · dsimp only at h
      obtain ⟨q2, h⟩ := h
      change zX _ _ 0 0 11 _ [.ref r2] _ _ _
      refine x_astore_n dX7_drawn_11 rfl (Nat.le_of_ble_eq_true rfl) (L2 := [_, _, _, _]) rfl ?_
      refine x_aload_nN dX7_drawn_12 rfl ?_
      refine x_ifnullN (tgt := 20) dX7_drawn_13 rfl ?_
      refine x_bipush (v := (-3)) dX7_drawn_20 rfl ?_
      exact x_iret (S := []) dX7_drawn_22 rfl rfl ⟨_, rfl, rfl, h⟩
  · dsimp only at h
    obtain ⟨q1, h⟩ := h
    change zX _ _ 0 0 5 _ [.ref r1] _ _ _
    refine x_astore_n dX7_drawn_5 rfl (Nat.le_of_ble_eq_true rfl) (L2 := [_, _, _]) rfl ?_
    refine x_aload_n dX7_drawn_6 rfl ?_
    refine x_iconst (v := 1) dX7_drawn_7 rfl ?_
    refine x_callV (Y2 := mX7_heirAt) (as := [.int 1]) (S := []) (kc2 := 0) (ks2 := 0) mv_mX7_heirAt (Or.inl ⟨7, _, rfl, rfl, (gA_0 hg)⟩) dX7_drawn_8 lk_X7_66 mo_mX7_heirAt rfl rfl (Nat.le_of_ble_eq_true rfl) (Or.inl rfl) rfl rfl h ?_
    rintro _ _ σ2 ⟨x2, rfl, rfl, h⟩
    rcases x2 with _ | r2
    · dsimp only at h
      change zX _ _ 0 0 11 _ [.null] _ _ _
      refine x_astore_nN dX7_drawn_11 rfl (Nat.le_of_ble_eq_true rfl) (L2 := [_, _, _, _]) rfl ?_
      refine x_aload_n dX7_drawn_12 rfl ?_
      refine x_ifnull dX7_drawn_13 ?_
      refine x_aload_nN dX7_drawn_16 rfl ?_
      refine x_ifnonnullN dX7_drawn_17 ?_
      refine x_bipush (v := (-3)) dX7_drawn_20 rfl ?_
      exact x_iret (S := []) dX7_drawn_22 rfl rfl ⟨_, rfl, rfl, h⟩
    · dsimp only at h
      obtain ⟨q2, h⟩ := h
      change zX _ _ 0 0 11 _ [.ref r2] _ _ _
      refine x_astore_n dX7_drawn_11 rfl (Nat.le_of_ble_eq_true rfl) (L2 := [_, _, _, _]) rfl ?_
      refine x_aload_n dX7_drawn_12 rfl ?_
      refine x_ifnull dX7_drawn_13 ?_
      refine x_aload_n dX7_drawn_16 rfl ?_
      refine x_ifnonnull (tgt := 23) dX7_drawn_17 rfl ?_
      refine x_aload_n dX7_drawn_23 rfl ?_
      refine x_iload_n dX7_drawn_24 rfl ?_
      refine x_aload_n dX7_drawn_25 rfl ?_
      refine x_aload_n dX7_drawn_26 rfl ?_
      refine x_callV (Y2 := mX7_payableIfDrawn) (as := [.int l1, .ref r1, .ref r2]) (S := []) (kc2 := 0) (ks2 := 0) mv_mX7_payableIfDrawn (Or.inl ⟨7, _, rfl, rfl, (gA_0 hg)⟩) dX7_drawn_27 lk_X7_246 mo_mX7_payableIfDrawn rfl rfl (Nat.le_of_ble_eq_true rfl) (Or.inl rfl) rfl rfl h ?_
      rintro _ _ σ3 ⟨v1, rfl, rfl, h⟩
      change zX _ _ 0 0 30 _ [.int v1] _ _ _
      exact x_iret (S := []) dX7_drawn_30 rfl rfl ⟨_, rfl, rfl, h⟩
set_option maxRecDepth 20000 in
theorem s_X7_payableIfDrawn {d : Nat} {g : zG} {σ : zI} {K : Int32 → zI → Prop} (hg : zGA g) {l1 : Int32} {l2 : Nat} (h2 : zOb g l2 0) {l3 : Nat} (h3 : zOb g l3 0) (h : zCV mX0_become d [.ref 41, .ref l2] g σ (fun σ1 => zCV mX0_become d [.ref 42, .ref l3] g σ1 (fun σ2 => zCI mX0_drawOwn d [.ref 41, .int l1] g σ2 (fun v1 σ3 => zCI mX0_drawOwn d [.ref 42, .int v1] g σ3 (fun v2 σ4 => zCI mX3_payable d [.ref 22, .ref 41, .ref 42] g σ4 (fun v3 σ5 => K v3 σ5)))))) : zCI mX7_payableIfDrawn (d + 1) [.ref 0, .int l1, .ref l2, .ref l3] g σ K := by
  refine c_of_x pn_mX7_payableIfDrawn rfl (Nat.le_of_ble_eq_true rfl) ?_
  change zX _ _ 0 0 0 [.ref 0, .int l1, .ref l2, .ref l3] [] g σ _
  refine x_aload_n dX7_payableIfDrawn_0 rfl ?_
  refine x_getR dX7_payableIfDrawn_1 fl_X7_54 (gA_0 hg) rfl (gA_0_6 hg) ?_
  refine x_aload_n dX7_payableIfDrawn_4 rfl ?_
  refine x_callV (Y2 := mX0_become) (as := [.ref l2]) (S := []) (kc2 := 0) (ks2 := 0) mv_mX0_become (Or.inl ⟨0, _, rfl, rfl, (gA_41 hg)⟩) dX7_payableIfDrawn_5 lk_X7_198 mo_mX0_become rfl rfl (Nat.le_of_ble_eq_true rfl) (Or.inl rfl) rfl rfl h ?_
  rintro _ _ σ1 ⟨rfl, rfl, h⟩
  change zX _ _ 0 0 8 _ [] _ _ _
  refine x_aload_n dX7_payableIfDrawn_8 rfl ?_
  refine x_getR dX7_payableIfDrawn_9 fl_X7_58 (gA_0 hg) rfl (gA_0_7 hg) ?_
  refine x_aload_n dX7_payableIfDrawn_12 rfl ?_
  refine x_callV (Y2 := mX0_become) (as := [.ref l3]) (S := []) (kc2 := 0) (ks2 := 0) mv_mX0_become (Or.inl ⟨0, _, rfl, rfl, (gA_42 hg)⟩) dX7_payableIfDrawn_13 lk_X7_198 mo_mX0_become rfl rfl (Nat.le_of_ble_eq_true rfl) (Or.inl rfl) rfl rfl h ?_
  rintro _ _ σ2 ⟨rfl, rfl, h⟩
  change zX _ _ 0 0 16 _ [] _ _ _
  refine x_aload_n dX7_payableIfDrawn_16 rfl ?_
  refine x_getR dX7_payableIfDrawn_17 fl_X7_54 (gA_0 hg) rfl (gA_0_6 hg) ?_
  refine x_iload_n dX7_payableIfDrawn_20 rfl ?_
  refine x_callV (Y2 := mX0_drawOwn) (as := [.int l1]) (S := []) (kc2 := 0) (ks2 := 0) mv_mX0_drawOwn (Or.inl ⟨0, _, rfl, rfl, (gA_41 hg)⟩) dX7_payableIfDrawn_21 lk_X7_268 mo_mX0_drawOwn rfl rfl (Nat.le_of_ble_eq_true rfl) (Or.inl rfl) rfl rfl h ?_
  rintro _ _ σ3 ⟨v1, rfl, rfl, h⟩
  change zX _ _ 0 0 24 _ [.int v1] _ _ _
  refine x_istore dX7_payableIfDrawn_24 rfl (Nat.le_of_ble_eq_true rfl) (L2 := [_, _, _, _, _]) rfl ?_
  refine x_aload_n dX7_payableIfDrawn_26 rfl ?_
  refine x_getR dX7_payableIfDrawn_27 fl_X7_58 (gA_0 hg) rfl (gA_0_7 hg) ?_
  refine x_iload dX7_payableIfDrawn_30 rfl ?_
  refine x_callV (Y2 := mX0_drawOwn) (as := [.int v1]) (S := []) (kc2 := 0) (ks2 := 0) mv_mX0_drawOwn (Or.inl ⟨0, _, rfl, rfl, (gA_42 hg)⟩) dX7_payableIfDrawn_32 lk_X7_268 mo_mX0_drawOwn rfl rfl (Nat.le_of_ble_eq_true rfl) (Or.inl rfl) rfl rfl h ?_
  rintro _ _ σ4 ⟨v2, rfl, rfl, h⟩
  change zX _ _ 0 0 35 _ [.int v2] _ _ _
  refine x_pop dX7_payableIfDrawn_35 rfl ?_
  refine x_aload_n dX7_payableIfDrawn_36 rfl ?_
  refine x_getR dX7_payableIfDrawn_37 fl_X7_33 (gA_0 hg) rfl (gA_0_3 hg) ?_
  refine x_aload_n dX7_payableIfDrawn_40 rfl ?_
  refine x_getR dX7_payableIfDrawn_41 fl_X7_54 (gA_0 hg) rfl (gA_0_6 hg) ?_
  refine x_aload_n dX7_payableIfDrawn_44 rfl ?_
  refine x_getR dX7_payableIfDrawn_45 fl_X7_58 (gA_0 hg) rfl (gA_0_7 hg) ?_
  refine x_callV (Y2 := mX3_payable) (as := [.ref 41, .ref 42]) (S := []) (kc2 := 0) (ks2 := 0) mv_mX3_payable (Or.inl ⟨3, _, rfl, rfl, (gA_22 hg)⟩) dX7_payableIfDrawn_48 lk_X7_202 mo_mX3_payable rfl rfl (Nat.le_of_ble_eq_true rfl) (Or.inl rfl) rfl rfl h ?_
  rintro _ _ σ5 ⟨v3, rfl, rfl, h⟩
  change zX _ _ 0 0 51 _ [.int v3] _ _ _
  exact x_iret (S := []) dX7_payableIfDrawn_51 rfl rfl ⟨_, rfl, rfl, h⟩
abbrev p_X7_chance_67 (d : Nat) (g : zG) (K : Int64 → zI → Prop) (σ : zI) (l1 : Int32) (l2 : Int32) (l3 : Int32) (l4 : Nat) (l5 : Nat) (l6 : Int32) (l7 : Int32) (l8 : Int32) : Prop := zX mX7_chance (d + 1) 0 0 67 [.ref 0, .int l1, .int l2, .int l3, .ref l4, .ref l5, .int l6, .int l7, .int l8] [] g σ (zqL g K)
set_option maxRecDepth 20000 in
theorem s_X7_chance {d : Nat} {g : zG} {σ : zI} {K : Int64 → zI → Prop} (hg : zGA g) {l1 : Int32} {l2 : Int32} {l3 : Int32} (h : zCR mX7_heirAt d [.ref 0, .int 0] g σ (fun x1 σ1 => match x1 with | none => zCR mX7_heirAt d [.ref 0, .int 1] g σ1 (fun x2 σ2 => match x2 with | none => (if (l2 < 1 : Prop) then K (-4611686018427387904) σ2 else (if (20 < l2 : Prop) then K (-4611686018427387904) σ2 else (if (l3 < 0 : Prop) then K (-4611686018427387904) σ2 else (if (1 < l3 : Prop) then K (-4611686018427387904) σ2 else K (-4611686018427387904) σ2)))) | some r2 => zOb g r2 0 ∧ (if (l2 < 1 : Prop) then K (-4611686018427387904) σ2 else (if (20 < l2 : Prop) then K (-4611686018427387904) σ2 else (if (l3 < 0 : Prop) then K (-4611686018427387904) σ2 else (if (1 < l3 : Prop) then K (-4611686018427387904) σ2 else K (-4611686018427387904) σ2))))) | some r1 => zOb g r1 0 ∧ zCR mX7_heirAt d [.ref 0, .int 1] g σ1 (fun x2 σ2 => match x2 with | none => (if (l2 < 1 : Prop) then K (-4611686018427387904) σ2 else (if (20 < l2 : Prop) then K (-4611686018427387904) σ2 else (if (l3 < 0 : Prop) then K (-4611686018427387904) σ2 else (if (1 < l3 : Prop) then K (-4611686018427387904) σ2 else K (-4611686018427387904) σ2)))) | some r2 => zOb g r2 0 ∧ (if (l2 < 1 : Prop) then K (-4611686018427387904) σ2 else (if (20 < l2 : Prop) then K (-4611686018427387904) σ2 else (if (l3 < 0 : Prop) then K (-4611686018427387904) σ2 else (if (1 < l3 : Prop) then K (-4611686018427387904) σ2 else zCI mX3_payable d [.ref 22, .ref r1, .ref r2] g σ2 (fun v1 σ3 => p_X7_chance_67 d g K σ3 l1 l2 l3 r1 r2 v1 0 0)))))))) : zCL mX7_chance (d + 1) [.ref 0, .int l1, .int l2, .int l3] g σ K := by
  refine c_of_x pn_mX7_chance rfl (Nat.le_of_ble_eq_true rfl) ?_
  change zX _ _ 0 0 0 [.ref 0, .int l1, .int l2, .int l3] [] g σ _
  refine x_aload_n dX7_chance_0 rfl ?_
  refine x_iconst (v := 0) dX7_chance_1 rfl ?_
  refine x_callV (Y2 := mX7_heirAt) (as := [.int 0]) (S := []) (kc2 := 0) (ks2 := 0) mv_mX7_heirAt (Or.inl ⟨7, _, rfl, rfl, (gA_0 hg)⟩) dX7_chance_2 lk_X7_66 mo_mX7_heirAt rfl rfl (Nat.le_of_ble_eq_true rfl) (Or.inl rfl) rfl rfl h ?_
  rintro _ _ σ1 ⟨x1, rfl, rfl, h⟩
  rcases x1 with _ | r1
  · dsimp only at h
    change zX _ _ 0 0 5 _ [.null] _ _ _
    refine x_astoreN dX7_chance_5 rfl (Nat.le_of_ble_eq_true rfl) (L2 := [_, _, _, _, _]) rfl ?_
    refine x_aload_n dX7_chance_7 rfl ?_
    refine x_iconst (v := 1) dX7_chance_8 rfl ?_
    refine x_callV (Y2 := mX7_heirAt) (as := [.int 1]) (S := []) (kc2 := 0) (ks2 := 0) mv_mX7_heirAt (Or.inl ⟨7, _, rfl, rfl, (gA_0 hg)⟩) dX7_chance_9 lk_X7_66 mo_mX7_heirAt rfl rfl (Nat.le_of_ble_eq_true rfl) (Or.inl rfl) rfl rfl h ?_
    rintro _ _ σ2 ⟨x2, rfl, rfl, h⟩
    rcases x2 with _ | r2
    · dsimp only at h
      change zX _ _ 0 0 12 _ [.null] _ _ _
      refine x_astoreN dX7_chance_12 rfl (Nat.le_of_ble_eq_true rfl) (L2 := [_, _, _, _, _, _]) rfl ?_
      refine x_iload_n dX7_chance_14 rfl ?_
      refine x_iconst (v := 1) dX7_chance_15 rfl ?_
      refine x_icmp_lt (tgt := 44) dX7_chance_16 rfl (fun q3 => ?_) (fun q3 => ?_)
      · replace h := itT q3 h
        refine x_ldc2 dX7_chance_44 kc_X7_250 ?_
        exact x_lret (S := []) dX7_chance_47 rfl ⟨_, rfl, rfl, h⟩
      · replace h := itF q3 h
        refine x_iload_n dX7_chance_19 rfl ?_
        refine x_bipush (v := 20) dX7_chance_20 rfl ?_
        refine x_icmp_gt (tgt := 44) dX7_chance_22 rfl (fun q4 => ?_) (fun q4 => ?_)
        · replace h := itT q4 h
          refine x_ldc2 dX7_chance_44 kc_X7_250 ?_
          exact x_lret (S := []) dX7_chance_47 rfl ⟨_, rfl, rfl, h⟩
        · replace h := itF q4 h
          refine x_iload_n dX7_chance_25 rfl ?_
          refine x_if_lt (tgt := 44) dX7_chance_26 rfl (fun q5 => ?_) (fun q5 => ?_)
          · replace h := itT q5 h
            refine x_ldc2 dX7_chance_44 kc_X7_250 ?_
            exact x_lret (S := []) dX7_chance_47 rfl ⟨_, rfl, rfl, h⟩
          · replace h := itF q5 h
            refine x_iload_n dX7_chance_29 rfl ?_
            refine x_iconst (v := 1) dX7_chance_30 rfl ?_
            refine x_icmp_gt (tgt := 44) dX7_chance_31 rfl (fun q6 => ?_) (fun q6 => ?_)
            · replace h := itT q6 h
              refine x_ldc2 dX7_chance_44 kc_X7_250 ?_
              exact x_lret (S := []) dX7_chance_47 rfl ⟨_, rfl, rfl, h⟩
            · replace h := itF q6 h
              refine x_aloadN dX7_chance_34 rfl ?_
              refine x_ifnullN (tgt := 44) dX7_chance_36 rfl ?_
              refine x_ldc2 dX7_chance_44 kc_X7_250 ?_
              exact x_lret (S := []) dX7_chance_47 rfl ⟨_, rfl, rfl, h⟩
    · dsimp only at h
      obtain ⟨q2, h⟩ := h
      change zX _ _ 0 0 12 _ [.ref r2] _ _ _
      refine x_astore dX7_chance_12 rfl (Nat.le_of_ble_eq_true rfl) (L2 := [_, _, _, _, _, _]) rfl ?_
      refine x_iload_n dX7_chance_14 rfl ?_
      refine x_iconst (v := 1) dX7_chance_15 rfl ?_
      refine x_icmp_lt (tgt := 44) dX7_chance_16 rfl (fun q3 => ?_) (fun q3 => ?_)
      · replace h := itT q3 h
        refine x_ldc2 dX7_chance_44 kc_X7_250 ?_
        exact x_lret (S := []) dX7_chance_47 rfl ⟨_, rfl, rfl, h⟩
      · replace h := itF q3 h
        refine x_iload_n dX7_chance_19 rfl ?_
        refine x_bipush (v := 20) dX7_chance_20 rfl ?_
        refine x_icmp_gt (tgt := 44) dX7_chance_22 rfl (fun q4 => ?_) (fun q4 => ?_)
        · replace h := itT q4 h
          refine x_ldc2 dX7_chance_44 kc_X7_250 ?_
          exact x_lret (S := []) dX7_chance_47 rfl ⟨_, rfl, rfl, h⟩
        · replace h := itF q4 h
          refine x_iload_n dX7_chance_25 rfl ?_
          refine x_if_lt (tgt := 44) dX7_chance_26 rfl (fun q5 => ?_) (fun q5 => ?_)
          · replace h := itT q5 h
            refine x_ldc2 dX7_chance_44 kc_X7_250 ?_
            exact x_lret (S := []) dX7_chance_47 rfl ⟨_, rfl, rfl, h⟩
          · replace h := itF q5 h
            refine x_iload_n dX7_chance_29 rfl ?_
            refine x_iconst (v := 1) dX7_chance_30 rfl ?_
            refine x_icmp_gt (tgt := 44) dX7_chance_31 rfl (fun q6 => ?_) (fun q6 => ?_)
            · replace h := itT q6 h
              refine x_ldc2 dX7_chance_44 kc_X7_250 ?_
              exact x_lret (S := []) dX7_chance_47 rfl ⟨_, rfl, rfl, h⟩
            · replace h := itF q6 h
              refine x_aloadN dX7_chance_34 rfl ?_
              refine x_ifnullN (tgt := 44) dX7_chance_36 rfl ?_
              refine x_ldc2 dX7_chance_44 kc_X7_250 ?_
              exact x_lret (S := []) dX7_chance_47 rfl ⟨_, rfl, rfl, h⟩
  · dsimp only at h
    obtain ⟨q1, h⟩ := h
    change zX _ _ 0 0 5 _ [.ref r1] _ _ _
    refine x_astore dX7_chance_5 rfl (Nat.le_of_ble_eq_true rfl) (L2 := [_, _, _, _, _]) rfl ?_
    refine x_aload_n dX7_chance_7 rfl ?_
    refine x_iconst (v := 1) dX7_chance_8 rfl ?_
    refine x_callV (Y2 := mX7_heirAt) (as := [.int 1]) (S := []) (kc2 := 0) (ks2 := 0) mv_mX7_heirAt (Or.inl ⟨7, _, rfl, rfl, (gA_0 hg)⟩) dX7_chance_9 lk_X7_66 mo_mX7_heirAt rfl rfl (Nat.le_of_ble_eq_true rfl) (Or.inl rfl) rfl rfl h ?_
    rintro _ _ σ2 ⟨x2, rfl, rfl, h⟩
    rcases x2 with _ | r2
    · dsimp only at h
      change zX _ _ 0 0 12 _ [.null] _ _ _
      refine x_astoreN dX7_chance_12 rfl (Nat.le_of_ble_eq_true rfl) (L2 := [_, _, _, _, _, _]) rfl ?_
      refine x_iload_n dX7_chance_14 rfl ?_
      refine x_iconst (v := 1) dX7_chance_15 rfl ?_
      refine x_icmp_lt (tgt := 44) dX7_chance_16 rfl (fun q3 => ?_) (fun q3 => ?_)
      · replace h := itT q3 h
        refine x_ldc2 dX7_chance_44 kc_X7_250 ?_
        exact x_lret (S := []) dX7_chance_47 rfl ⟨_, rfl, rfl, h⟩
      · replace h := itF q3 h
        refine x_iload_n dX7_chance_19 rfl ?_
        refine x_bipush (v := 20) dX7_chance_20 rfl ?_
        refine x_icmp_gt (tgt := 44) dX7_chance_22 rfl (fun q4 => ?_) (fun q4 => ?_)
        · replace h := itT q4 h
          refine x_ldc2 dX7_chance_44 kc_X7_250 ?_
          exact x_lret (S := []) dX7_chance_47 rfl ⟨_, rfl, rfl, h⟩
        · replace h := itF q4 h
          refine x_iload_n dX7_chance_25 rfl ?_
          refine x_if_lt (tgt := 44) dX7_chance_26 rfl (fun q5 => ?_) (fun q5 => ?_)
          · replace h := itT q5 h
            refine x_ldc2 dX7_chance_44 kc_X7_250 ?_
            exact x_lret (S := []) dX7_chance_47 rfl ⟨_, rfl, rfl, h⟩
          · replace h := itF q5 h
            refine x_iload_n dX7_chance_29 rfl ?_
            refine x_iconst (v := 1) dX7_chance_30 rfl ?_
            refine x_icmp_gt (tgt := 44) dX7_chance_31 rfl (fun q6 => ?_) (fun q6 => ?_)
            · replace h := itT q6 h
              refine x_ldc2 dX7_chance_44 kc_X7_250 ?_
              exact x_lret (S := []) dX7_chance_47 rfl ⟨_, rfl, rfl, h⟩
            · replace h := itF q6 h
              refine x_aload dX7_chance_34 rfl ?_
              refine x_ifnull dX7_chance_36 ?_
              refine x_aloadN dX7_chance_39 rfl ?_
              refine x_ifnonnullN dX7_chance_41 ?_
              refine x_ldc2 dX7_chance_44 kc_X7_250 ?_
              exact x_lret (S := []) dX7_chance_47 rfl ⟨_, rfl, rfl, h⟩
    · dsimp only at h
      obtain ⟨q2, h⟩ := h
      change zX _ _ 0 0 12 _ [.ref r2] _ _ _
      refine x_astore dX7_chance_12 rfl (Nat.le_of_ble_eq_true rfl) (L2 := [_, _, _, _, _, _]) rfl ?_
      refine x_iload_n dX7_chance_14 rfl ?_
      refine x_iconst (v := 1) dX7_chance_15 rfl ?_
      refine x_icmp_lt (tgt := 44) dX7_chance_16 rfl (fun q3 => ?_) (fun q3 => ?_)
      · replace h := itT q3 h
        refine x_ldc2 dX7_chance_44 kc_X7_250 ?_
        exact x_lret (S := []) dX7_chance_47 rfl ⟨_, rfl, rfl, h⟩
      · replace h := itF q3 h
        refine x_iload_n dX7_chance_19 rfl ?_
        refine x_bipush (v := 20) dX7_chance_20 rfl ?_
        refine x_icmp_gt (tgt := 44) dX7_chance_22 rfl (fun q4 => ?_) (fun q4 => ?_)
        · replace h := itT q4 h
          refine x_ldc2 dX7_chance_44 kc_X7_250 ?_
          exact x_lret (S := []) dX7_chance_47 rfl ⟨_, rfl, rfl, h⟩
        · replace h := itF q4 h
          refine x_iload_n dX7_chance_25 rfl ?_
          refine x_if_lt (tgt := 44) dX7_chance_26 rfl (fun q5 => ?_) (fun q5 => ?_)
          · replace h := itT q5 h
            refine x_ldc2 dX7_chance_44 kc_X7_250 ?_
            exact x_lret (S := []) dX7_chance_47 rfl ⟨_, rfl, rfl, h⟩
          · replace h := itF q5 h
            refine x_iload_n dX7_chance_29 rfl ?_
            refine x_iconst (v := 1) dX7_chance_30 rfl ?_
            refine x_icmp_gt (tgt := 44) dX7_chance_31 rfl (fun q6 => ?_) (fun q6 => ?_)
            · replace h := itT q6 h
              refine x_ldc2 dX7_chance_44 kc_X7_250 ?_
              exact x_lret (S := []) dX7_chance_47 rfl ⟨_, rfl, rfl, h⟩
            · replace h := itF q6 h
              refine x_aload dX7_chance_34 rfl ?_
              refine x_ifnull dX7_chance_36 ?_
              refine x_aload dX7_chance_39 rfl ?_
              refine x_ifnonnull (tgt := 48) dX7_chance_41 rfl ?_
              refine x_aload_n dX7_chance_48 rfl ?_
              refine x_getR dX7_chance_49 fl_X7_33 (gA_0 hg) rfl (gA_0_3 hg) ?_
              refine x_aload dX7_chance_52 rfl ?_
              refine x_aload dX7_chance_54 rfl ?_
              refine x_callV (Y2 := mX3_payable) (as := [.ref r1, .ref r2]) (S := []) (kc2 := 0) (ks2 := 0) mv_mX3_payable (Or.inl ⟨3, _, rfl, rfl, (gA_22 hg)⟩) dX7_chance_56 lk_X7_202 mo_mX3_payable rfl rfl (Nat.le_of_ble_eq_true rfl) (Or.inl rfl) rfl rfl h ?_
              rintro _ _ σ3 ⟨v1, rfl, rfl, h⟩
              change zX _ _ 0 0 59 _ [.int v1] _ _ _
              refine x_istore dX7_chance_59 rfl (Nat.le_of_ble_eq_true rfl) (L2 := [_, _, _, _, _, _, _]) rfl ?_
              refine x_iconst (v := 0) dX7_chance_61 rfl ?_
              refine x_istore dX7_chance_62 rfl (Nat.le_of_ble_eq_true rfl) (L2 := [_, _, _, _, _, _, _, _]) rfl ?_
              refine x_iconst (v := 0) dX7_chance_64 rfl ?_
              refine x_istore dX7_chance_65 rfl (Nat.le_of_ble_eq_true rfl) (L2 := [_, _, _, _, _, _, _, _, _]) rfl ?_
              exact h
set_option maxRecDepth 20000 in
theorem s_X7_chance_67 {d : Nat} {g : zG} {σ : zI} {K : Int64 → zI → Prop} (hg : zGA g) {l1 : Int32} {l2 : Int32} {l3 : Int32} {l4 : Nat} (h_l4 : zOb g l4 0) {l5 : Nat} (h_l5 : zOb g l5 0) {l6 : Int32} {l7 : Int32} {l8 : Int32} (h : (if (l2 ≤ l8 : Prop) then zCI mX7_commonMeasure d [.int l2, .int l7] g σ (fun v1 σ1 => (if (1 ≤ v1 : Prop) then (if (l3 = 0 : Prop) then ¬ v1 = 0 ∧ K ((l7 / v1 : Int32).toInt64) σ1 else ¬ v1 = 0 ∧ K ((l2 / v1 : Int32).toInt64) σ1) else K (-4611686018427387904) σ1)) else zCI mX7_payableIfDrawn d [.ref 0, .int (l1 + l8), .ref l4, .ref l5] g σ (fun v1 σ1 => (if (v1 ≤ l6 : Prop) then p_X7_chance_67 d g K σ1 l1 l2 l3 l4 l5 l6 l7 (l8 + 1) else p_X7_chance_67 d g K σ1 l1 l2 l3 l4 l5 l6 (l7 + 1) (l8 + 1))))) : p_X7_chance_67 d g K σ l1 l2 l3 l4 l5 l6 l7 l8 := by
  refine x_iload dX7_chance_67 rfl ?_
  refine x_iload_n dX7_chance_69 rfl ?_
  refine x_icmp_ge (tgt := 99) dX7_chance_70 rfl (fun q1 => ?_) (fun q1 => ?_)
  · replace h := itT q1 h
    refine x_iload_n dX7_chance_99 rfl ?_
    refine x_iload dX7_chance_100 rfl ?_
    refine x_callS (Y2 := mX7_commonMeasure) (as := [.int l2, .int l7]) (S := []) (kc2 := 0) (ks2 := 0) st_mX7_commonMeasure dX7_chance_102 lk_X7_252 mo_mX7_commonMeasure rfl rfl (Nat.le_of_ble_eq_true rfl) (Or.inl rfl) rfl rfl h ?_
    rintro _ _ σ1 ⟨v1, rfl, rfl, h⟩
    change zX _ _ 0 0 105 _ [.int v1] _ _ _
    refine x_istore dX7_chance_105 rfl (Nat.le_of_ble_eq_true rfl) (L2 := [_, _, _, _, _, _, _, _, _]) rfl ?_
    refine x_iload dX7_chance_107 rfl ?_
    refine x_iconst (v := 1) dX7_chance_109 rfl ?_
    refine x_icmp_ge (tgt := 119) dX7_chance_110 rfl (fun q2 => ?_) (fun q2 => ?_)
    · replace h := itT q2 h
      refine x_iload_n dX7_chance_119 rfl ?_
      refine x_if_ne (tgt := 128) dX7_chance_120 rfl (fun q3 => ?_) (fun q3 => ?_)
      · replace h := itF q3 h
        refine x_iload_n dX7_chance_128 rfl ?_
        refine x_iload dX7_chance_129 rfl ?_
        obtain ⟨q4, h⟩ := h
        refine x_idiv dX7_chance_131 q4 ?_
        refine x_i2l dX7_chance_132 ?_
        exact x_lret (S := []) dX7_chance_133 rfl ⟨_, rfl, rfl, h⟩
      · replace h := itT q3 h
        refine x_iload dX7_chance_123 rfl ?_
        refine x_goto (tgt := 129) dX7_chance_125 rfl ?_
        refine x_iload dX7_chance_129 rfl ?_
        obtain ⟨q4, h⟩ := h
        refine x_idiv dX7_chance_131 q4 ?_
        refine x_i2l dX7_chance_132 ?_
        exact x_lret (S := []) dX7_chance_133 rfl ⟨_, rfl, rfl, h⟩
    · replace h := itF q2 h
      refine x_ldc2 dX7_chance_113 kc_X7_250 ?_
      refine x_goto (tgt := 133) dX7_chance_116 rfl ?_
      exact x_lret (S := []) dX7_chance_133 rfl ⟨_, rfl, rfl, h⟩
  · replace h := itF q1 h
    refine x_aload_n dX7_chance_73 rfl ?_
    refine x_iload_n dX7_chance_74 rfl ?_
    refine x_iload dX7_chance_75 rfl ?_
    refine x_iadd dX7_chance_77 ?_
    refine x_aload dX7_chance_78 rfl ?_
    refine x_aload dX7_chance_80 rfl ?_
    refine x_callV (Y2 := mX7_payableIfDrawn) (as := [.int (l1 + l8), .ref l4, .ref l5]) (S := []) (kc2 := 0) (ks2 := 0) mv_mX7_payableIfDrawn (Or.inl ⟨7, _, rfl, rfl, (gA_0 hg)⟩) dX7_chance_82 lk_X7_246 mo_mX7_payableIfDrawn rfl rfl (Nat.le_of_ble_eq_true rfl) (Or.inl rfl) rfl rfl h ?_
    rintro _ _ σ1 ⟨v1, rfl, rfl, h⟩
    change zX _ _ 0 0 85 _ [.int v1] _ _ _
    refine x_iload dX7_chance_85 rfl ?_
    refine x_icmp_le (tgt := 93) dX7_chance_87 rfl (fun q2 => ?_) (fun q2 => ?_)
    · replace h := itT q2 h
      refine x_iinc dX7_chance_93 rfl (v := l8 + 1) rfl rfl (Nat.le_of_ble_eq_true rfl) (L2 := [_, _, _, _, _, _, _, _, _]) rfl ?_
      refine x_goto (tgt := 67) dX7_chance_96 rfl ?_
      exact h
    · replace h := itF q2 h
      refine x_iinc dX7_chance_90 rfl (v := l7 + 1) rfl rfl (Nat.le_of_ble_eq_true rfl) (L2 := [_, _, _, _, _, _, _, _, _]) rfl ?_
      refine x_iinc dX7_chance_93 rfl (v := l8 + 1) rfl rfl (Nat.le_of_ble_eq_true rfl) (L2 := [_, _, _, _, _, _, _, _, _]) rfl ?_
      refine x_goto (tgt := 67) dX7_chance_96 rfl ?_
      exact h
abbrev p_X7_commonMeasure_7 (d : Nat) (g : zG) (K : Int32 → zI → Prop) (σ : zI) (l2 : Int32) (l3 : Int32) (l4 : Int32) : Prop := zX mX7_commonMeasure d 0 0 7 [.retAddr 0, .retAddr 0, .int l2, .int l3, .int l4] [] g σ (zqI g K)
set_option maxRecDepth 20000 in
theorem s_X7_commonMeasure {d : Nat} {g : zG} {σ : zI} {K : Int32 → zI → Prop} (hg : zGA g) {l0 : Int32} {l1 : Int32} (h : p_X7_commonMeasure_7 d g K σ l0 l1 0) : zCI mX7_commonMeasure d [.int l0, .int l1] g σ K := by
  refine c_of_x pn_mX7_commonMeasure rfl (Nat.le_of_ble_eq_true rfl) ?_
  change zX _ _ 0 0 0 [.int l0, .int l1] [] g σ _
  refine x_iload_n dX7_commonMeasure_0 rfl ?_
  refine x_istore_n dX7_commonMeasure_1 rfl (Nat.le_of_ble_eq_true rfl) (L2 := [_, _, _]) rfl ?_
  refine x_iload_n dX7_commonMeasure_2 rfl ?_
  refine x_istore_n dX7_commonMeasure_3 rfl (Nat.le_of_ble_eq_true rfl) (L2 := [_, _, _, _]) rfl ?_
  refine x_iconst (v := 0) dX7_commonMeasure_4 rfl ?_
  refine x_istore dX7_commonMeasure_5 rfl (Nat.le_of_ble_eq_true rfl) (L2 := [_, _, _, _, _]) rfl ?_
  exact x_wk (wJ (wJ (wC (wC (wC (wN _)))))) h
set_option maxRecDepth 20000 in
theorem s_X7_commonMeasure_7 {d : Nat} {g : zG} {σ : zI} {K : Int32 → zI → Prop} (hg : zGA g) {l2 : Int32} {l3 : Int32} {l4 : Int32} (h : (if (20 ≤ l4 : Prop) then K l2 σ else (if (l3 = 0 : Prop) then K l2 σ else ¬ l3 = 0 ∧ p_X7_commonMeasure_7 d g K σ l3 (l2 - l2 / l3 * l3) (l4 + 1)))) : p_X7_commonMeasure_7 d g K σ l2 l3 l4 := by
  refine x_iload dX7_commonMeasure_7 rfl ?_
  refine x_bipush (v := 20) dX7_commonMeasure_9 rfl ?_
  refine x_icmp_ge (tgt := 34) dX7_commonMeasure_11 rfl (fun q1 => ?_) (fun q1 => ?_)
  · replace h := itT q1 h
    refine x_iload_n dX7_commonMeasure_34 rfl ?_
    exact x_iret (S := []) dX7_commonMeasure_35 rfl rfl ⟨_, rfl, rfl, h⟩
  · replace h := itF q1 h
    refine x_iload_n dX7_commonMeasure_14 rfl ?_
    refine x_if_eq (tgt := 34) dX7_commonMeasure_15 rfl (fun q2 => ?_) (fun q2 => ?_)
    · replace h := itT q2 h
      refine x_iload_n dX7_commonMeasure_34 rfl ?_
      exact x_iret (S := []) dX7_commonMeasure_35 rfl rfl ⟨_, rfl, rfl, h⟩
    · replace h := itF q2 h
      refine x_iload_n dX7_commonMeasure_18 rfl ?_
      refine x_iload_n dX7_commonMeasure_19 rfl ?_
      obtain ⟨q3, h⟩ := h
      refine x_irem dX7_commonMeasure_20 q3 ?_
      refine x_istore dX7_commonMeasure_21 rfl (Nat.le_of_ble_eq_true rfl) (L2 := [_, _, _, _, _, _]) rfl ?_
      refine x_iload_n dX7_commonMeasure_23 rfl ?_
      refine x_istore_n dX7_commonMeasure_24 rfl (Nat.le_of_ble_eq_true rfl) (L2 := [_, _, _, _, _, _]) rfl ?_
      refine x_iload dX7_commonMeasure_25 rfl ?_
      refine x_istore_n dX7_commonMeasure_27 rfl (Nat.le_of_ble_eq_true rfl) (L2 := [_, _, _, _, _, _]) rfl ?_
      refine x_iinc dX7_commonMeasure_28 rfl (v := l4 + 1) rfl rfl (Nat.le_of_ble_eq_true rfl) (L2 := [_, _, _, _, _, _]) rfl ?_
      refine x_goto (tgt := 7) dX7_commonMeasure_31 rfl ?_
      exact x_wk (wJ (wJ (wC (wC (wC (wN _)))))) h
abbrev p_X7_image_41 (d : Nat) (g : zG) (K : Int32 → zI → Prop) (σ : zI) (l1 : Int32) : Prop := zX mX7_image d 0 0 41 [.ref 0, .int l1] [] g σ (zqI g K)
set_option maxRecDepth 20000 in
theorem s_X7_image {d : Nat} {g : zG} {σ : zI} {K : Int32 → zI → Prop} (hg : zGA g)  (h : p_X7_image_41 d g K (zsI (zsI (zsI σ 38 1 (σ 3 7)) 38 2 (σ 3 6)) 38 0 (σ 0 8)) 0) : zCI mX7_image d [.ref 0] g σ K := by
  refine c_of_x pn_mX7_image rfl (Nat.le_of_ble_eq_true rfl) ?_
  change zX _ _ 0 0 0 [.ref 0] [] g σ _
  refine x_aload_n dX7_image_0 rfl ?_
  refine x_getR dX7_image_1 fl_X7_49 (gA_0 hg) rfl (gA_0_5 hg) ?_
  refine x_aload_n dX7_image_4 rfl ?_
  refine x_getR dX7_image_5 fl_X7_24 (gA_0 hg) rfl (gA_0_2 hg) ?_
  refine x_getI dX7_image_8 fl_X7_109 (gA_3 hg) rfl ?_
  refine x_putI dX7_image_11 fl_X7_255 (gA_38 hg) rfl rfl ?_
  refine x_aload_n dX7_image_14 rfl ?_
  refine x_getR dX7_image_15 fl_X7_49 (gA_0 hg) rfl (gA_0_5 hg) ?_
  refine x_aload_n dX7_image_18 rfl ?_
  refine x_getR dX7_image_19 fl_X7_24 (gA_0 hg) rfl (gA_0_2 hg) ?_
  refine x_getI dX7_image_22 fl_X7_133 (gA_3 hg) rfl ?_
  refine x_putI dX7_image_25 fl_X7_256 (gA_38 hg) rfl rfl ?_
  refine x_aload_n dX7_image_28 rfl ?_
  refine x_getR dX7_image_29 fl_X7_49 (gA_0 hg) rfl (gA_0_5 hg) ?_
  refine x_aload_n dX7_image_32 rfl ?_
  refine x_getI dX7_image_33 fl_X7_77 (gA_0 hg) rfl ?_
  refine x_putI dX7_image_36 fl_X7_257 (gA_38 hg) rfl rfl ?_
  refine x_iconst (v := 0) dX7_image_39 rfl ?_
  refine x_istore_n dX7_image_40 rfl (Nat.le_of_ble_eq_true rfl) (L2 := [_, _]) rfl ?_
  exact h
set_option maxRecDepth 20000 in
theorem s_X7_image_41 {d : Nat} {g : zG} {σ : zI} {K : Int32 → zI → Prop} (hg : zGA g) {l1 : Int32} (h : (if ((σ 0 8) ≤ l1 : Prop) then K (σ 0 8) σ else (if (6 ≤ l1 : Prop) then K (σ 0 8) σ else vp_in l1 6 ∧ vp_in l1 6 ∧ vp_in l1 6 ∧ vp_in l1 6 ∧ p_X7_image_41 d g K (zsI (zsI σ 39 l1.toNatClampNeg (σ (43 + l1.toNatClampNeg) 2)) 40 l1.toNatClampNeg ((zsI σ 39 l1.toNatClampNeg (σ (43 + l1.toNatClampNeg) 2)) (43 + l1.toNatClampNeg) 3)) (l1 + 1)))) : p_X7_image_41 d g K σ l1 := by
  refine x_iload_n dX7_image_41 rfl ?_
  refine x_aload_n dX7_image_42 rfl ?_
  refine x_getI dX7_image_43 fl_X7_77 (gA_0 hg) rfl ?_
  refine x_icmp_ge (tgt := 97) dX7_image_46 rfl (fun q1 => ?_) (fun q1 => ?_)
  · replace h := itT q1 h
    refine x_aload_n dX7_image_97 rfl ?_
    refine x_getI dX7_image_98 fl_X7_77 (gA_0 hg) rfl ?_
    exact x_iret (S := []) dX7_image_101 rfl rfl ⟨_, rfl, rfl, h⟩
  · replace h := itF q1 h
    refine x_iload_n dX7_image_49 rfl ?_
    refine x_bipush (v := 6) dX7_image_50 rfl ?_
    refine x_icmp_ge (tgt := 97) dX7_image_52 rfl (fun q2 => ?_) (fun q2 => ?_)
    · replace h := itT q2 h
      refine x_aload_n dX7_image_97 rfl ?_
      refine x_getI dX7_image_98 fl_X7_77 (gA_0 hg) rfl ?_
      exact x_iret (S := []) dX7_image_101 rfl rfl ⟨_, rfl, rfl, h⟩
    · replace h := itF q2 h
      refine x_aload_n dX7_image_55 rfl ?_
      refine x_getR dX7_image_56 fl_X7_49 (gA_0 hg) rfl (gA_0_5 hg) ?_
      refine x_getR dX7_image_59 fl_X7_258 (gA_38 hg) rfl (gA_38_3 hg) ?_
      refine x_iload_n dX7_image_62 rfl ?_
      refine x_aload_n dX7_image_63 rfl ?_
      refine x_getR dX7_image_64 fl_X7_11 (gA_0 hg) rfl (gA_0_0 hg) ?_
      refine x_iload_n dX7_image_67 rfl ?_
      obtain ⟨q3, h⟩ := h
      refine x_aald (t := 0) dX7_image_68 (gA_1 hg) (by decide) q3 (gr_family hg q3).1 ?_
      refine x_getI dX7_image_69 fl_X7_87 (gr_family hg q3).2 rfl ?_
      obtain ⟨q4, h⟩ := h
      refine x_iast dX7_image_72 (gA_39 hg) q4 ?_
      refine x_aload_n dX7_image_73 rfl ?_
      refine x_getR dX7_image_74 fl_X7_49 (gA_0 hg) rfl (gA_0_5 hg) ?_
      refine x_getR dX7_image_77 fl_X7_262 (gA_38 hg) rfl (gA_38_4 hg) ?_
      refine x_iload_n dX7_image_80 rfl ?_
      refine x_aload_n dX7_image_81 rfl ?_
      refine x_getR dX7_image_82 fl_X7_11 (gA_0 hg) rfl (gA_0_0 hg) ?_
      refine x_iload_n dX7_image_85 rfl ?_
      obtain ⟨q5, h⟩ := h
      refine x_aald (t := 0) dX7_image_86 (gA_1 hg) (by decide) q5 (gr_family hg q5).1 ?_
      refine x_getI dX7_image_87 fl_X7_90 (gr_family hg q5).2 rfl ?_
      obtain ⟨q6, h⟩ := h
      refine x_iast dX7_image_90 (gA_40 hg) q6 ?_
      refine x_iinc dX7_image_91 rfl (v := l1 + 1) rfl rfl (Nat.le_of_ble_eq_true rfl) (L2 := [_, _]) rfl ?_
      refine x_goto (tgt := 41) dX7_image_94 rfl ?_
      exact h
abbrev p_X7_back_55 (d : Nat) (g : zG) (K : Int32 → zI → Prop) (σ : zI) (l1 : Int32) : Prop := zX mX7_back d 0 0 55 [.ref 0, .int l1] [] g σ (zqI g K)
set_option maxRecDepth 20000 in
theorem s_X7_back {d : Nat} {g : zG} {σ : zI} {K : Int32 → zI → Prop} (hg : zGA g)  (h : (if ((σ 38 0) = (-1) : Prop) then K (-3) σ else p_X7_back_55 d g K (zsI (zsI (zsI σ 3 7 (σ 38 1)) 3 6 (σ 38 2)) 0 8 (σ 38 0)) 0)) : zCI mX7_back d [.ref 0] g σ K := by
  refine c_of_x pn_mX7_back rfl (Nat.le_of_ble_eq_true rfl) ?_
  change zX _ _ 0 0 0 [.ref 0] [] g σ _
  refine x_aload_n dX7_back_0 rfl ?_
  refine x_getR dX7_back_1 fl_X7_49 (gA_0 hg) rfl (gA_0_5 hg) ?_
  refine x_getI dX7_back_4 fl_X7_257 (gA_38 hg) rfl ?_
  refine x_iconst (v := (-1)) dX7_back_7 rfl ?_
  refine x_icmp_ne (tgt := 14) dX7_back_8 rfl (fun q1 => ?_) (fun q1 => ?_)
  · replace h := itF q1 h
    refine x_aload_n dX7_back_14 rfl ?_
    refine x_getR dX7_back_15 fl_X7_24 (gA_0 hg) rfl (gA_0_2 hg) ?_
    refine x_aload_n dX7_back_18 rfl ?_
    refine x_getR dX7_back_19 fl_X7_49 (gA_0 hg) rfl (gA_0_5 hg) ?_
    refine x_getI dX7_back_22 fl_X7_255 (gA_38 hg) rfl ?_
    refine x_putI dX7_back_25 fl_X7_109 (gA_3 hg) rfl rfl ?_
    refine x_aload_n dX7_back_28 rfl ?_
    refine x_getR dX7_back_29 fl_X7_24 (gA_0 hg) rfl (gA_0_2 hg) ?_
    refine x_aload_n dX7_back_32 rfl ?_
    refine x_getR dX7_back_33 fl_X7_49 (gA_0 hg) rfl (gA_0_5 hg) ?_
    refine x_getI dX7_back_36 fl_X7_256 (gA_38 hg) rfl ?_
    refine x_putI dX7_back_39 fl_X7_133 (gA_3 hg) rfl rfl ?_
    refine x_aload_n dX7_back_42 rfl ?_
    refine x_aload_n dX7_back_43 rfl ?_
    refine x_getR dX7_back_44 fl_X7_49 (gA_0 hg) rfl (gA_0_5 hg) ?_
    refine x_getI dX7_back_47 fl_X7_257 (gA_38 hg) rfl ?_
    refine x_putI dX7_back_50 fl_X7_77 (gA_0 hg) rfl rfl ?_
    refine x_iconst (v := 0) dX7_back_53 rfl ?_
    refine x_istore_n dX7_back_54 rfl (Nat.le_of_ble_eq_true rfl) (L2 := [_, _]) rfl ?_
    exact h
  · replace h := itT q1 h
    refine x_bipush (v := (-3)) dX7_back_11 rfl ?_
    exact x_iret (S := []) dX7_back_13 rfl rfl ⟨_, rfl, rfl, h⟩
set_option maxRecDepth 20000 in
theorem s_X7_back_55 {d : Nat} {g : zG} {σ : zI} {K : Int32 → zI → Prop} (hg : zGA g) {l1 : Int32} (h : (if ((σ 0 8) ≤ l1 : Prop) then K (σ 0 8) σ else (if (6 ≤ l1 : Prop) then K (σ 0 8) σ else vp_in l1 6 ∧ vp_in l1 6 ∧ vp_in l1 6 ∧ vp_in l1 6 ∧ p_X7_back_55 d g K (zsI (zsI σ (43 + l1.toNatClampNeg) 2 (σ 39 l1.toNatClampNeg)) (43 + l1.toNatClampNeg) 3 ((zsI σ (43 + l1.toNatClampNeg) 2 (σ 39 l1.toNatClampNeg)) 40 l1.toNatClampNeg)) (l1 + 1)))) : p_X7_back_55 d g K σ l1 := by
  refine x_iload_n dX7_back_55 rfl ?_
  refine x_aload_n dX7_back_56 rfl ?_
  refine x_getI dX7_back_57 fl_X7_77 (gA_0 hg) rfl ?_
  refine x_icmp_ge (tgt := 111) dX7_back_60 rfl (fun q1 => ?_) (fun q1 => ?_)
  · replace h := itT q1 h
    refine x_aload_n dX7_back_111 rfl ?_
    refine x_getI dX7_back_112 fl_X7_77 (gA_0 hg) rfl ?_
    exact x_iret (S := []) dX7_back_115 rfl rfl ⟨_, rfl, rfl, h⟩
  · replace h := itF q1 h
    refine x_iload_n dX7_back_63 rfl ?_
    refine x_bipush (v := 6) dX7_back_64 rfl ?_
    refine x_icmp_ge (tgt := 111) dX7_back_66 rfl (fun q2 => ?_) (fun q2 => ?_)
    · replace h := itT q2 h
      refine x_aload_n dX7_back_111 rfl ?_
      refine x_getI dX7_back_112 fl_X7_77 (gA_0 hg) rfl ?_
      exact x_iret (S := []) dX7_back_115 rfl rfl ⟨_, rfl, rfl, h⟩
    · replace h := itF q2 h
      refine x_aload_n dX7_back_69 rfl ?_
      refine x_getR dX7_back_70 fl_X7_11 (gA_0 hg) rfl (gA_0_0 hg) ?_
      refine x_iload_n dX7_back_73 rfl ?_
      obtain ⟨q3, h⟩ := h
      refine x_aald (t := 0) dX7_back_74 (gA_1 hg) (by decide) q3 (gr_family hg q3).1 ?_
      refine x_aload_n dX7_back_75 rfl ?_
      refine x_getR dX7_back_76 fl_X7_49 (gA_0 hg) rfl (gA_0_5 hg) ?_
      refine x_getR dX7_back_79 fl_X7_258 (gA_38 hg) rfl (gA_38_3 hg) ?_
      refine x_iload_n dX7_back_82 rfl ?_
      obtain ⟨q4, h⟩ := h
      refine x_iald dX7_back_83 (gA_39 hg) q4 ?_
      refine x_putI dX7_back_84 fl_X7_87 (gr_family hg q3).2 rfl rfl ?_
      refine x_aload_n dX7_back_87 rfl ?_
      refine x_getR dX7_back_88 fl_X7_11 (gA_0 hg) rfl (gA_0_0 hg) ?_
      refine x_iload_n dX7_back_91 rfl ?_
      obtain ⟨q5, h⟩ := h
      refine x_aald (t := 0) dX7_back_92 (gA_1 hg) (by decide) q5 (gr_family hg q5).1 ?_
      refine x_aload_n dX7_back_93 rfl ?_
      refine x_getR dX7_back_94 fl_X7_49 (gA_0 hg) rfl (gA_0_5 hg) ?_
      refine x_getR dX7_back_97 fl_X7_262 (gA_38 hg) rfl (gA_38_4 hg) ?_
      refine x_iload_n dX7_back_100 rfl ?_
      obtain ⟨q6, h⟩ := h
      refine x_iald dX7_back_101 (gA_40 hg) q6 ?_
      refine x_putI dX7_back_102 fl_X7_90 (gr_family hg q5).2 rfl rfl ?_
      refine x_iinc dX7_back_105 rfl (v := l1 + 1) rfl rfl (Nat.le_of_ble_eq_true rfl) (L2 := [_, _]) rfl ?_
      refine x_goto (tgt := 55) dX7_back_108 rfl ?_
      exact h
set_option maxRecDepth 20000 in
theorem s_X7_count {d : Nat} {g : zG} {σ : zI} {K : Int32 → zI → Prop} (hg : zGA g) {l1 : Int32} (h : (if (l1 = 0 : Prop) then K (σ 0 8) σ else (if (l1 = 1 : Prop) then K (σ 3 5) σ else (if (l1 = 2 : Prop) then K (σ 4 1) σ else (if (l1 = 3 : Prop) then K (σ 3 6) σ else (if (l1 = 4 : Prop) then zCI mX7_allOwn d [.ref 0] g σ (fun v1 σ1 => K v1 σ1) else K (-2) σ)))))) : zCI mX7_count (d + 1) [.ref 0, .int l1] g σ K := by
  refine c_of_x pn_mX7_count rfl (Nat.le_of_ble_eq_true rfl) ?_
  change zX _ _ 0 0 0 [.ref 0, .int l1] [] g σ _
  refine x_iload_n dX7_count_0 rfl ?_
  by_cases q1 : l1 = 0
  · refine x_tsw (tgt := 36) dX7_count_1 (by rw [q1]; decide) (by rw [q1]; decide) (by rw [q1]; rfl) rfl ?_
    replace h := itT q1 h
    refine x_aload_n dX7_count_36 rfl ?_
    refine x_getI dX7_count_37 fl_X7_77 (gA_0 hg) rfl ?_
    exact x_iret (S := []) dX7_count_40 rfl rfl ⟨_, rfl, rfl, h⟩
  · replace h := itF q1 h
    by_cases q2 : l1 = 1
    · refine x_tsw (tgt := 41) dX7_count_1 (by rw [q2]; decide) (by rw [q2]; decide) (by rw [q2]; rfl) rfl ?_
      replace h := itT q2 h
      refine x_aload_n dX7_count_41 rfl ?_
      refine x_getR dX7_count_42 fl_X7_24 (gA_0 hg) rfl (gA_0_2 hg) ?_
      refine x_getI dX7_count_45 fl_X7_127 (gA_3 hg) rfl ?_
      exact x_iret (S := []) dX7_count_48 rfl rfl ⟨_, rfl, rfl, h⟩
    · replace h := itF q2 h
      by_cases q3 : l1 = 2
      · refine x_tsw (tgt := 49) dX7_count_1 (by rw [q3]; decide) (by rw [q3]; decide) (by rw [q3]; rfl) rfl ?_
        replace h := itT q3 h
        refine x_aload_n dX7_count_49 rfl ?_
        refine x_getR dX7_count_50 fl_X7_24 (gA_0 hg) rfl (gA_0_2 hg) ?_
        refine x_getR dX7_count_53 fl_X7_117 (gA_3 hg) rfl (gA_3_0 hg) ?_
        refine x_getI dX7_count_56 fl_X7_126 (gA_4 hg) rfl ?_
        exact x_iret (S := []) dX7_count_59 rfl rfl ⟨_, rfl, rfl, h⟩
      · replace h := itF q3 h
        by_cases q4 : l1 = 3
        · refine x_tsw (tgt := 60) dX7_count_1 (by rw [q4]; decide) (by rw [q4]; decide) (by rw [q4]; rfl) rfl ?_
          replace h := itT q4 h
          refine x_aload_n dX7_count_60 rfl ?_
          refine x_getR dX7_count_61 fl_X7_24 (gA_0 hg) rfl (gA_0_2 hg) ?_
          refine x_getI dX7_count_64 fl_X7_133 (gA_3 hg) rfl ?_
          exact x_iret (S := []) dX7_count_67 rfl rfl ⟨_, rfl, rfl, h⟩
        · replace h := itF q4 h
          by_cases q5 : l1 = 4
          · refine x_tsw (tgt := 68) dX7_count_1 (by rw [q5]; decide) (by rw [q5]; decide) (by rw [q5]; rfl) rfl ?_
            replace h := itT q5 h
            refine x_aload_n dX7_count_68 rfl ?_
            refine x_callV (Y2 := mX7_allOwn) (as := []) (S := []) (kc2 := 0) (ks2 := 0) mv_mX7_allOwn (Or.inl ⟨7, _, rfl, rfl, (gA_0 hg)⟩) dX7_count_69 lk_X7_265 mo_mX7_allOwn rfl rfl (Nat.le_of_ble_eq_true rfl) (Or.inl rfl) rfl rfl h ?_
            rintro _ _ σ1 ⟨v1, rfl, rfl, h⟩
            change zX _ _ 0 0 72 _ [.int v1] _ _ _
            exact x_iret (S := []) dX7_count_72 rfl rfl ⟨_, rfl, rfl, h⟩
          · replace h := itF q5 h
            refine x_tswd (tgt := 73) dX7_count_1 (by have z0 := lv_neT (a := 0) q1 rfl; have z1 := lv_neT (a := 1) q2 rfl; have z2 := lv_neT (a := 2) q3 rfl; have z3 := lv_neT (a := 3) q4 rfl; have z4 := lv_neT (a := 4) q5 rfl; omega) rfl ?_
            refine x_bipush (v := (-2)) dX7_count_73 rfl ?_
            exact x_iret (S := []) dX7_count_75 rfl rfl ⟨_, rfl, rfl, h⟩
abbrev p_X7_allOwn_4 (d : Nat) (g : zG) (K : Int32 → zI → Prop) (σ : zI) (l1 : Int32) (l2 : Int32) : Prop := zX mX7_allOwn (d + 1) 0 0 4 [.ref 0, .int l1, .int l2] [] g σ (zqI g K)
set_option maxRecDepth 20000 in
theorem s_X7_allOwn {d : Nat} {g : zG} {σ : zI} {K : Int32 → zI → Prop} (hg : zGA g)  (h : p_X7_allOwn_4 d g K σ 0 0) : zCI mX7_allOwn (d + 1) [.ref 0] g σ K := by
  refine c_of_x pn_mX7_allOwn rfl (Nat.le_of_ble_eq_true rfl) ?_
  change zX _ _ 0 0 0 [.ref 0] [] g σ _
  refine x_iconst (v := 0) dX7_allOwn_0 rfl ?_
  refine x_istore_n dX7_allOwn_1 rfl (Nat.le_of_ble_eq_true rfl) (L2 := [_, _]) rfl ?_
  refine x_iconst (v := 0) dX7_allOwn_2 rfl ?_
  refine x_istore_n dX7_allOwn_3 rfl (Nat.le_of_ble_eq_true rfl) (L2 := [_, _, _]) rfl ?_
  exact h
set_option maxRecDepth 20000 in
theorem s_X7_allOwn_4 {d : Nat} {g : zG} {σ : zI} {K : Int32 → zI → Prop} (hg : zGA g) {l1 : Int32} {l2 : Int32} (h : (if ((σ 0 8) ≤ l2 : Prop) then K l1 σ else (if (6 ≤ l2 : Prop) then K l1 σ else vp_in l2 6 ∧ zCI mJ6_bitCount_0f7a4 d [.int (σ (43 + l2.toNatClampNeg) 3)] g σ (fun v1 σ1 => p_X7_allOwn_4 d g K σ1 (l1 + v1) (l2 + 1))))) : p_X7_allOwn_4 d g K σ l1 l2 := by
  refine x_iload_n dX7_allOwn_4 rfl ?_
  refine x_aload_n dX7_allOwn_5 rfl ?_
  refine x_getI dX7_allOwn_6 fl_X7_77 (gA_0 hg) rfl ?_
  refine x_icmp_ge (tgt := 39) dX7_allOwn_9 rfl (fun q1 => ?_) (fun q1 => ?_)
  · replace h := itT q1 h
    refine x_iload_n dX7_allOwn_39 rfl ?_
    exact x_iret (S := []) dX7_allOwn_40 rfl rfl ⟨_, rfl, rfl, h⟩
  · replace h := itF q1 h
    refine x_iload_n dX7_allOwn_12 rfl ?_
    refine x_bipush (v := 6) dX7_allOwn_13 rfl ?_
    refine x_icmp_ge (tgt := 39) dX7_allOwn_15 rfl (fun q2 => ?_) (fun q2 => ?_)
    · replace h := itT q2 h
      refine x_iload_n dX7_allOwn_39 rfl ?_
      exact x_iret (S := []) dX7_allOwn_40 rfl rfl ⟨_, rfl, rfl, h⟩
    · replace h := itF q2 h
      refine x_iload_n dX7_allOwn_18 rfl ?_
      refine x_aload_n dX7_allOwn_19 rfl ?_
      refine x_getR dX7_allOwn_20 fl_X7_11 (gA_0 hg) rfl (gA_0_0 hg) ?_
      refine x_iload_n dX7_allOwn_23 rfl ?_
      obtain ⟨q3, h⟩ := h
      refine x_aald (t := 0) dX7_allOwn_24 (gA_1 hg) (by decide) q3 (gr_family hg q3).1 ?_
      refine x_getI dX7_allOwn_25 fl_X7_90 (gr_family hg q3).2 rfl ?_
      refine x_callS (Y2 := mJ6_bitCount_0f7a4) (as := [.int (σ (43 + l2.toNatClampNeg) 3)]) (S := [.int l1]) (kc2 := 0) (ks2 := 0) st_mJ6_bitCount_0f7a4 dX7_allOwn_28 lk_X7_104 mo_mJ6_bitCount_0f7a4 rfl rfl (Nat.le_of_ble_eq_true rfl) (Or.inl rfl) rfl rfl h ?_
      rintro _ _ σ1 ⟨v1, rfl, rfl, h⟩
      change zX _ _ 0 0 31 _ [.int v1, .int l1] _ _ _
      refine x_iadd dX7_allOwn_31 ?_
      refine x_istore_n dX7_allOwn_32 rfl (Nat.le_of_ble_eq_true rfl) (L2 := [_, _, _]) rfl ?_
      refine x_iinc dX7_allOwn_33 rfl (v := l2 + 1) rfl rfl (Nat.le_of_ble_eq_true rfl) (L2 := [_, _, _]) rfl ?_
      refine x_goto (tgt := 4) dX7_allOwn_36 rfl ?_
      exact h
set_option maxRecDepth 20000 in
theorem s_X7_sheet {d : Nat} {g : zG} {σ : zI} {K : Int32 → zI → Prop} (hg : zGA g) {l1 : Int32} {l2 : Int32} {l3 : Int32} (h : zCR mX7_sheetAt d [.ref 0, .int l1] g σ (fun x1 σ1 => match x1 with | none => K (-2) σ1 | some r1 => zSt g r1 ∧ (if (l2 < (-1) : Prop) then K (-2) σ1 else (if (l2 ≤ 2 : Prop) then (if (l2 = (-1) : Prop) then zCV mX5_lay d [.ref r1, .int (-1), .int 0] g σ1 (fun σ2 => K 1 σ2) else (if (l3 ≤ 40 : Prop) then (if (0 ≤ l3 : Prop) then zCV mX5_lay d [.ref r1, .int l2, .int l3] g σ1 (fun σ2 => K 1 σ2) else K (-14) σ1) else K (-2) σ1)) else K (-2) σ1)))) : zCI mX7_sheet (d + 1) [.ref 0, .int l1, .int l2, .int l3] g σ K := by
  refine c_of_x pn_mX7_sheet rfl (Nat.le_of_ble_eq_true rfl) ?_
  change zX _ _ 0 0 0 [.ref 0, .int l1, .int l2, .int l3] [] g σ _
  refine x_aload_n dX7_sheet_0 rfl ?_
  refine x_iload_n dX7_sheet_1 rfl ?_
  refine x_callV (Y2 := mX7_sheetAt) (as := [.int l1]) (S := []) (kc2 := 0) (ks2 := 0) mv_mX7_sheetAt (Or.inl ⟨7, _, rfl, rfl, (gA_0 hg)⟩) dX7_sheet_2 lk_X7_205 mo_mX7_sheetAt rfl rfl (Nat.le_of_ble_eq_true rfl) (Or.inl rfl) rfl rfl h ?_
  rintro _ _ σ1 ⟨x1, rfl, rfl, h⟩
  rcases x1 with _ | r1
  · dsimp only at h
    change zX _ _ 0 0 5 _ [.null] _ _ _
    refine x_astoreN dX7_sheet_5 rfl (Nat.le_of_ble_eq_true rfl) (L2 := [_, _, _, _, _]) rfl ?_
    refine x_aloadN dX7_sheet_7 rfl ?_
    refine x_ifnullN (tgt := 22) dX7_sheet_9 rfl ?_
    refine x_bipush (v := (-2)) dX7_sheet_22 rfl ?_
    exact x_iret (S := []) dX7_sheet_24 rfl rfl ⟨_, rfl, rfl, h⟩
  · dsimp only at h
    obtain ⟨q1, h⟩ := h
    change zX _ _ 0 0 5 _ [.ref r1] _ _ _
    refine x_astore dX7_sheet_5 rfl (Nat.le_of_ble_eq_true rfl) (L2 := [_, _, _, _, _]) rfl ?_
    refine x_aload dX7_sheet_7 rfl ?_
    refine x_ifnull dX7_sheet_9 ?_
    refine x_iload_n dX7_sheet_12 rfl ?_
    refine x_iconst (v := (-1)) dX7_sheet_13 rfl ?_
    refine x_icmp_lt (tgt := 22) dX7_sheet_14 rfl (fun q2 => ?_) (fun q2 => ?_)
    · replace h := itT q2 h
      refine x_bipush (v := (-2)) dX7_sheet_22 rfl ?_
      exact x_iret (S := []) dX7_sheet_24 rfl rfl ⟨_, rfl, rfl, h⟩
    · replace h := itF q2 h
      refine x_iload_n dX7_sheet_17 rfl ?_
      refine x_iconst (v := 2) dX7_sheet_18 rfl ?_
      refine x_icmp_le (tgt := 25) dX7_sheet_19 rfl (fun q3 => ?_) (fun q3 => ?_)
      · replace h := itT q3 h
        refine x_iload_n dX7_sheet_25 rfl ?_
        refine x_iconst (v := (-1)) dX7_sheet_26 rfl ?_
        refine x_icmp_ne (tgt := 39) dX7_sheet_27 rfl (fun q4 => ?_) (fun q4 => ?_)
        · replace h := itF q4 h
          refine x_iload_n dX7_sheet_39 rfl ?_
          refine x_bipush (v := 40) dX7_sheet_40 rfl ?_
          refine x_icmp_le (tgt := 48) dX7_sheet_42 rfl (fun q5 => ?_) (fun q5 => ?_)
          · replace h := itT q5 h
            refine x_iload_n dX7_sheet_48 rfl ?_
            refine x_if_ge (tgt := 55) dX7_sheet_49 rfl (fun q6 => ?_) (fun q6 => ?_)
            · replace h := itT q6 h
              refine x_aload dX7_sheet_55 rfl ?_
              refine x_iload_n dX7_sheet_57 rfl ?_
              refine x_iload_n dX7_sheet_58 rfl ?_
              refine x_callV (Y2 := mX5_lay) (as := [.int l2, .int l3]) (S := []) (kc2 := 0) (ks2 := 0) mv_mX5_lay (Or.inl ⟨5, _, rfl, rfl, q1.1⟩) dX7_sheet_59 lk_X7_241 mo_mX5_lay rfl rfl (Nat.le_of_ble_eq_true rfl) (Or.inl rfl) rfl rfl h ?_
              rintro _ _ σ2 ⟨rfl, rfl, h⟩
              change zX _ _ 0 0 62 _ [] _ _ _
              refine x_iconst (v := 1) dX7_sheet_62 rfl ?_
              exact x_iret (S := []) dX7_sheet_63 rfl rfl ⟨_, rfl, rfl, h⟩
            · replace h := itF q6 h
              refine x_bipush (v := (-14)) dX7_sheet_52 rfl ?_
              exact x_iret (S := []) dX7_sheet_54 rfl rfl ⟨_, rfl, rfl, h⟩
          · replace h := itF q5 h
            refine x_bipush (v := (-2)) dX7_sheet_45 rfl ?_
            exact x_iret (S := []) dX7_sheet_47 rfl rfl ⟨_, rfl, rfl, h⟩
        · replace h := itT q4 h
          refine x_aload dX7_sheet_30 rfl ?_
          refine x_iconst (v := (-1)) dX7_sheet_32 rfl ?_
          refine x_iconst (v := 0) dX7_sheet_33 rfl ?_
          refine x_callV (Y2 := mX5_lay) (as := [.int (-1), .int 0]) (S := []) (kc2 := 0) (ks2 := 0) mv_mX5_lay (Or.inl ⟨5, _, rfl, rfl, q1.1⟩) dX7_sheet_34 lk_X7_241 mo_mX5_lay rfl rfl (Nat.le_of_ble_eq_true rfl) (Or.inl rfl) rfl rfl h ?_
          rintro _ _ σ2 ⟨rfl, rfl, h⟩
          change zX _ _ 0 0 37 _ [] _ _ _
          refine x_iconst (v := 1) dX7_sheet_37 rfl ?_
          exact x_iret (S := []) dX7_sheet_38 rfl rfl ⟨_, rfl, rfl, h⟩
      · replace h := itF q3 h
        refine x_bipush (v := (-2)) dX7_sheet_22 rfl ?_
        exact x_iret (S := []) dX7_sheet_24 rfl rfl ⟨_, rfl, rfl, h⟩
set_option maxRecDepth 20000 in
theorem s_X7_cell {d : Nat} {g : zG} {σ : zI} {K : Int32 → zI → Prop} (hg : zGA g) {l1 : Int32} {l2 : Int32} {l3 : Int32} (h : zCR mX7_sheetAt d [.ref 0, .int l1] g σ (fun x1 σ1 => match x1 with | none => K (-2) σ1 | some r1 => zSt g r1 ∧ (if ((σ1 r1 0) = (-1) : Prop) then K (-11) σ1 else zCI mX5_holds d [.ref r1, .int l2] g σ1 (fun v1 σ2 => (if (v1 = 0 : Prop) then K (-12) σ2 else zCV mX5_put d [.ref r1, .int l2, .int l3] g σ2 (fun σ3 => K 1 σ3)))))) : zCI mX7_cell (d + 1) [.ref 0, .int l1, .int l2, .int l3] g σ K := by
  refine c_of_x pn_mX7_cell rfl (Nat.le_of_ble_eq_true rfl) ?_
  change zX _ _ 0 0 0 [.ref 0, .int l1, .int l2, .int l3] [] g σ _
  refine x_aload_n dX7_cell_0 rfl ?_
  refine x_iload_n dX7_cell_1 rfl ?_
  refine x_callV (Y2 := mX7_sheetAt) (as := [.int l1]) (S := []) (kc2 := 0) (ks2 := 0) mv_mX7_sheetAt (Or.inl ⟨7, _, rfl, rfl, (gA_0 hg)⟩) dX7_cell_2 lk_X7_205 mo_mX7_sheetAt rfl rfl (Nat.le_of_ble_eq_true rfl) (Or.inl rfl) rfl rfl h ?_
  rintro _ _ σ1 ⟨x1, rfl, rfl, h⟩
  rcases x1 with _ | r1
  · dsimp only at h
    change zX _ _ 0 0 5 _ [.null] _ _ _
    refine x_astoreN dX7_cell_5 rfl (Nat.le_of_ble_eq_true rfl) (L2 := [_, _, _, _, _]) rfl ?_
    refine x_aloadN dX7_cell_7 rfl ?_
    refine x_ifnonnullN dX7_cell_9 ?_
    refine x_bipush (v := (-2)) dX7_cell_12 rfl ?_
    exact x_iret (S := []) dX7_cell_14 rfl rfl ⟨_, rfl, rfl, h⟩
  · dsimp only at h
    obtain ⟨q1, h⟩ := h
    change zX _ _ 0 0 5 _ [.ref r1] _ _ _
    refine x_astore dX7_cell_5 rfl (Nat.le_of_ble_eq_true rfl) (L2 := [_, _, _, _, _]) rfl ?_
    refine x_aload dX7_cell_7 rfl ?_
    refine x_ifnonnull (tgt := 15) dX7_cell_9 rfl ?_
    refine x_aload dX7_cell_15 rfl ?_
    refine x_getI dX7_cell_17 fl_X7_209 q1.1 rfl ?_
    refine x_iconst (v := (-1)) dX7_cell_20 rfl ?_
    refine x_icmp_ne (tgt := 27) dX7_cell_21 rfl (fun q2 => ?_) (fun q2 => ?_)
    · replace h := itF q2 h
      refine x_aload dX7_cell_27 rfl ?_
      refine x_iload_n dX7_cell_29 rfl ?_
      refine x_callV (Y2 := mX5_holds) (as := [.int l2]) (S := []) (kc2 := 0) (ks2 := 0) mv_mX5_holds (Or.inl ⟨5, _, rfl, rfl, q1.1⟩) dX7_cell_30 lk_X7_271 mo_mX5_holds rfl rfl (Nat.le_of_ble_eq_true rfl) (Or.inl rfl) rfl rfl h ?_
      rintro _ _ σ2 ⟨v1, rfl, rfl, h⟩
      change zX _ _ 0 0 33 _ [.int v1] _ _ _
      refine x_if_ne (tgt := 39) dX7_cell_33 rfl (fun q3 => ?_) (fun q3 => ?_)
      · replace h := itF q3 h
        refine x_aload dX7_cell_39 rfl ?_
        refine x_iload_n dX7_cell_41 rfl ?_
        refine x_iload_n dX7_cell_42 rfl ?_
        refine x_callV (Y2 := mX5_put) (as := [.int l2, .int l3]) (S := []) (kc2 := 0) (ks2 := 0) mv_mX5_put (Or.inl ⟨5, _, rfl, rfl, q1.1⟩) dX7_cell_43 lk_X7_244 mo_mX5_put rfl rfl (Nat.le_of_ble_eq_true rfl) (Or.inl rfl) rfl rfl h ?_
        rintro _ _ σ3 ⟨rfl, rfl, h⟩
        change zX _ _ 0 0 46 _ [] _ _ _
        refine x_iconst (v := 1) dX7_cell_46 rfl ?_
        exact x_iret (S := []) dX7_cell_47 rfl rfl ⟨_, rfl, rfl, h⟩
      · replace h := itT q3 h
        refine x_bipush (v := (-12)) dX7_cell_36 rfl ?_
        exact x_iret (S := []) dX7_cell_38 rfl rfl ⟨_, rfl, rfl, h⟩
    · replace h := itT q2 h
      refine x_bipush (v := (-11)) dX7_cell_24 rfl ?_
      exact x_iret (S := []) dX7_cell_26 rfl rfl ⟨_, rfl, rfl, h⟩
set_option maxRecDepth 20000 in
theorem s_X7_copy {d : Nat} {g : zG} {σ : zI} {K : Int32 → zI → Prop} (hg : zGA g) {l1 : Int32} {l2 : Int32} {l3 : Int32} {l4 : Int32} {l5 : Int32} (h : zCR mX7_sheetAt d [.ref 0, .int l1] g σ (fun x1 σ1 => match x1 with | none => zCR mX7_sheetAt d [.ref 0, .int l3] g σ1 (fun x2 σ2 => match x2 with | none => K (-2) σ2 | some r2 => zSt g r2 ∧ K (-2) σ2) | some r1 => zSt g r1 ∧ zCR mX7_sheetAt d [.ref 0, .int l3] g σ1 (fun x2 σ2 => match x2 with | none => K (-2) σ2 | some r2 => zSt g r2 ∧ (if ((σ2 r1 0) = (-1) : Prop) then K (-11) σ2 else (if ((σ2 r2 0) = (-1) : Prop) then K (-11) σ2 else (if ((σ2 r1 0) = (σ2 r2 0) : Prop) then zCI mX5_holdsRun d [.ref r1, .int l2, .int l5] g σ2 (fun v1 σ3 => (if (v1 = 0 : Prop) then K (-12) σ3 else zCI mX5_holdsRun d [.ref r2, .int l4, .int l5] g σ3 (fun v2 σ4 => (if (v2 = 0 : Prop) then K (-12) σ4 else ¬ l2 < 0 ∧ ¬ l4 < 0 ∧ ¬ l5 < 0 ∧ l2.toNatClampNeg + l5.toNatClampNeg ≤ 40 ∧ l4.toNatClampNeg + l5.toNatClampNeg ≤ 40 ∧ K l5 (zsC σ4 (r1 + 1) (r2 + 1) l2.toNatClampNeg l4.toNatClampNeg l5.toNatClampNeg))))) else K (-13) σ2)))))) : zCI mX7_copy (d + 1) [.ref 0, .int l1, .int l2, .int l3, .int l4, .int l5] g σ K := by
  refine c_of_x pn_mX7_copy rfl (Nat.le_of_ble_eq_true rfl) ?_
  change zX _ _ 0 0 0 [.ref 0, .int l1, .int l2, .int l3, .int l4, .int l5] [] g σ _
  refine x_aload_n dX7_copy_0 rfl ?_
  refine x_iload_n dX7_copy_1 rfl ?_
  refine x_callV (Y2 := mX7_sheetAt) (as := [.int l1]) (S := []) (kc2 := 0) (ks2 := 0) mv_mX7_sheetAt (Or.inl ⟨7, _, rfl, rfl, (gA_0 hg)⟩) dX7_copy_2 lk_X7_205 mo_mX7_sheetAt rfl rfl (Nat.le_of_ble_eq_true rfl) (Or.inl rfl) rfl rfl h ?_
  rintro _ _ σ1 ⟨x1, rfl, rfl, h⟩
  rcases x1 with _ | r1
  · dsimp only at h
    change zX _ _ 0 0 5 _ [.null] _ _ _
    refine x_astoreN dX7_copy_5 rfl (Nat.le_of_ble_eq_true rfl) (L2 := [_, _, _, _, _, _, _]) rfl ?_
    refine x_aload_n dX7_copy_7 rfl ?_
    refine x_iload_n dX7_copy_8 rfl ?_
    refine x_callV (Y2 := mX7_sheetAt) (as := [.int l3]) (S := []) (kc2 := 0) (ks2 := 0) mv_mX7_sheetAt (Or.inl ⟨7, _, rfl, rfl, (gA_0 hg)⟩) dX7_copy_9 lk_X7_205 mo_mX7_sheetAt rfl rfl (Nat.le_of_ble_eq_true rfl) (Or.inl rfl) rfl rfl h ?_
    rintro _ _ σ2 ⟨x2, rfl, rfl, h⟩
    rcases x2 with _ | r2
    · dsimp only at h
      change zX _ _ 0 0 12 _ [.null] _ _ _
      refine x_astoreN dX7_copy_12 rfl (Nat.le_of_ble_eq_true rfl) (L2 := [_, _, _, _, _, _, _, _]) rfl ?_
      refine x_aloadN dX7_copy_14 rfl ?_
      refine x_ifnullN (tgt := 24) dX7_copy_16 rfl ?_
      refine x_bipush (v := (-2)) dX7_copy_24 rfl ?_
      exact x_iret (S := []) dX7_copy_26 rfl rfl ⟨_, rfl, rfl, h⟩
    · dsimp only at h
      obtain ⟨q2, h⟩ := h
      change zX _ _ 0 0 12 _ [.ref r2] _ _ _
      refine x_astore dX7_copy_12 rfl (Nat.le_of_ble_eq_true rfl) (L2 := [_, _, _, _, _, _, _, _]) rfl ?_
      refine x_aloadN dX7_copy_14 rfl ?_
      refine x_ifnullN (tgt := 24) dX7_copy_16 rfl ?_
      refine x_bipush (v := (-2)) dX7_copy_24 rfl ?_
      exact x_iret (S := []) dX7_copy_26 rfl rfl ⟨_, rfl, rfl, h⟩
  · dsimp only at h
    obtain ⟨q1, h⟩ := h
    change zX _ _ 0 0 5 _ [.ref r1] _ _ _
    refine x_astore dX7_copy_5 rfl (Nat.le_of_ble_eq_true rfl) (L2 := [_, _, _, _, _, _, _]) rfl ?_
    refine x_aload_n dX7_copy_7 rfl ?_
    refine x_iload_n dX7_copy_8 rfl ?_
    refine x_callV (Y2 := mX7_sheetAt) (as := [.int l3]) (S := []) (kc2 := 0) (ks2 := 0) mv_mX7_sheetAt (Or.inl ⟨7, _, rfl, rfl, (gA_0 hg)⟩) dX7_copy_9 lk_X7_205 mo_mX7_sheetAt rfl rfl (Nat.le_of_ble_eq_true rfl) (Or.inl rfl) rfl rfl h ?_
    rintro _ _ σ2 ⟨x2, rfl, rfl, h⟩
    rcases x2 with _ | r2
    · dsimp only at h
      change zX _ _ 0 0 12 _ [.null] _ _ _
      refine x_astoreN dX7_copy_12 rfl (Nat.le_of_ble_eq_true rfl) (L2 := [_, _, _, _, _, _, _, _]) rfl ?_
      refine x_aload dX7_copy_14 rfl ?_
      refine x_ifnull dX7_copy_16 ?_
      refine x_aloadN dX7_copy_19 rfl ?_
      refine x_ifnonnullN dX7_copy_21 ?_
      refine x_bipush (v := (-2)) dX7_copy_24 rfl ?_
      exact x_iret (S := []) dX7_copy_26 rfl rfl ⟨_, rfl, rfl, h⟩
    · dsimp only at h
      obtain ⟨q2, h⟩ := h
      change zX _ _ 0 0 12 _ [.ref r2] _ _ _
      refine x_astore dX7_copy_12 rfl (Nat.le_of_ble_eq_true rfl) (L2 := [_, _, _, _, _, _, _, _]) rfl ?_
      refine x_aload dX7_copy_14 rfl ?_
      refine x_ifnull dX7_copy_16 ?_
      refine x_aload dX7_copy_19 rfl ?_
      refine x_ifnonnull (tgt := 27) dX7_copy_21 rfl ?_
      refine x_aload dX7_copy_27 rfl ?_
      refine x_getI dX7_copy_29 fl_X7_209 q1.1 rfl ?_
      refine x_iconst (v := (-1)) dX7_copy_32 rfl ?_
      refine x_icmp_eq (tgt := 45) dX7_copy_33 rfl (fun q3 => ?_) (fun q3 => ?_)
      · replace h := itT q3 h
        refine x_bipush (v := (-11)) dX7_copy_45 rfl ?_
        exact x_iret (S := []) dX7_copy_47 rfl rfl ⟨_, rfl, rfl, h⟩
      · replace h := itF q3 h
        refine x_aload dX7_copy_36 rfl ?_
        refine x_getI dX7_copy_38 fl_X7_209 q2.1 rfl ?_
        refine x_iconst (v := (-1)) dX7_copy_41 rfl ?_
        refine x_icmp_ne (tgt := 48) dX7_copy_42 rfl (fun q4 => ?_) (fun q4 => ?_)
        · replace h := itF q4 h
          refine x_aload dX7_copy_48 rfl ?_
          refine x_getI dX7_copy_50 fl_X7_209 q1.1 rfl ?_
          refine x_aload dX7_copy_53 rfl ?_
          refine x_getI dX7_copy_55 fl_X7_209 q2.1 rfl ?_
          refine x_icmp_eq (tgt := 64) dX7_copy_58 rfl (fun q5 => ?_) (fun q5 => ?_)
          · replace h := itT q5 h
            refine x_aload dX7_copy_64 rfl ?_
            refine x_iload_n dX7_copy_66 rfl ?_
            refine x_iload dX7_copy_67 rfl ?_
            refine x_callV (Y2 := mX5_holdsRun) (as := [.int l2, .int l5]) (S := []) (kc2 := 0) (ks2 := 0) mv_mX5_holdsRun (Or.inl ⟨5, _, rfl, rfl, q1.1⟩) dX7_copy_69 lk_X7_274 mo_mX5_holdsRun rfl rfl (Nat.le_of_ble_eq_true rfl) (Or.inl rfl) rfl rfl h ?_
            rintro _ _ σ3 ⟨v1, rfl, rfl, h⟩
            change zX _ _ 0 0 72 _ [.int v1] _ _ _
            refine x_if_eq (tgt := 87) dX7_copy_72 rfl (fun q6 => ?_) (fun q6 => ?_)
            · replace h := itT q6 h
              refine x_bipush (v := (-12)) dX7_copy_87 rfl ?_
              exact x_iret (S := []) dX7_copy_89 rfl rfl ⟨_, rfl, rfl, h⟩
            · replace h := itF q6 h
              refine x_aload dX7_copy_75 rfl ?_
              refine x_iload dX7_copy_77 rfl ?_
              refine x_iload dX7_copy_79 rfl ?_
              refine x_callV (Y2 := mX5_holdsRun) (as := [.int l4, .int l5]) (S := []) (kc2 := 0) (ks2 := 0) mv_mX5_holdsRun (Or.inl ⟨5, _, rfl, rfl, q2.1⟩) dX7_copy_81 lk_X7_274 mo_mX5_holdsRun rfl rfl (Nat.le_of_ble_eq_true rfl) (Or.inl rfl) rfl rfl h ?_
              rintro _ _ σ4 ⟨v2, rfl, rfl, h⟩
              change zX _ _ 0 0 84 _ [.int v2] _ _ _
              refine x_if_ne (tgt := 90) dX7_copy_84 rfl (fun q7 => ?_) (fun q7 => ?_)
              · replace h := itF q7 h
                refine x_aload dX7_copy_90 rfl ?_
                refine x_getR dX7_copy_92 fl_X7_277 q1.1 rfl q1.2.1 ?_
                refine x_iload_n dX7_copy_95 rfl ?_
                refine x_aload dX7_copy_96 rfl ?_
                refine x_getR dX7_copy_98 fl_X7_277 q2.1 rfl q2.2.1 ?_
                refine x_iload dX7_copy_101 rfl ?_
                refine x_iload dX7_copy_103 rfl ?_
                obtain ⟨q8, q9, q10, q11, q12, h⟩ := h
                refine x_copy dX7_copy_105 lw_X7_280 tw_cp1 tw_cp2 tw_sys q1.2.2 q2.2.2 q8 q9 q10 q11 q12 (Nat.le_of_ble_eq_true rfl) ?_
                refine x_iload dX7_copy_108 rfl ?_
                exact x_iret (S := []) dX7_copy_110 rfl rfl ⟨_, rfl, rfl, h⟩
              · replace h := itT q7 h
                refine x_bipush (v := (-12)) dX7_copy_87 rfl ?_
                exact x_iret (S := []) dX7_copy_89 rfl rfl ⟨_, rfl, rfl, h⟩
          · replace h := itF q5 h
            refine x_bipush (v := (-13)) dX7_copy_61 rfl ?_
            exact x_iret (S := []) dX7_copy_63 rfl rfl ⟨_, rfl, rfl, h⟩
        · replace h := itT q4 h
          refine x_bipush (v := (-11)) dX7_copy_45 rfl ?_
          exact x_iret (S := []) dX7_copy_47 rfl rfl ⟨_, rfl, rfl, h⟩
abbrev p_X7_heirs_78 (d : Nat) (g : zG) (K : Int32 → zI → Prop) (σ : zI) (l4 : Int32) (l5 : Nat) (l6 : Int32) (l7 : Int32) (l8 : Int32) : Prop := zX mX7_heirs (d + 1) 0 0 78 [.ref 0, .retAddr 0, .retAddr 0, .retAddr 0, .int l4, .ref l5, .int l6, .int l7, .int l8] [] g σ (zqI g K)
set_option maxRecDepth 20000 in
theorem s_X7_heirs {d : Nat} {g : zG} {σ : zI} {K : Int32 → zI → Prop} (hg : zGA g) {l1 : Int32} {l2 : Int32} {l3 : Int32} {l4 : Int32} (h : zCR mX7_sheetAt d [.ref 0, .int l1] g σ (fun x1 σ1 => match x1 with | none => K (-2) σ1 | some r1 => zSt g r1 ∧ (if (l2 < 0 : Prop) then K (-2) σ1 else (if (2 < l2 : Prop) then K (-2) σ1 else (if (l4 < 0 : Prop) then K (-2) σ1 else (if (l4 ≤ 6 : Prop) then (if ((σ1 r1 0) = (-1) : Prop) then (if ((σ1 r1 0) = (-1) : Prop) then K (-11) σ1 else p_X7_heirs_78 d g K σ1 l4 r1 0 l3 0) else (if ((σ1 r1 0) = l2 : Prop) then (if ((σ1 r1 0) = (-1) : Prop) then K (-11) σ1 else p_X7_heirs_78 d g K σ1 l4 r1 0 l3 0) else K (-13) σ1)) else K (-2) σ1)))))) : zCI mX7_heirs (d + 1) [.ref 0, .int l1, .int l2, .int l3, .int l4] g σ K := by
  refine c_of_x pn_mX7_heirs rfl (Nat.le_of_ble_eq_true rfl) ?_
  change zX _ _ 0 0 0 [.ref 0, .int l1, .int l2, .int l3, .int l4] [] g σ _
  refine x_aload_n dX7_heirs_0 rfl ?_
  refine x_iload_n dX7_heirs_1 rfl ?_
  refine x_callV (Y2 := mX7_sheetAt) (as := [.int l1]) (S := []) (kc2 := 0) (ks2 := 0) mv_mX7_sheetAt (Or.inl ⟨7, _, rfl, rfl, (gA_0 hg)⟩) dX7_heirs_2 lk_X7_205 mo_mX7_sheetAt rfl rfl (Nat.le_of_ble_eq_true rfl) (Or.inl rfl) rfl rfl h ?_
  rintro _ _ σ1 ⟨x1, rfl, rfl, h⟩
  rcases x1 with _ | r1
  · dsimp only at h
    change zX _ _ 0 0 5 _ [.null] _ _ _
    refine x_astoreN dX7_heirs_5 rfl (Nat.le_of_ble_eq_true rfl) (L2 := [_, _, _, _, _, _]) rfl ?_
    refine x_aloadN dX7_heirs_7 rfl ?_
    refine x_ifnullN (tgt := 33) dX7_heirs_9 rfl ?_
    refine x_bipush (v := (-2)) dX7_heirs_33 rfl ?_
    exact x_iret (S := []) dX7_heirs_35 rfl rfl ⟨_, rfl, rfl, h⟩
  · dsimp only at h
    obtain ⟨q1, h⟩ := h
    change zX _ _ 0 0 5 _ [.ref r1] _ _ _
    refine x_astore dX7_heirs_5 rfl (Nat.le_of_ble_eq_true rfl) (L2 := [_, _, _, _, _, _]) rfl ?_
    refine x_aload dX7_heirs_7 rfl ?_
    refine x_ifnull dX7_heirs_9 ?_
    refine x_iload_n dX7_heirs_12 rfl ?_
    refine x_if_lt (tgt := 33) dX7_heirs_13 rfl (fun q2 => ?_) (fun q2 => ?_)
    · replace h := itT q2 h
      refine x_bipush (v := (-2)) dX7_heirs_33 rfl ?_
      exact x_iret (S := []) dX7_heirs_35 rfl rfl ⟨_, rfl, rfl, h⟩
    · replace h := itF q2 h
      refine x_iload_n dX7_heirs_16 rfl ?_
      refine x_iconst (v := 2) dX7_heirs_17 rfl ?_
      refine x_icmp_gt (tgt := 33) dX7_heirs_18 rfl (fun q3 => ?_) (fun q3 => ?_)
      · replace h := itT q3 h
        refine x_bipush (v := (-2)) dX7_heirs_33 rfl ?_
        exact x_iret (S := []) dX7_heirs_35 rfl rfl ⟨_, rfl, rfl, h⟩
      · replace h := itF q3 h
        refine x_iload dX7_heirs_21 rfl ?_
        refine x_if_lt (tgt := 33) dX7_heirs_23 rfl (fun q4 => ?_) (fun q4 => ?_)
        · replace h := itT q4 h
          refine x_bipush (v := (-2)) dX7_heirs_33 rfl ?_
          exact x_iret (S := []) dX7_heirs_35 rfl rfl ⟨_, rfl, rfl, h⟩
        · replace h := itF q4 h
          refine x_iload dX7_heirs_26 rfl ?_
          refine x_bipush (v := 6) dX7_heirs_28 rfl ?_
          refine x_icmp_le (tgt := 36) dX7_heirs_30 rfl (fun q5 => ?_) (fun q5 => ?_)
          · replace h := itT q5 h
            refine x_aload dX7_heirs_36 rfl ?_
            refine x_getI dX7_heirs_38 fl_X7_209 q1.1 rfl ?_
            refine x_iconst (v := (-1)) dX7_heirs_41 rfl ?_
            refine x_icmp_eq (tgt := 57) dX7_heirs_42 rfl (fun q6 => ?_) (fun q6 => ?_)
            · replace h := itT q6 h
              refine x_aload dX7_heirs_57 rfl ?_
              refine x_getI dX7_heirs_59 fl_X7_209 q1.1 rfl ?_
              refine x_iconst (v := (-1)) dX7_heirs_62 rfl ?_
              refine x_icmp_ne (tgt := 69) dX7_heirs_63 rfl (fun q7 => ?_) (fun q7 => ?_)
              · replace h := itF q7 h
                refine x_iconst (v := 0) dX7_heirs_69 rfl ?_
                refine x_istore dX7_heirs_70 rfl (Nat.le_of_ble_eq_true rfl) (L2 := [_, _, _, _, _, _, _]) rfl ?_
                refine x_iload_n dX7_heirs_72 rfl ?_
                refine x_istore dX7_heirs_73 rfl (Nat.le_of_ble_eq_true rfl) (L2 := [_, _, _, _, _, _, _, _]) rfl ?_
                refine x_iconst (v := 0) dX7_heirs_75 rfl ?_
                refine x_istore dX7_heirs_76 rfl (Nat.le_of_ble_eq_true rfl) (L2 := [_, _, _, _, _, _, _, _, _]) rfl ?_
                exact x_wk (wC (wJ (wJ (wJ (wC (wC (wC (wC (wC (wN _)))))))))) h
              · replace h := itT q7 h
                refine x_bipush (v := (-11)) dX7_heirs_66 rfl ?_
                exact x_iret (S := []) dX7_heirs_68 rfl rfl ⟨_, rfl, rfl, h⟩
            · replace h := itF q6 h
              refine x_aload dX7_heirs_45 rfl ?_
              refine x_getI dX7_heirs_47 fl_X7_209 q1.1 rfl ?_
              refine x_iload_n dX7_heirs_50 rfl ?_
              refine x_icmp_eq (tgt := 57) dX7_heirs_51 rfl (fun q7 => ?_) (fun q7 => ?_)
              · replace h := itT q7 h
                refine x_aload dX7_heirs_57 rfl ?_
                refine x_getI dX7_heirs_59 fl_X7_209 q1.1 rfl ?_
                refine x_iconst (v := (-1)) dX7_heirs_62 rfl ?_
                refine x_icmp_ne (tgt := 69) dX7_heirs_63 rfl (fun q8 => ?_) (fun q8 => ?_)
                · replace h := itF q8 h
                  refine x_iconst (v := 0) dX7_heirs_69 rfl ?_
                  refine x_istore dX7_heirs_70 rfl (Nat.le_of_ble_eq_true rfl) (L2 := [_, _, _, _, _, _, _]) rfl ?_
                  refine x_iload_n dX7_heirs_72 rfl ?_
                  refine x_istore dX7_heirs_73 rfl (Nat.le_of_ble_eq_true rfl) (L2 := [_, _, _, _, _, _, _, _]) rfl ?_
                  refine x_iconst (v := 0) dX7_heirs_75 rfl ?_
                  refine x_istore dX7_heirs_76 rfl (Nat.le_of_ble_eq_true rfl) (L2 := [_, _, _, _, _, _, _, _, _]) rfl ?_
                  exact x_wk (wC (wJ (wJ (wJ (wC (wC (wC (wC (wC (wN _)))))))))) h
                · replace h := itT q8 h
                  refine x_bipush (v := (-11)) dX7_heirs_66 rfl ?_
                  exact x_iret (S := []) dX7_heirs_68 rfl rfl ⟨_, rfl, rfl, h⟩
              · replace h := itF q7 h
                refine x_bipush (v := (-13)) dX7_heirs_54 rfl ?_
                exact x_iret (S := []) dX7_heirs_56 rfl rfl ⟨_, rfl, rfl, h⟩
          · replace h := itF q5 h
            refine x_bipush (v := (-2)) dX7_heirs_33 rfl ?_
            exact x_iret (S := []) dX7_heirs_35 rfl rfl ⟨_, rfl, rfl, h⟩
set_option maxRecDepth 20000 in
theorem s_X7_heirs_78 {d : Nat} {g : zG} {σ : zI} {K : Int32 → zI → Prop} (hg : zGA g) {l4 : Int32} {l5 : Nat} (h_l5 : zSt g l5) {l6 : Int32} {l7 : Int32} {l8 : Int32} (h : (if (l4 ≤ l8 : Prop) then K l6 σ else zCI mX5_holdsRun d [.ref l5, .int l7, .int 2] g σ (fun v1 σ1 => (if (v1 = 0 : Prop) then K (-12) σ1 else zCI mX5_at d [.ref l5, .int l7] g σ1 (fun v2 σ2 => zCI mX5_at d [.ref l5, .int (l7 + 1)] g σ2 (fun v3 σ3 => zCI mX7_heir d [.ref 0, .int v2, .int v3] g σ3 (fun v4 σ4 => (if (v4 < 0 : Prop) then p_X7_heirs_78 d g K σ4 l4 l5 l6 (l7 + 2) (l8 + 1) else p_X7_heirs_78 d g K σ4 l4 l5 (l6 + 1) (l7 + 2) (l8 + 1))))))))) : p_X7_heirs_78 d g K σ l4 l5 l6 l7 l8 := by
  refine x_iload dX7_heirs_78 rfl ?_
  refine x_iload dX7_heirs_80 rfl ?_
  refine x_icmp_ge (tgt := 134) dX7_heirs_82 rfl (fun q1 => ?_) (fun q1 => ?_)
  · replace h := itT q1 h
    refine x_iload dX7_heirs_134 rfl ?_
    exact x_iret (S := []) dX7_heirs_136 rfl rfl ⟨_, rfl, rfl, h⟩
  · replace h := itF q1 h
    refine x_aload dX7_heirs_85 rfl ?_
    refine x_iload dX7_heirs_87 rfl ?_
    refine x_iconst (v := 2) dX7_heirs_89 rfl ?_
    refine x_callV (Y2 := mX5_holdsRun) (as := [.int l7, .int 2]) (S := []) (kc2 := 0) (ks2 := 0) mv_mX5_holdsRun (Or.inl ⟨5, _, rfl, rfl, h_l5.1⟩) dX7_heirs_90 lk_X7_274 mo_mX5_holdsRun rfl rfl (Nat.le_of_ble_eq_true rfl) (Or.inl rfl) rfl rfl h ?_
    rintro _ _ σ1 ⟨v1, rfl, rfl, h⟩
    change zX _ _ 0 0 93 _ [.int v1] _ _ _
    refine x_if_ne (tgt := 99) dX7_heirs_93 rfl (fun q2 => ?_) (fun q2 => ?_)
    · replace h := itF q2 h
      refine x_aload_n dX7_heirs_99 rfl ?_
      refine x_aload dX7_heirs_100 rfl ?_
      refine x_iload dX7_heirs_102 rfl ?_
      refine x_callV (Y2 := mX5_at) (as := [.int l7]) (S := [.ref 0]) (kc2 := 0) (ks2 := 0) mv_mX5_at (Or.inl ⟨5, _, rfl, rfl, h_l5.1⟩) dX7_heirs_104 lk_X7_286 mo_mX5_at rfl rfl (Nat.le_of_ble_eq_true rfl) (Or.inl rfl) rfl rfl h ?_
      rintro _ _ σ2 ⟨v2, rfl, rfl, h⟩
      change zX _ _ 0 0 107 _ [.int v2, .ref 0] _ _ _
      refine x_aload dX7_heirs_107 rfl ?_
      refine x_iload dX7_heirs_109 rfl ?_
      refine x_iconst (v := 1) dX7_heirs_111 rfl ?_
      refine x_iadd dX7_heirs_112 ?_
      refine x_callV (Y2 := mX5_at) (as := [.int (l7 + 1)]) (S := [.int v2, .ref 0]) (kc2 := 0) (ks2 := 0) mv_mX5_at (Or.inl ⟨5, _, rfl, rfl, h_l5.1⟩) dX7_heirs_113 lk_X7_286 mo_mX5_at rfl rfl (Nat.le_of_ble_eq_true rfl) (Or.inl rfl) rfl rfl h ?_
      rintro _ _ σ3 ⟨v3, rfl, rfl, h⟩
      change zX _ _ 0 0 116 _ [.int v3, .int v2, .ref 0] _ _ _
      refine x_callV (Y2 := mX7_heir) (as := [.int v2, .int v3]) (S := []) (kc2 := 0) (ks2 := 0) mv_mX7_heir (Or.inl ⟨7, _, rfl, rfl, (gA_0 hg)⟩) dX7_heirs_116 lk_X7_289 mo_mX7_heir rfl rfl (Nat.le_of_ble_eq_true rfl) (Or.inl rfl) rfl rfl h ?_
      rintro _ _ σ4 ⟨v4, rfl, rfl, h⟩
      change zX _ _ 0 0 119 _ [.int v4] _ _ _
      refine x_if_lt (tgt := 125) dX7_heirs_119 rfl (fun q3 => ?_) (fun q3 => ?_)
      · replace h := itT q3 h
        refine x_iinc dX7_heirs_125 rfl (v := l7 + 2) rfl rfl (Nat.le_of_ble_eq_true rfl) (L2 := [_, _, _, _, _, _, _, _, _]) rfl ?_
        refine x_iinc dX7_heirs_128 rfl (v := l8 + 1) rfl rfl (Nat.le_of_ble_eq_true rfl) (L2 := [_, _, _, _, _, _, _, _, _]) rfl ?_
        refine x_goto (tgt := 78) dX7_heirs_131 rfl ?_
        exact h
      · replace h := itF q3 h
        refine x_iinc dX7_heirs_122 rfl (v := l6 + 1) rfl rfl (Nat.le_of_ble_eq_true rfl) (L2 := [_, _, _, _, _, _, _, _, _]) rfl ?_
        refine x_iinc dX7_heirs_125 rfl (v := l7 + 2) rfl rfl (Nat.le_of_ble_eq_true rfl) (L2 := [_, _, _, _, _, _, _, _, _]) rfl ?_
        refine x_iinc dX7_heirs_128 rfl (v := l8 + 1) rfl rfl (Nat.le_of_ble_eq_true rfl) (L2 := [_, _, _, _, _, _, _, _, _]) rfl ?_
        refine x_goto (tgt := 78) dX7_heirs_131 rfl ?_
        exact h
    · replace h := itT q2 h
      refine x_bipush (v := (-12)) dX7_heirs_96 rfl ?_
      exact x_iret (S := []) dX7_heirs_98 rfl rfl ⟨_, rfl, rfl, h⟩
set_option maxRecDepth 20000 in
theorem s_X7_taken {d : Nat} {g : zG} {σ : zI} {K : Int32 → zI → Prop} (hg : zGA g) {l1 : Int32} {l2 : Int32} (h : (if (l2 < 0 : Prop) then K (-2) σ else (if (l2 < 6 : Prop) then zCR mX7_heirAt d [.ref 0, .int l1] g σ (fun x1 σ1 => match x1 with | none => K (-11) σ1 | some r1 => zOb g r1 0 ∧ zCI mX7_isUnder d [.int (σ1 r1 1), .int l2] g σ1 (fun v1 σ2 => (if (v1 = 0 : Prop) then K (-13) σ2 else K (σ2 r1 2) σ2))) else K (-2) σ))) : zCI mX7_taken (d + 1) [.ref 0, .int l1, .int l2] g σ K := by
  refine c_of_x pn_mX7_taken rfl (Nat.le_of_ble_eq_true rfl) ?_
  change zX _ _ 0 0 0 [.ref 0, .int l1, .int l2] [] g σ _
  refine x_iload_n dX7_taken_0 rfl ?_
  refine x_if_lt (tgt := 10) dX7_taken_1 rfl (fun q1 => ?_) (fun q1 => ?_)
  · replace h := itT q1 h
    refine x_bipush (v := (-2)) dX7_taken_10 rfl ?_
    exact x_iret (S := []) dX7_taken_12 rfl rfl ⟨_, rfl, rfl, h⟩
  · replace h := itF q1 h
    refine x_iload_n dX7_taken_4 rfl ?_
    refine x_bipush (v := 6) dX7_taken_5 rfl ?_
    refine x_icmp_lt (tgt := 13) dX7_taken_7 rfl (fun q2 => ?_) (fun q2 => ?_)
    · replace h := itT q2 h
      refine x_aload_n dX7_taken_13 rfl ?_
      refine x_iload_n dX7_taken_14 rfl ?_
      refine x_callV (Y2 := mX7_heirAt) (as := [.int l1]) (S := []) (kc2 := 0) (ks2 := 0) mv_mX7_heirAt (Or.inl ⟨7, _, rfl, rfl, (gA_0 hg)⟩) dX7_taken_15 lk_X7_66 mo_mX7_heirAt rfl rfl (Nat.le_of_ble_eq_true rfl) (Or.inl rfl) rfl rfl h ?_
      rintro _ _ σ1 ⟨x1, rfl, rfl, h⟩
      rcases x1 with _ | r1
      · dsimp only at h
        change zX _ _ 0 0 18 _ [.null] _ _ _
        refine x_astore_nN dX7_taken_18 rfl (Nat.le_of_ble_eq_true rfl) (L2 := [_, _, _, _]) rfl ?_
        refine x_aload_nN dX7_taken_19 rfl ?_
        refine x_ifnonnullN dX7_taken_20 ?_
        refine x_bipush (v := (-11)) dX7_taken_23 rfl ?_
        exact x_iret (S := []) dX7_taken_25 rfl rfl ⟨_, rfl, rfl, h⟩
      · dsimp only at h
        obtain ⟨q3, h⟩ := h
        change zX _ _ 0 0 18 _ [.ref r1] _ _ _
        refine x_astore_n dX7_taken_18 rfl (Nat.le_of_ble_eq_true rfl) (L2 := [_, _, _, _]) rfl ?_
        refine x_aload_n dX7_taken_19 rfl ?_
        refine x_ifnonnull (tgt := 26) dX7_taken_20 rfl ?_
        refine x_aload_n dX7_taken_26 rfl ?_
        refine x_getI dX7_taken_27 fl_X7_84 q3 rfl ?_
        refine x_iload_n dX7_taken_30 rfl ?_
        refine x_callS (Y2 := mX7_isUnder) (as := [.int (σ1 r1 1), .int l2]) (S := []) (kc2 := 0) (ks2 := 0) st_mX7_isUnder dX7_taken_31 lk_X7_292 mo_mX7_isUnder rfl rfl (Nat.le_of_ble_eq_true rfl) (Or.inl rfl) rfl rfl h ?_
        rintro _ _ σ2 ⟨v1, rfl, rfl, h⟩
        change zX _ _ 0 0 34 _ [.int v1] _ _ _
        refine x_if_eq (tgt := 44) dX7_taken_34 rfl (fun q4 => ?_) (fun q4 => ?_)
        · replace h := itT q4 h
          refine x_bipush (v := (-13)) dX7_taken_44 rfl ?_
          exact x_iret (S := []) dX7_taken_46 rfl rfl ⟨_, rfl, rfl, h⟩
        · replace h := itF q4 h
          refine x_aload_n dX7_taken_37 rfl ?_
          refine x_getI dX7_taken_38 fl_X7_87 q3 rfl ?_
          refine x_goto (tgt := 46) dX7_taken_41 rfl ?_
          exact x_iret (S := []) dX7_taken_46 rfl rfl ⟨_, rfl, rfl, h⟩
    · replace h := itF q2 h
      refine x_bipush (v := (-2)) dX7_taken_10 rfl ?_
      exact x_iret (S := []) dX7_taken_12 rfl rfl ⟨_, rfl, rfl, h⟩
abbrev p_X7_isUnder_4 (d : Nat) (g : zG) (K : Int32 → zI → Prop) (σ : zI) (l1 : Int32) (l2 : Int32) (l3 : Int32) : Prop := zX mX7_isUnder (d + 1) 0 0 4 [.retAddr 0, .int l1, .int l2, .int l3] [] g σ (zqI g K)
set_option maxRecDepth 20000 in
theorem s_X7_isUnder {d : Nat} {g : zG} {σ : zI} {K : Int32 → zI → Prop} (hg : zGA g) {l0 : Int32} {l1 : Int32} (h : p_X7_isUnder_4 d g K σ l1 l0 0) : zCI mX7_isUnder (d + 1) [.int l0, .int l1] g σ K := by
  refine c_of_x pn_mX7_isUnder rfl (Nat.le_of_ble_eq_true rfl) ?_
  change zX _ _ 0 0 0 [.int l0, .int l1] [] g σ _
  refine x_iload_n dX7_isUnder_0 rfl ?_
  refine x_istore_n dX7_isUnder_1 rfl (Nat.le_of_ble_eq_true rfl) (L2 := [_, _, _]) rfl ?_
  refine x_iconst (v := 0) dX7_isUnder_2 rfl ?_
  refine x_istore_n dX7_isUnder_3 rfl (Nat.le_of_ble_eq_true rfl) (L2 := [_, _, _, _]) rfl ?_
  exact x_wk (wJ (wC (wC (wC (wN _))))) h
set_option maxRecDepth 20000 in
theorem s_X7_isUnder_4 {d : Nat} {g : zG} {σ : zI} {K : Int32 → zI → Prop} (hg : zGA g) {l1 : Int32} {l2 : Int32} {l3 : Int32} (h : (if (6 ≤ l3 : Prop) then K 0 σ else (if (l2 < 0 : Prop) then K 0 σ else (if (6 ≤ l2 : Prop) then K 0 σ else (if (l2 = l1 : Prop) then K 1 σ else zCI mX7_kindAbove d [.int l2] g σ (fun v1 σ1 => p_X7_isUnder_4 d g K σ1 l1 v1 (l3 + 1))))))) : p_X7_isUnder_4 d g K σ l1 l2 l3 := by
  refine x_iload_n dX7_isUnder_4 rfl ?_
  refine x_bipush (v := 6) dX7_isUnder_5 rfl ?_
  refine x_icmp_ge (tgt := 38) dX7_isUnder_7 rfl (fun q1 => ?_) (fun q1 => ?_)
  · replace h := itT q1 h
    refine x_iconst (v := 0) dX7_isUnder_38 rfl ?_
    exact x_iret (S := []) dX7_isUnder_39 rfl rfl ⟨_, rfl, rfl, h⟩
  · replace h := itF q1 h
    refine x_iload_n dX7_isUnder_10 rfl ?_
    refine x_if_lt (tgt := 38) dX7_isUnder_11 rfl (fun q2 => ?_) (fun q2 => ?_)
    · replace h := itT q2 h
      refine x_iconst (v := 0) dX7_isUnder_38 rfl ?_
      exact x_iret (S := []) dX7_isUnder_39 rfl rfl ⟨_, rfl, rfl, h⟩
    · replace h := itF q2 h
      refine x_iload_n dX7_isUnder_14 rfl ?_
      refine x_bipush (v := 6) dX7_isUnder_15 rfl ?_
      refine x_icmp_ge (tgt := 38) dX7_isUnder_17 rfl (fun q3 => ?_) (fun q3 => ?_)
      · replace h := itT q3 h
        refine x_iconst (v := 0) dX7_isUnder_38 rfl ?_
        exact x_iret (S := []) dX7_isUnder_39 rfl rfl ⟨_, rfl, rfl, h⟩
      · replace h := itF q3 h
        refine x_iload_n dX7_isUnder_20 rfl ?_
        refine x_iload_n dX7_isUnder_21 rfl ?_
        refine x_icmp_ne (tgt := 27) dX7_isUnder_22 rfl (fun q4 => ?_) (fun q4 => ?_)
        · replace h := itF q4 h
          refine x_iload_n dX7_isUnder_27 rfl ?_
          refine x_callS (Y2 := mX7_kindAbove) (as := [.int l2]) (S := []) (kc2 := 0) (ks2 := 0) st_mX7_kindAbove dX7_isUnder_28 lk_X7_295 mo_mX7_kindAbove rfl rfl (Nat.le_of_ble_eq_true rfl) (Or.inl rfl) rfl rfl h ?_
          rintro _ _ σ1 ⟨v1, rfl, rfl, h⟩
          change zX _ _ 0 0 31 _ [.int v1] _ _ _
          refine x_istore_n dX7_isUnder_31 rfl (Nat.le_of_ble_eq_true rfl) (L2 := [_, _, _, _]) rfl ?_
          refine x_iinc dX7_isUnder_32 rfl (v := l3 + 1) rfl rfl (Nat.le_of_ble_eq_true rfl) (L2 := [_, _, _, _]) rfl ?_
          refine x_goto (tgt := 4) dX7_isUnder_35 rfl ?_
          exact h
        · replace h := itT q4 h
          refine x_iconst (v := 1) dX7_isUnder_25 rfl ?_
          exact x_iret (S := []) dX7_isUnder_26 rfl rfl ⟨_, rfl, rfl, h⟩
set_option maxRecDepth 20000 in
theorem s_X7_kindAbove {d : Nat} {g : zG} {σ : zI} {K : Int32 → zI → Prop} (hg : zGA g) {l0 : Int32} (h : (if (l0 = 1 : Prop) then K 0 σ else (if (l0 = 2 : Prop) then K 0 σ else (if (l0 = 3 : Prop) then K 1 σ else (if (l0 = 4 : Prop) then K 2 σ else (if (l0 = 5 : Prop) then K 0 σ else K (-1) σ)))))) : zCI mX7_kindAbove d [.int l0] g σ K := by
  refine c_of_x pn_mX7_kindAbove rfl (Nat.le_of_ble_eq_true rfl) ?_
  change zX _ _ 0 0 0 [.int l0] [] g σ _
  refine x_iload_n dX7_kindAbove_0 rfl ?_
  by_cases q1 : l0 = 1
  · refine x_tsw (tgt := 36) dX7_kindAbove_1 (by rw [q1]; decide) (by rw [q1]; decide) (by rw [q1]; rfl) rfl ?_
    replace h := itT q1 h
    refine x_iconst (v := 0) dX7_kindAbove_36 rfl ?_
    exact x_iret (S := []) dX7_kindAbove_37 rfl rfl ⟨_, rfl, rfl, h⟩
  · replace h := itF q1 h
    by_cases q2 : l0 = 2
    · refine x_tsw (tgt := 36) dX7_kindAbove_1 (by rw [q2]; decide) (by rw [q2]; decide) (by rw [q2]; rfl) rfl ?_
      replace h := itT q2 h
      refine x_iconst (v := 0) dX7_kindAbove_36 rfl ?_
      exact x_iret (S := []) dX7_kindAbove_37 rfl rfl ⟨_, rfl, rfl, h⟩
    · replace h := itF q2 h
      by_cases q3 : l0 = 3
      · refine x_tsw (tgt := 38) dX7_kindAbove_1 (by rw [q3]; decide) (by rw [q3]; decide) (by rw [q3]; rfl) rfl ?_
        replace h := itT q3 h
        refine x_iconst (v := 1) dX7_kindAbove_38 rfl ?_
        exact x_iret (S := []) dX7_kindAbove_39 rfl rfl ⟨_, rfl, rfl, h⟩
      · replace h := itF q3 h
        by_cases q4 : l0 = 4
        · refine x_tsw (tgt := 40) dX7_kindAbove_1 (by rw [q4]; decide) (by rw [q4]; decide) (by rw [q4]; rfl) rfl ?_
          replace h := itT q4 h
          refine x_iconst (v := 2) dX7_kindAbove_40 rfl ?_
          exact x_iret (S := []) dX7_kindAbove_41 rfl rfl ⟨_, rfl, rfl, h⟩
        · replace h := itF q4 h
          by_cases q5 : l0 = 5
          · refine x_tsw (tgt := 36) dX7_kindAbove_1 (by rw [q5]; decide) (by rw [q5]; decide) (by rw [q5]; rfl) rfl ?_
            replace h := itT q5 h
            refine x_iconst (v := 0) dX7_kindAbove_36 rfl ?_
            exact x_iret (S := []) dX7_kindAbove_37 rfl rfl ⟨_, rfl, rfl, h⟩
          · replace h := itF q5 h
            refine x_tswd (tgt := 42) dX7_kindAbove_1 (by have z0 := lv_neT (a := 1) q1 rfl; have z1 := lv_neT (a := 2) q2 rfl; have z2 := lv_neT (a := 3) q3 rfl; have z3 := lv_neT (a := 4) q4 rfl; have z4 := lv_neT (a := 5) q5 rfl; omega) rfl ?_
            refine x_iconst (v := (-1)) dX7_kindAbove_42 rfl ?_
            exact x_iret (S := []) dX7_kindAbove_43 rfl rfl ⟨_, rfl, rfl, h⟩
