set_option maxRecDepth 20000 in
theorem s_X8_codes {d : Nat} {g : zG} {σ : zI} {K : zI → Prop} (hg : zGA g) {l1 : Int32} (h : vp_in (σ 57 12) 3000 ∧ K (zsI (zsI σ 57 12 ((σ 57 12) + 1)) 64 ((σ 57 12 : Int32).toNatClampNeg) l1)) : zCV mX8_codes d [.ref 57, .int l1] g σ K := by
  refine c_of_x pn_mX8_codes rfl (Nat.le_of_ble_eq_true rfl) ?_
  change zX _ _ 0 0 0 [.ref 57, .int l1] [] g σ _
  refine x_aload_n dX8_codes_0 rfl ?_
  refine x_getR dX8_codes_1 fl_X8_28 (gA_57 hg) rfl (gA_57_11 hg) ?_
  refine x_aload_n dX8_codes_4 rfl ?_
  refine x_dup dX8_codes_5 rfl ?_
  refine x_getI dX8_codes_6 fl_X8_159 (gA_57 hg) rfl ?_
  refine x_dup_x1 dX8_codes_9 rfl rfl ?_
  refine x_iconst (v := 1) dX8_codes_10 rfl ?_
  refine x_iadd dX8_codes_11 ?_
  refine x_putI dX8_codes_12 fl_X8_159 (gA_57 hg) rfl rfl ?_
  refine x_iload_n dX8_codes_15 rfl ?_
  obtain ⟨q1, h⟩ := h
  refine x_iast dX8_codes_16 (gA_64 hg) q1 ?_
  exact x_vret (S := []) dX8_codes_17 rfl ⟨rfl, rfl, h⟩
abbrev p_X8_set_21 (d : Nat) (g : zG) (K : Int32 → zI → Prop) (σ : zI) (l1 : Int32) (l2 : Int32) (l3 : Int32) : Prop := zX mX8_set (d + 1) 0 0 21 [.ref 57, .int l1, .int l2, .int l3] [] g σ (zqI g K)
set_option maxRecDepth 20000 in
theorem s_X8_set {d : Nat} {g : zG} {σ : zI} {K : Int32 → zI → Prop} (hg : zGA g) {l1 : Int32} {l2 : Int32} {l3 : Int32} (h : zCI mX8_within d [.int l1, .int 0, .int 2] g σ (fun v1 σ1 => (if (v1 = 0 : Prop) then K (-2) σ1 else (if (l1 ≤ 0 : Prop) then p_X8_set_21 d g K σ1 l1 l2 l3 else zCI mX8_isHeir d [.ref 57, .int l2] g σ1 (fun v2 σ2 => (if (v2 = 0 : Prop) then K (-2) σ2 else p_X8_set_21 d g K σ2 l1 l2 l3)))))) : zCI mX8_set (d + 1) [.ref 57, .int l1, .int l2, .int l3] g σ K := by
  refine c_of_x pn_mX8_set rfl (Nat.le_of_ble_eq_true rfl) ?_
  change zX _ _ 0 0 0 [.ref 57, .int l1, .int l2, .int l3] [] g σ _
  refine x_iload_n dX8_set_0 rfl ?_
  refine x_iconst (v := 0) dX8_set_1 rfl ?_
  refine x_iconst (v := 2) dX8_set_2 rfl ?_
  refine x_callS (Y2 := mX8_within) (as := [.int l1, .int 0, .int 2]) (S := []) (kc2 := 0) (ks2 := 0) st_mX8_within dX8_set_3 lk_X8_85 mo_mX8_within rfl rfl (Nat.le_of_ble_eq_true rfl) (Or.inl rfl) rfl rfl h ?_
  rintro _ _ σ1 ⟨v1, rfl, rfl, h⟩
  change zX _ _ 0 0 6 _ [.int v1] _ _ _
  refine x_if_eq (tgt := 30) dX8_set_6 rfl (fun q1 => ?_) (fun q1 => ?_)
  · replace h := itT q1 h
    refine x_bipush (v := (-2)) dX8_set_30 rfl ?_
    exact x_iret (S := []) dX8_set_32 rfl rfl ⟨_, rfl, rfl, h⟩
  · replace h := itF q1 h
    refine x_iload_n dX8_set_9 rfl ?_
    refine x_if_le (tgt := 21) dX8_set_10 rfl (fun q2 => ?_) (fun q2 => ?_)
    · replace h := itT q2 h
      exact h
    · replace h := itF q2 h
      refine x_aload_n dX8_set_13 rfl ?_
      refine x_iload_n dX8_set_14 rfl ?_
      refine x_callV (Y2 := mX8_isHeir) (as := [.int l2]) (S := []) (kc2 := 0) (ks2 := 0) mv_mX8_isHeir (Or.inl ⟨8, _, rfl, rfl, (gA_57 hg)⟩) dX8_set_15 lk_X8_89 mo_mX8_isHeir rfl rfl (Nat.le_of_ble_eq_true rfl) (Or.inl rfl) rfl rfl h ?_
      rintro _ _ σ2 ⟨v2, rfl, rfl, h⟩
      change zX _ _ 0 0 18 _ [.int v2] _ _ _
      refine x_if_eq (tgt := 30) dX8_set_18 rfl (fun q3 => ?_) (fun q3 => ?_)
      · replace h := itT q3 h
        refine x_bipush (v := (-2)) dX8_set_30 rfl ?_
        exact x_iret (S := []) dX8_set_32 rfl rfl ⟨_, rfl, rfl, h⟩
      · replace h := itF q3 h
        exact h
set_option maxRecDepth 20000 in
theorem s_X8_set_21 {d : Nat} {g : zG} {σ : zI} {K : Int32 → zI → Prop} (hg : zGA g) {l1 : Int32} {l2 : Int32} {l3 : Int32} (h : zCI mX8_may d [.ref 57, .int l1, .int l3] g σ (fun v1 σ1 => (if (v1 = 0 : Prop) then K (-2) σ1 else zCI mX8_get d [.ref 57, .int l2, .int l1] g σ1 (fun v2 σ2 => (if (l1 = 0 : Prop) then K v2 (zsI σ2 57 0 l3) else (if (l1 = 1 : Prop) then vp_in l2 6 ∧ K v2 (zsI σ2 59 l2.toNatClampNeg l3) else vp_in l2 6 ∧ K v2 (zsI σ2 60 l2.toNatClampNeg l3))))))) : p_X8_set_21 d g K σ l1 l2 l3 := by
  refine x_aload_n dX8_set_21 rfl ?_
  refine x_iload_n dX8_set_22 rfl ?_
  refine x_iload_n dX8_set_23 rfl ?_
  refine x_callV (Y2 := mX8_may) (as := [.int l1, .int l3]) (S := []) (kc2 := 0) (ks2 := 0) mv_mX8_may (Or.inl ⟨8, _, rfl, rfl, (gA_57 hg)⟩) dX8_set_24 lk_X8_104 mo_mX8_may rfl rfl (Nat.le_of_ble_eq_true rfl) (Or.inl rfl) rfl rfl h ?_
  rintro _ _ σ1 ⟨v1, rfl, rfl, h⟩
  change zX _ _ 0 0 27 _ [.int v1] _ _ _
  refine x_if_ne (tgt := 33) dX8_set_27 rfl (fun q1 => ?_) (fun q1 => ?_)
  · replace h := itF q1 h
    refine x_aload_n dX8_set_33 rfl ?_
    refine x_iload_n dX8_set_34 rfl ?_
    refine x_iload_n dX8_set_35 rfl ?_
    refine x_callV (Y2 := mX8_get) (as := [.int l2, .int l1]) (S := []) (kc2 := 0) (ks2 := 0) mv_mX8_get (Or.inl ⟨8, _, rfl, rfl, (gA_57 hg)⟩) dX8_set_36 lk_X8_108 mo_mX8_get rfl rfl (Nat.le_of_ble_eq_true rfl) (Or.inl rfl) rfl rfl h ?_
    rintro _ _ σ2 ⟨v2, rfl, rfl, h⟩
    change zX _ _ 0 0 39 _ [.int v2] _ _ _
    refine x_istore dX8_set_39 rfl (Nat.le_of_ble_eq_true rfl) (L2 := [_, _, _, _, _]) rfl ?_
    refine x_iload_n dX8_set_41 rfl ?_
    refine x_if_ne (tgt := 53) dX8_set_42 rfl (fun q2 => ?_) (fun q2 => ?_)
    · replace h := itF q2 h
      refine x_iload_n dX8_set_53 rfl ?_
      refine x_iconst (v := 1) dX8_set_54 rfl ?_
      refine x_icmp_ne (tgt := 68) dX8_set_55 rfl (fun q3 => ?_) (fun q3 => ?_)
      · replace h := itF q3 h
        refine x_aload_n dX8_set_68 rfl ?_
        refine x_getR dX8_set_69 fl_X8_16 (gA_57 hg) rfl (gA_57_4 hg) ?_
        refine x_iload_n dX8_set_72 rfl ?_
        refine x_iload_n dX8_set_73 rfl ?_
        obtain ⟨q4, h⟩ := h
        refine x_iast dX8_set_74 (gA_60 hg) q4 ?_
        refine x_iload dX8_set_75 rfl ?_
        exact x_iret (S := []) dX8_set_77 rfl rfl ⟨_, rfl, rfl, h⟩
      · replace h := itT q3 h
        refine x_aload_n dX8_set_58 rfl ?_
        refine x_getR dX8_set_59 fl_X8_13 (gA_57 hg) rfl (gA_57_3 hg) ?_
        refine x_iload_n dX8_set_62 rfl ?_
        refine x_iload_n dX8_set_63 rfl ?_
        obtain ⟨q4, h⟩ := h
        refine x_iast dX8_set_64 (gA_59 hg) q4 ?_
        refine x_goto (tgt := 75) dX8_set_65 rfl ?_
        refine x_iload dX8_set_75 rfl ?_
        exact x_iret (S := []) dX8_set_77 rfl rfl ⟨_, rfl, rfl, h⟩
    · replace h := itT q2 h
      refine x_aload_n dX8_set_45 rfl ?_
      refine x_iload_n dX8_set_46 rfl ?_
      refine x_putI dX8_set_47 fl_X8_94 (gA_57 hg) rfl rfl ?_
      refine x_goto (tgt := 75) dX8_set_50 rfl ?_
      refine x_iload dX8_set_75 rfl ?_
      exact x_iret (S := []) dX8_set_77 rfl rfl ⟨_, rfl, rfl, h⟩
  · replace h := itT q1 h
    refine x_bipush (v := (-2)) dX8_set_30 rfl ?_
    exact x_iret (S := []) dX8_set_32 rfl rfl ⟨_, rfl, rfl, h⟩
set_option maxRecDepth 20000 in
theorem s_X8_within {d : Nat} {g : zG} {σ : zI} {K : Int32 → zI → Prop} (hg : zGA g) {l0 : Int32} {l1 : Int32} {l2 : Int32} (h : (if (l0 < l1 : Prop) then K 0 σ else (if (l2 < l0 : Prop) then K 0 σ else K 1 σ))) : zCI mX8_within d [.int l0, .int l1, .int l2] g σ K := by
  refine c_of_x pn_mX8_within rfl (Nat.le_of_ble_eq_true rfl) ?_
  change zX _ _ 0 0 0 [.int l0, .int l1, .int l2] [] g σ _
  refine x_iload_n dX8_within_0 rfl ?_
  refine x_iload_n dX8_within_1 rfl ?_
  refine x_icmp_lt (tgt := 14) dX8_within_2 rfl (fun q1 => ?_) (fun q1 => ?_)
  · replace h := itT q1 h
    refine x_iconst (v := 0) dX8_within_14 rfl ?_
    exact x_iret (S := []) dX8_within_15 rfl rfl ⟨_, rfl, rfl, h⟩
  · replace h := itF q1 h
    refine x_iload_n dX8_within_5 rfl ?_
    refine x_iload_n dX8_within_6 rfl ?_
    refine x_icmp_gt (tgt := 14) dX8_within_7 rfl (fun q2 => ?_) (fun q2 => ?_)
    · replace h := itT q2 h
      refine x_iconst (v := 0) dX8_within_14 rfl ?_
      exact x_iret (S := []) dX8_within_15 rfl rfl ⟨_, rfl, rfl, h⟩
    · replace h := itF q2 h
      refine x_iconst (v := 1) dX8_within_10 rfl ?_
      refine x_goto (tgt := 15) dX8_within_11 rfl ?_
      exact x_iret (S := []) dX8_within_15 rfl rfl ⟨_, rfl, rfl, h⟩
set_option maxRecDepth 20000 in
theorem s_X8_isHeir {d : Nat} {g : zG} {σ : zI} {K : Int32 → zI → Prop} (hg : zGA g) {l1 : Int32} (h : zCI mX8_within d [.int l1, .int 0, .int ((σ 57 1) - 1)] g σ (fun v1 σ1 => (v1 = 0 ∨ v1 = 1) ∧ K v1 σ1)) : zCI mX8_isHeir (d + 1) [.ref 57, .int l1] g σ K := by
  refine c_of_x pn_mX8_isHeir rfl (Nat.le_of_ble_eq_true rfl) ?_
  change zX _ _ 0 0 0 [.ref 57, .int l1] [] g σ _
  refine x_iload_n dX8_isHeir_0 rfl ?_
  refine x_iconst (v := 0) dX8_isHeir_1 rfl ?_
  refine x_aload_n dX8_isHeir_2 rfl ?_
  refine x_getI dX8_isHeir_3 fl_X8_82 (gA_57 hg) rfl ?_
  refine x_iconst (v := 1) dX8_isHeir_6 rfl ?_
  refine x_isub dX8_isHeir_7 ?_
  refine x_callS (Y2 := mX8_within) (as := [.int l1, .int 0, .int ((σ 57 1) - 1)]) (S := []) (kc2 := 0) (ks2 := 0) st_mX8_within dX8_isHeir_8 lk_X8_85 mo_mX8_within rfl rfl (Nat.le_of_ble_eq_true rfl) (Or.inl rfl) rfl rfl h ?_
  rintro _ _ σ1 ⟨v1, rfl, rfl, h⟩
  change zX _ _ 0 0 11 _ [.int v1] _ _ _
  obtain ⟨q1, h⟩ := h
  exact x_iret (S := []) dX8_isHeir_11 rfl (zbz q1) ⟨_, rfl, rfl, h⟩
set_option maxRecDepth 20000 in
theorem s_X8_may {d : Nat} {g : zG} {σ : zI} {K : Int32 → zI → Prop} (hg : zGA g) {l1 : Int32} {l2 : Int32} (h : (if (l1 = 0 : Prop) then zCI mX8_within d [.int l2, .int 0, .int 99] g σ (fun v1 σ1 => (v1 = 0 ∨ v1 = 1) ∧ K v1 σ1) else (if (l1 = 1 : Prop) then zCI mX8_within d [.int l2, .int 0, .int 9] g σ (fun v1 σ1 => (v1 = 0 ∨ v1 = 1) ∧ K v1 σ1) else zCI mX8_within d [.int l2, .int 0, .int 1073741823] g σ (fun v1 σ1 => (v1 = 0 ∨ v1 = 1) ∧ K v1 σ1)))) : zCI mX8_may (d + 1) [.ref 57, .int l1, .int l2] g σ K := by
  refine c_of_x pn_mX8_may rfl (Nat.le_of_ble_eq_true rfl) ?_
  change zX _ _ 0 0 0 [.ref 57, .int l1, .int l2] [] g σ _
  refine x_iload_n dX8_may_0 rfl ?_
  refine x_iconst (v := 0) dX8_may_1 rfl ?_
  refine x_iload_n dX8_may_2 rfl ?_
  refine x_if_ne (tgt := 11) dX8_may_3 rfl (fun q1 => ?_) (fun q1 => ?_)
  · replace h := itF q1 h
    refine x_iload_n dX8_may_11 rfl ?_
    refine x_iconst (v := 1) dX8_may_12 rfl ?_
    refine x_icmp_ne (tgt := 21) dX8_may_13 rfl (fun q2 => ?_) (fun q2 => ?_)
    · replace h := itF q2 h
      refine x_ldc dX8_may_21 kc_X8_93 ?_
      refine x_callS (Y2 := mX8_within) (as := [.int l2, .int 0, .int 1073741823]) (S := []) (kc2 := 0) (ks2 := 0) st_mX8_within dX8_may_23 lk_X8_85 mo_mX8_within rfl rfl (Nat.le_of_ble_eq_true rfl) (Or.inl rfl) rfl rfl h ?_
      rintro _ _ σ1 ⟨v1, rfl, rfl, h⟩
      change zX _ _ 0 0 26 _ [.int v1] _ _ _
      obtain ⟨q3, h⟩ := h
      exact x_iret (S := []) dX8_may_26 rfl (zbz q3) ⟨_, rfl, rfl, h⟩
    · replace h := itT q2 h
      refine x_bipush (v := 9) dX8_may_16 rfl ?_
      refine x_goto (tgt := 23) dX8_may_18 rfl ?_
      refine x_callS (Y2 := mX8_within) (as := [.int l2, .int 0, .int 9]) (S := []) (kc2 := 0) (ks2 := 0) st_mX8_within dX8_may_23 lk_X8_85 mo_mX8_within rfl rfl (Nat.le_of_ble_eq_true rfl) (Or.inl rfl) rfl rfl h ?_
      rintro _ _ σ1 ⟨v1, rfl, rfl, h⟩
      change zX _ _ 0 0 26 _ [.int v1] _ _ _
      obtain ⟨q3, h⟩ := h
      exact x_iret (S := []) dX8_may_26 rfl (zbz q3) ⟨_, rfl, rfl, h⟩
  · replace h := itT q1 h
    refine x_bipush (v := 99) dX8_may_6 rfl ?_
    refine x_goto (tgt := 23) dX8_may_8 rfl ?_
    refine x_callS (Y2 := mX8_within) (as := [.int l2, .int 0, .int 99]) (S := []) (kc2 := 0) (ks2 := 0) st_mX8_within dX8_may_23 lk_X8_85 mo_mX8_within rfl rfl (Nat.le_of_ble_eq_true rfl) (Or.inl rfl) rfl rfl h ?_
    rintro _ _ σ1 ⟨v1, rfl, rfl, h⟩
    change zX _ _ 0 0 26 _ [.int v1] _ _ _
    obtain ⟨q2, h⟩ := h
    exact x_iret (S := []) dX8_may_26 rfl (zbz q2) ⟨_, rfl, rfl, h⟩
set_option maxRecDepth 20000 in
theorem s_X8_get {d : Nat} {g : zG} {σ : zI} {K : Int32 → zI → Prop} (hg : zGA g) {l1 : Int32} {l2 : Int32} (h : (if (l2 = 0 : Prop) then K (σ 57 0) σ else (if (l2 = 1 : Prop) then vp_in l1 6 ∧ K (σ 59 l1.toNatClampNeg) σ else (if (l2 = 2 : Prop) then vp_in l1 6 ∧ K (σ 60 l1.toNatClampNeg) σ else (if (l2 = 3 : Prop) then vp_in l1 6 ∧ K (σ 58 l1.toNatClampNeg) σ else (if (l2 = 4 : Prop) then vp_in l1 6 ∧ zCI mX8_bitsOf d [.int (σ 60 l1.toNatClampNeg)] g σ (fun v1 σ1 => K v1 σ1) else zCI mX8_sayable d [.ref 57, .int l1] g σ (fun v1 σ1 => K v1 σ1))))))) : zCI mX8_get (d + 1) [.ref 57, .int l1, .int l2] g σ K := by
  refine c_of_x pn_mX8_get rfl (Nat.le_of_ble_eq_true rfl) ?_
  change zX _ _ 0 0 0 [.ref 57, .int l1, .int l2] [] g σ _
  refine x_iload_n dX8_get_0 rfl ?_
  by_cases q1 : l2 = 0
  · refine x_tsw (tgt := 36) dX8_get_1 (by rw [q1]; decide) (by rw [q1]; decide) (by rw [q1]; rfl) rfl ?_
    replace h := itT q1 h
    refine x_aload_n dX8_get_36 rfl ?_
    refine x_getI dX8_get_37 fl_X8_94 (gA_57 hg) rfl ?_
    exact x_iret (S := []) dX8_get_40 rfl rfl ⟨_, rfl, rfl, h⟩
  · replace h := itF q1 h
    by_cases q2 : l2 = 1
    · refine x_tsw (tgt := 41) dX8_get_1 (by rw [q2]; decide) (by rw [q2]; decide) (by rw [q2]; rfl) rfl ?_
      replace h := itT q2 h
      refine x_aload_n dX8_get_41 rfl ?_
      refine x_getR dX8_get_42 fl_X8_13 (gA_57 hg) rfl (gA_57_3 hg) ?_
      refine x_iload_n dX8_get_45 rfl ?_
      obtain ⟨q3, h⟩ := h
      refine x_iald dX8_get_46 (gA_59 hg) q3 ?_
      exact x_iret (S := []) dX8_get_47 rfl rfl ⟨_, rfl, rfl, h⟩
    · replace h := itF q2 h
      by_cases q3 : l2 = 2
      · refine x_tsw (tgt := 48) dX8_get_1 (by rw [q3]; decide) (by rw [q3]; decide) (by rw [q3]; rfl) rfl ?_
        replace h := itT q3 h
        refine x_aload_n dX8_get_48 rfl ?_
        refine x_getR dX8_get_49 fl_X8_16 (gA_57 hg) rfl (gA_57_4 hg) ?_
        refine x_iload_n dX8_get_52 rfl ?_
        obtain ⟨q4, h⟩ := h
        refine x_iald dX8_get_53 (gA_60 hg) q4 ?_
        exact x_iret (S := []) dX8_get_54 rfl rfl ⟨_, rfl, rfl, h⟩
      · replace h := itF q3 h
        by_cases q4 : l2 = 3
        · refine x_tsw (tgt := 55) dX8_get_1 (by rw [q4]; decide) (by rw [q4]; decide) (by rw [q4]; rfl) rfl ?_
          replace h := itT q4 h
          refine x_aload_n dX8_get_55 rfl ?_
          refine x_getR dX8_get_56 fl_X8_7 (gA_57 hg) rfl (gA_57_2 hg) ?_
          refine x_iload_n dX8_get_59 rfl ?_
          obtain ⟨q5, h⟩ := h
          refine x_iald dX8_get_60 (gA_58 hg) q5 ?_
          exact x_iret (S := []) dX8_get_61 rfl rfl ⟨_, rfl, rfl, h⟩
        · replace h := itF q4 h
          by_cases q5 : l2 = 4
          · refine x_tsw (tgt := 62) dX8_get_1 (by rw [q5]; decide) (by rw [q5]; decide) (by rw [q5]; rfl) rfl ?_
            replace h := itT q5 h
            refine x_aload_n dX8_get_62 rfl ?_
            refine x_getR dX8_get_63 fl_X8_16 (gA_57 hg) rfl (gA_57_4 hg) ?_
            refine x_iload_n dX8_get_66 rfl ?_
            obtain ⟨q6, h⟩ := h
            refine x_iald dX8_get_67 (gA_60 hg) q6 ?_
            refine x_callS (Y2 := mX8_bitsOf) (as := [.int (σ 60 l1.toNatClampNeg)]) (S := []) (kc2 := 0) (ks2 := 0) st_mX8_bitsOf dX8_get_68 lk_X8_97 mo_mX8_bitsOf rfl rfl (Nat.le_of_ble_eq_true rfl) (Or.inl rfl) rfl rfl h ?_
            rintro _ _ σ1 ⟨v1, rfl, rfl, h⟩
            change zX _ _ 0 0 71 _ [.int v1] _ _ _
            exact x_iret (S := []) dX8_get_71 rfl rfl ⟨_, rfl, rfl, h⟩
          · replace h := itF q5 h
            refine x_tswd (tgt := 72) dX8_get_1 (by have z0 := lv_neT (a := 0) q1 rfl; have z1 := lv_neT (a := 1) q2 rfl; have z2 := lv_neT (a := 2) q3 rfl; have z3 := lv_neT (a := 3) q4 rfl; have z4 := lv_neT (a := 4) q5 rfl; omega) rfl ?_
            refine x_aload_n dX8_get_72 rfl ?_
            refine x_iload_n dX8_get_73 rfl ?_
            refine x_callV (Y2 := mX8_sayable) (as := [.int l1]) (S := []) (kc2 := 0) (ks2 := 0) mv_mX8_sayable (Or.inl ⟨8, _, rfl, rfl, (gA_57 hg)⟩) dX8_get_74 lk_X8_101 mo_mX8_sayable rfl rfl (Nat.le_of_ble_eq_true rfl) (Or.inl rfl) rfl rfl h ?_
            rintro _ _ σ1 ⟨v1, rfl, rfl, h⟩
            change zX _ _ 0 0 77 _ [.int v1] _ _ _
            exact x_iret (S := []) dX8_get_77 rfl rfl ⟨_, rfl, rfl, h⟩
abbrev p_X8_bitsOf_4 (d : Nat) (g : zG) (K : Int32 → zI → Prop) (σ : zI) (l0 : Int32) (l1 : Int32) (l2 : Int32) : Prop := zX mX8_bitsOf d 0 0 4 [.int l0, .int l1, .int l2] [] g σ (zqI g K)
set_option maxRecDepth 20000 in
theorem s_X8_bitsOf {d : Nat} {g : zG} {σ : zI} {K : Int32 → zI → Prop} (hg : zGA g) {l0 : Int32} (h : p_X8_bitsOf_4 d g K σ l0 0 0) : zCI mX8_bitsOf d [.int l0] g σ K := by
  refine c_of_x pn_mX8_bitsOf rfl (Nat.le_of_ble_eq_true rfl) ?_
  change zX _ _ 0 0 0 [.int l0] [] g σ _
  refine x_iconst (v := 0) dX8_bitsOf_0 rfl ?_
  refine x_istore_n dX8_bitsOf_1 rfl (Nat.le_of_ble_eq_true rfl) (L2 := [_, _]) rfl ?_
  refine x_iconst (v := 0) dX8_bitsOf_2 rfl ?_
  refine x_istore_n dX8_bitsOf_3 rfl (Nat.le_of_ble_eq_true rfl) (L2 := [_, _, _]) rfl ?_
  exact h
set_option maxRecDepth 20000 in
theorem s_X8_bitsOf_4 {d : Nat} {g : zG} {σ : zI} {K : Int32 → zI → Prop} (hg : zGA g) {l0 : Int32} {l1 : Int32} {l2 : Int32} (h : (if (30 ≤ l2 : Prop) then K l1 σ else p_X8_bitsOf_4 d g K σ l0 (l1 + ((l0 >>> (l2 &&& 31)) &&& 1)) (l2 + 1))) : p_X8_bitsOf_4 d g K σ l0 l1 l2 := by
  refine x_iload_n dX8_bitsOf_4 rfl ?_
  refine x_bipush (v := 30) dX8_bitsOf_5 rfl ?_
  refine x_icmp_ge (tgt := 24) dX8_bitsOf_7 rfl (fun q1 => ?_) (fun q1 => ?_)
  · replace h := itT q1 h
    refine x_iload_n dX8_bitsOf_24 rfl ?_
    exact x_iret (S := []) dX8_bitsOf_25 rfl rfl ⟨_, rfl, rfl, h⟩
  · replace h := itF q1 h
    refine x_iload_n dX8_bitsOf_10 rfl ?_
    refine x_iload_n dX8_bitsOf_11 rfl ?_
    refine x_iload_n dX8_bitsOf_12 rfl ?_
    refine x_ishr dX8_bitsOf_13 ?_
    refine x_iconst (v := 1) dX8_bitsOf_14 rfl ?_
    refine x_iand dX8_bitsOf_15 ?_
    refine x_iadd dX8_bitsOf_16 ?_
    refine x_istore_n dX8_bitsOf_17 rfl (Nat.le_of_ble_eq_true rfl) (L2 := [_, _, _]) rfl ?_
    refine x_iinc dX8_bitsOf_18 rfl (v := l2 + 1) rfl rfl (Nat.le_of_ble_eq_true rfl) (L2 := [_, _, _]) rfl ?_
    refine x_goto (tgt := 4) dX8_bitsOf_21 rfl ?_
    exact h
abbrev p_X8_sayable_4 (d : Nat) (g : zG) (K : Int32 → zI → Prop) (σ : zI) (l1 : Int32) (l2 : Int32) (l3 : Int32) : Prop := zX mX8_sayable (d + 1) 0 0 4 [.ref 57, .int l1, .int l2, .int l3] [] g σ (zqI g K)
set_option maxRecDepth 20000 in
theorem s_X8_sayable {d : Nat} {g : zG} {σ : zI} {K : Int32 → zI → Prop} (hg : zGA g) {l1 : Int32} (h : p_X8_sayable_4 d g K σ l1 0 1) : zCI mX8_sayable (d + 1) [.ref 57, .int l1] g σ K := by
  refine c_of_x pn_mX8_sayable rfl (Nat.le_of_ble_eq_true rfl) ?_
  change zX _ _ 0 0 0 [.ref 57, .int l1] [] g σ _
  refine x_iconst (v := 0) dX8_sayable_0 rfl ?_
  refine x_istore_n dX8_sayable_1 rfl (Nat.le_of_ble_eq_true rfl) (L2 := [_, _, _]) rfl ?_
  refine x_iconst (v := 1) dX8_sayable_2 rfl ?_
  refine x_istore_n dX8_sayable_3 rfl (Nat.le_of_ble_eq_true rfl) (L2 := [_, _, _, _]) rfl ?_
  exact h
set_option maxRecDepth 20000 in
theorem s_X8_sayable_4 {d : Nat} {g : zG} {σ : zI} {K : Int32 → zI → Prop} (hg : zGA g) {l1 : Int32} {l2 : Int32} {l3 : Int32} (h : (if (31 ≤ l3 : Prop) then K l2 σ else zCI mX8_isSaid d [.ref 57, .int l1, .int l3] g σ (fun v1 σ1 => (if (v1 = 0 : Prop) then p_X8_sayable_4 d g K σ1 l1 l2 (l3 + 1) else p_X8_sayable_4 d g K σ1 l1 (l2 ||| (1 <<< ((l3 - 1) &&& 31))) (l3 + 1))))) : p_X8_sayable_4 d g K σ l1 l2 l3 := by
  refine x_iload_n dX8_sayable_4 rfl ?_
  refine x_bipush (v := 31) dX8_sayable_5 rfl ?_
  refine x_icmp_ge (tgt := 33) dX8_sayable_7 rfl (fun q1 => ?_) (fun q1 => ?_)
  · replace h := itT q1 h
    refine x_iload_n dX8_sayable_33 rfl ?_
    exact x_iret (S := []) dX8_sayable_34 rfl rfl ⟨_, rfl, rfl, h⟩
  · replace h := itF q1 h
    refine x_aload_n dX8_sayable_10 rfl ?_
    refine x_iload_n dX8_sayable_11 rfl ?_
    refine x_iload_n dX8_sayable_12 rfl ?_
    refine x_callV (Y2 := mX8_isSaid) (as := [.int l1, .int l3]) (S := []) (kc2 := 0) (ks2 := 0) mv_mX8_isSaid (Or.inl ⟨8, _, rfl, rfl, (gA_57 hg)⟩) dX8_sayable_13 lk_X8_222 mo_mX8_isSaid rfl rfl (Nat.le_of_ble_eq_true rfl) (Or.inl rfl) rfl rfl h ?_
    rintro _ _ σ1 ⟨v1, rfl, rfl, h⟩
    change zX _ _ 0 0 16 _ [.int v1] _ _ _
    refine x_if_eq (tgt := 27) dX8_sayable_16 rfl (fun q2 => ?_) (fun q2 => ?_)
    · replace h := itT q2 h
      refine x_iinc dX8_sayable_27 rfl (v := l3 + 1) rfl rfl (Nat.le_of_ble_eq_true rfl) (L2 := [_, _, _, _]) rfl ?_
      refine x_goto (tgt := 4) dX8_sayable_30 rfl ?_
      exact h
    · replace h := itF q2 h
      refine x_iload_n dX8_sayable_19 rfl ?_
      refine x_iconst (v := 1) dX8_sayable_20 rfl ?_
      refine x_iload_n dX8_sayable_21 rfl ?_
      refine x_iconst (v := 1) dX8_sayable_22 rfl ?_
      refine x_isub dX8_sayable_23 ?_
      refine x_ishl dX8_sayable_24 ?_
      refine x_ior dX8_sayable_25 ?_
      refine x_istore_n dX8_sayable_26 rfl (Nat.le_of_ble_eq_true rfl) (L2 := [_, _, _, _]) rfl ?_
      refine x_iinc dX8_sayable_27 rfl (v := l3 + 1) rfl rfl (Nat.le_of_ble_eq_true rfl) (L2 := [_, _, _, _]) rfl ?_
      refine x_goto (tgt := 4) dX8_sayable_30 rfl ?_
      exact h
abbrev p_X8_isSaid_57 (d : Nat) (g : zG) (K : Int32 → zI → Prop) (σ : zI) (l1 : Int32) (l2 : Int32) (l3 : Int32) (l4 : Int32) : Prop := zX mX8_isSaid (d + 1) 0 0 57 [.ref 57, .int l1, .int l2, .int l3, .int l4] [] g σ (zqI g K)
set_option maxRecDepth 20000 in
theorem s_X8_isSaid {d : Nat} {g : zG} {σ : zI} {K : Int32 → zI → Prop} (hg : zGA g) {l1 : Int32} {l2 : Int32} (h : zCI mX8_isOwn d [.ref 57, .int l1, .int l2] g σ (fun v1 σ1 => (if (v1 = 0 : Prop) then vp_in l1 6 ∧ (if ((σ1 58 l1.toNatClampNeg) = 1 : Prop) then zCI mX8_isMade d [.ref 57, .int l1, .int l2] g σ1 (fun v2 σ2 => (v2 = 0 ∨ v2 = 1) ∧ K v2 σ2) else (if ((σ1 58 l1.toNatClampNeg) = 2 : Prop) then zCI mX8_isOwn d [.ref 57, .int l1, .int (2 * l2)] g σ1 (fun v2 σ2 => (v2 = 0 ∨ v2 = 1) ∧ K v2 σ2) else (if ((σ1 58 l1.toNatClampNeg) = 3 : Prop) then p_X8_isSaid_57 d g K σ1 l1 l2 0 (l2 + 1) else (if ((σ1 58 l1.toNatClampNeg) = 4 : Prop) then vp_in l1 6 ∧ (if (l2 = (σ1 59 l1.toNatClampNeg) : Prop) then K 1 σ1 else zCI mX8_isOwn d [.ref 57, .int l1, .int (2 * l2)] g σ1 (fun v2 σ2 => (if (v2 = 0 : Prop) then K 0 σ2 else K 1 σ2))) else (if ((σ1 58 l1.toNatClampNeg) = 5 : Prop) then vp_in l1 6 ∧ (if (l2 ≤ (20 + (σ1 59 l1.toNatClampNeg)) : Prop) then K 0 σ1 else K 1 σ1) else K 0 σ1))))) else K 1 σ1))) : zCI mX8_isSaid (d + 1) [.ref 57, .int l1, .int l2] g σ K := by
  refine c_of_x pn_mX8_isSaid rfl (Nat.le_of_ble_eq_true rfl) ?_
  change zX _ _ 0 0 0 [.ref 57, .int l1, .int l2] [] g σ _
  refine x_aload_n dX8_isSaid_0 rfl ?_
  refine x_iload_n dX8_isSaid_1 rfl ?_
  refine x_iload_n dX8_isSaid_2 rfl ?_
  refine x_callV (Y2 := mX8_isOwn) (as := [.int l1, .int l2]) (S := []) (kc2 := 0) (ks2 := 0) mv_mX8_isOwn (Or.inl ⟨8, _, rfl, rfl, (gA_57 hg)⟩) dX8_isSaid_3 lk_X8_216 mo_mX8_isOwn rfl rfl (Nat.le_of_ble_eq_true rfl) (Or.inl rfl) rfl rfl h ?_
  rintro _ _ σ1 ⟨v1, rfl, rfl, h⟩
  change zX _ _ 0 0 6 _ [.int v1] _ _ _
  refine x_if_eq (tgt := 11) dX8_isSaid_6 rfl (fun q1 => ?_) (fun q1 => ?_)
  · replace h := itT q1 h
    refine x_iconst (v := 0) dX8_isSaid_11 rfl ?_
    refine x_istore_n dX8_isSaid_12 rfl (Nat.le_of_ble_eq_true rfl) (L2 := [_, _, _, _]) rfl ?_
    refine x_aload_n dX8_isSaid_13 rfl ?_
    refine x_getR dX8_isSaid_14 fl_X8_7 (gA_57 hg) rfl (gA_57_2 hg) ?_
    refine x_iload_n dX8_isSaid_17 rfl ?_
    obtain ⟨q2, h⟩ := h
    refine x_iald dX8_isSaid_18 (gA_58 hg) q2 ?_
    by_cases q3 : (σ1 58 l1.toNatClampNeg) = 1
    · refine x_tsw (tgt := 113) dX8_isSaid_19 (by rw [q3]; decide) (by rw [q3]; decide) (by rw [q3]; rfl) rfl ?_
      replace h := itT q3 h
      refine x_aload_n dX8_isSaid_113 rfl ?_
      refine x_iload_n dX8_isSaid_114 rfl ?_
      refine x_iload_n dX8_isSaid_115 rfl ?_
      refine x_callV (Y2 := mX8_isMade) (as := [.int l1, .int l2]) (S := []) (kc2 := 0) (ks2 := 0) mv_mX8_isMade (Or.inl ⟨8, _, rfl, rfl, (gA_57 hg)⟩) dX8_isSaid_116 lk_X8_219 mo_mX8_isMade rfl rfl (Nat.le_of_ble_eq_true rfl) (Or.inl rfl) rfl rfl h ?_
      rintro _ _ σ2 ⟨v2, rfl, rfl, h⟩
      change zX _ _ 0 0 119 _ [.int v2] _ _ _
      obtain ⟨q4, h⟩ := h
      exact x_iret (S := []) dX8_isSaid_119 rfl (zbz q4) ⟨_, rfl, rfl, h⟩
    · replace h := itF q3 h
      by_cases q4 : (σ1 58 l1.toNatClampNeg) = 2
      · refine x_tsw (tgt := 147) dX8_isSaid_19 (by rw [q4]; decide) (by rw [q4]; decide) (by rw [q4]; rfl) rfl ?_
        replace h := itT q4 h
        refine x_aload_n dX8_isSaid_147 rfl ?_
        refine x_iload_n dX8_isSaid_148 rfl ?_
        refine x_iconst (v := 2) dX8_isSaid_149 rfl ?_
        refine x_iload_n dX8_isSaid_150 rfl ?_
        refine x_imul dX8_isSaid_151 ?_
        refine x_callV (Y2 := mX8_isOwn) (as := [.int l1, .int (2 * l2)]) (S := []) (kc2 := 0) (ks2 := 0) mv_mX8_isOwn (Or.inl ⟨8, _, rfl, rfl, (gA_57 hg)⟩) dX8_isSaid_152 lk_X8_216 mo_mX8_isOwn rfl rfl (Nat.le_of_ble_eq_true rfl) (Or.inl rfl) rfl rfl h ?_
        rintro _ _ σ2 ⟨v2, rfl, rfl, h⟩
        change zX _ _ 0 0 155 _ [.int v2] _ _ _
        obtain ⟨q5, h⟩ := h
        exact x_iret (S := []) dX8_isSaid_155 rfl (zbz q5) ⟨_, rfl, rfl, h⟩
      · replace h := itF q4 h
        by_cases q5 : (σ1 58 l1.toNatClampNeg) = 3
        · refine x_tsw (tgt := 52) dX8_isSaid_19 (by rw [q5]; decide) (by rw [q5]; decide) (by rw [q5]; rfl) rfl ?_
          replace h := itT q5 h
          refine x_iload_n dX8_isSaid_52 rfl ?_
          refine x_iconst (v := 1) dX8_isSaid_53 rfl ?_
          refine x_iadd dX8_isSaid_54 ?_
          refine x_istore dX8_isSaid_55 rfl (Nat.le_of_ble_eq_true rfl) (L2 := [_, _, _, _, _]) rfl ?_
          exact h
        · replace h := itF q5 h
          by_cases q6 : (σ1 58 l1.toNatClampNeg) = 4
          · refine x_tsw (tgt := 120) dX8_isSaid_19 (by rw [q6]; decide) (by rw [q6]; decide) (by rw [q6]; rfl) rfl ?_
            replace h := itT q6 h
            refine x_iload_n dX8_isSaid_120 rfl ?_
            refine x_aload_n dX8_isSaid_121 rfl ?_
            refine x_getR dX8_isSaid_122 fl_X8_13 (gA_57 hg) rfl (gA_57_3 hg) ?_
            refine x_iload_n dX8_isSaid_125 rfl ?_
            obtain ⟨q7, h⟩ := h
            refine x_iald dX8_isSaid_126 (gA_59 hg) q7 ?_
            refine x_icmp_eq (tgt := 141) dX8_isSaid_127 rfl (fun q8 => ?_) (fun q8 => ?_)
            · replace h := itT q8 h
              refine x_iconst (v := 1) dX8_isSaid_141 rfl ?_
              refine x_goto (tgt := 146) dX8_isSaid_142 rfl ?_
              exact x_iret (S := []) dX8_isSaid_146 rfl rfl ⟨_, rfl, rfl, h⟩
            · replace h := itF q8 h
              refine x_aload_n dX8_isSaid_130 rfl ?_
              refine x_iload_n dX8_isSaid_131 rfl ?_
              refine x_iconst (v := 2) dX8_isSaid_132 rfl ?_
              refine x_iload_n dX8_isSaid_133 rfl ?_
              refine x_imul dX8_isSaid_134 ?_
              refine x_callV (Y2 := mX8_isOwn) (as := [.int l1, .int (2 * l2)]) (S := []) (kc2 := 0) (ks2 := 0) mv_mX8_isOwn (Or.inl ⟨8, _, rfl, rfl, (gA_57 hg)⟩) dX8_isSaid_135 lk_X8_216 mo_mX8_isOwn rfl rfl (Nat.le_of_ble_eq_true rfl) (Or.inl rfl) rfl rfl h ?_
              rintro _ _ σ2 ⟨v2, rfl, rfl, h⟩
              change zX _ _ 0 0 138 _ [.int v2] _ _ _
              refine x_if_eq (tgt := 145) dX8_isSaid_138 rfl (fun q9 => ?_) (fun q9 => ?_)
              · replace h := itT q9 h
                refine x_iconst (v := 0) dX8_isSaid_145 rfl ?_
                exact x_iret (S := []) dX8_isSaid_146 rfl rfl ⟨_, rfl, rfl, h⟩
              · replace h := itF q9 h
                refine x_iconst (v := 1) dX8_isSaid_141 rfl ?_
                refine x_goto (tgt := 146) dX8_isSaid_142 rfl ?_
                exact x_iret (S := []) dX8_isSaid_146 rfl rfl ⟨_, rfl, rfl, h⟩
          · replace h := itF q6 h
            by_cases q7 : (σ1 58 l1.toNatClampNeg) = 5
            · refine x_tsw (tgt := 156) dX8_isSaid_19 (by rw [q7]; decide) (by rw [q7]; decide) (by rw [q7]; rfl) rfl ?_
              replace h := itT q7 h
              refine x_iload_n dX8_isSaid_156 rfl ?_
              refine x_bipush (v := 20) dX8_isSaid_157 rfl ?_
              refine x_aload_n dX8_isSaid_159 rfl ?_
              refine x_getR dX8_isSaid_160 fl_X8_13 (gA_57 hg) rfl (gA_57_3 hg) ?_
              refine x_iload_n dX8_isSaid_163 rfl ?_
              obtain ⟨q8, h⟩ := h
              refine x_iald dX8_isSaid_164 (gA_59 hg) q8 ?_
              refine x_iadd dX8_isSaid_165 ?_
              refine x_icmp_le (tgt := 173) dX8_isSaid_166 rfl (fun q9 => ?_) (fun q9 => ?_)
              · replace h := itT q9 h
                refine x_iconst (v := 0) dX8_isSaid_173 rfl ?_
                exact x_iret (S := []) dX8_isSaid_174 rfl rfl ⟨_, rfl, rfl, h⟩
              · replace h := itF q9 h
                refine x_iconst (v := 1) dX8_isSaid_169 rfl ?_
                refine x_goto (tgt := 174) dX8_isSaid_170 rfl ?_
                exact x_iret (S := []) dX8_isSaid_174 rfl rfl ⟨_, rfl, rfl, h⟩
            · replace h := itF q7 h
              refine x_tswd (tgt := 175) dX8_isSaid_19 (by have z0 := lv_neT (a := 1) q3 rfl; have z1 := lv_neT (a := 2) q4 rfl; have z2 := lv_neT (a := 3) q5 rfl; have z3 := lv_neT (a := 4) q6 rfl; have z4 := lv_neT (a := 5) q7 rfl; omega) rfl ?_
              refine x_iconst (v := 0) dX8_isSaid_175 rfl ?_
              exact x_iret (S := []) dX8_isSaid_176 rfl rfl ⟨_, rfl, rfl, h⟩
  · replace h := itF q1 h
    refine x_iconst (v := 1) dX8_isSaid_9 rfl ?_
    exact x_iret (S := []) dX8_isSaid_10 rfl rfl ⟨_, rfl, rfl, h⟩
set_option maxRecDepth 20000 in
theorem s_X8_isSaid_57 {d : Nat} {g : zG} {σ : zI} {K : Int32 → zI → Prop} (hg : zGA g) {l1 : Int32} {l2 : Int32} {l3 : Int32} {l4 : Int32} (h : (if (31 ≤ l4 : Prop) then (if (l3 = 0 : Prop) then zCI mX8_isMade d [.ref 57, .int l1, .int l2] g σ (fun v1 σ1 => (if (v1 = 0 : Prop) then K 0 σ1 else K 1 σ1)) else K 1 σ) else zCI mX8_isOwn d [.ref 57, .int l1, .int l4] g σ (fun v1 σ1 => (if (v1 = 0 : Prop) then p_X8_isSaid_57 d g K σ1 l1 l2 l3 (l4 + 1) else zCI mX8_isOwn d [.ref 57, .int l1, .int (l4 - l2)] g σ1 (fun v2 σ2 => (if (v2 = 0 : Prop) then p_X8_isSaid_57 d g K σ2 l1 l2 l3 (l4 + 1) else p_X8_isSaid_57 d g K σ2 l1 l2 1 (l4 + 1))))))) : p_X8_isSaid_57 d g K σ l1 l2 l3 l4 := by
  refine x_iload dX8_isSaid_57 rfl ?_
  refine x_bipush (v := 31) dX8_isSaid_59 rfl ?_
  refine x_icmp_ge (tgt := 94) dX8_isSaid_61 rfl (fun q1 => ?_) (fun q1 => ?_)
  · replace h := itT q1 h
    refine x_iload_n dX8_isSaid_94 rfl ?_
    refine x_if_ne (tgt := 107) dX8_isSaid_95 rfl (fun q2 => ?_) (fun q2 => ?_)
    · replace h := itF q2 h
      refine x_iconst (v := 1) dX8_isSaid_107 rfl ?_
      refine x_goto (tgt := 112) dX8_isSaid_108 rfl ?_
      exact x_iret (S := []) dX8_isSaid_112 rfl rfl ⟨_, rfl, rfl, h⟩
    · replace h := itT q2 h
      refine x_aload_n dX8_isSaid_98 rfl ?_
      refine x_iload_n dX8_isSaid_99 rfl ?_
      refine x_iload_n dX8_isSaid_100 rfl ?_
      refine x_callV (Y2 := mX8_isMade) (as := [.int l1, .int l2]) (S := []) (kc2 := 0) (ks2 := 0) mv_mX8_isMade (Or.inl ⟨8, _, rfl, rfl, (gA_57 hg)⟩) dX8_isSaid_101 lk_X8_219 mo_mX8_isMade rfl rfl (Nat.le_of_ble_eq_true rfl) (Or.inl rfl) rfl rfl h ?_
      rintro _ _ σ1 ⟨v1, rfl, rfl, h⟩
      change zX _ _ 0 0 104 _ [.int v1] _ _ _
      refine x_if_eq (tgt := 111) dX8_isSaid_104 rfl (fun q3 => ?_) (fun q3 => ?_)
      · replace h := itT q3 h
        refine x_iconst (v := 0) dX8_isSaid_111 rfl ?_
        exact x_iret (S := []) dX8_isSaid_112 rfl rfl ⟨_, rfl, rfl, h⟩
      · replace h := itF q3 h
        refine x_iconst (v := 1) dX8_isSaid_107 rfl ?_
        refine x_goto (tgt := 112) dX8_isSaid_108 rfl ?_
        exact x_iret (S := []) dX8_isSaid_112 rfl rfl ⟨_, rfl, rfl, h⟩
  · replace h := itF q1 h
    refine x_aload_n dX8_isSaid_64 rfl ?_
    refine x_iload_n dX8_isSaid_65 rfl ?_
    refine x_iload dX8_isSaid_66 rfl ?_
    refine x_callV (Y2 := mX8_isOwn) (as := [.int l1, .int l4]) (S := []) (kc2 := 0) (ks2 := 0) mv_mX8_isOwn (Or.inl ⟨8, _, rfl, rfl, (gA_57 hg)⟩) dX8_isSaid_68 lk_X8_216 mo_mX8_isOwn rfl rfl (Nat.le_of_ble_eq_true rfl) (Or.inl rfl) rfl rfl h ?_
    rintro _ _ σ1 ⟨v1, rfl, rfl, h⟩
    change zX _ _ 0 0 71 _ [.int v1] _ _ _
    refine x_if_eq (tgt := 88) dX8_isSaid_71 rfl (fun q2 => ?_) (fun q2 => ?_)
    · replace h := itT q2 h
      refine x_iinc dX8_isSaid_88 rfl (v := l4 + 1) rfl rfl (Nat.le_of_ble_eq_true rfl) (L2 := [_, _, _, _, _]) rfl ?_
      refine x_goto (tgt := 57) dX8_isSaid_91 rfl ?_
      exact h
    · replace h := itF q2 h
      refine x_aload_n dX8_isSaid_74 rfl ?_
      refine x_iload_n dX8_isSaid_75 rfl ?_
      refine x_iload dX8_isSaid_76 rfl ?_
      refine x_iload_n dX8_isSaid_78 rfl ?_
      refine x_isub dX8_isSaid_79 ?_
      refine x_callV (Y2 := mX8_isOwn) (as := [.int l1, .int (l4 - l2)]) (S := []) (kc2 := 0) (ks2 := 0) mv_mX8_isOwn (Or.inl ⟨8, _, rfl, rfl, (gA_57 hg)⟩) dX8_isSaid_80 lk_X8_216 mo_mX8_isOwn rfl rfl (Nat.le_of_ble_eq_true rfl) (Or.inl rfl) rfl rfl h ?_
      rintro _ _ σ2 ⟨v2, rfl, rfl, h⟩
      change zX _ _ 0 0 83 _ [.int v2] _ _ _
      refine x_if_eq (tgt := 88) dX8_isSaid_83 rfl (fun q3 => ?_) (fun q3 => ?_)
      · replace h := itT q3 h
        refine x_iinc dX8_isSaid_88 rfl (v := l4 + 1) rfl rfl (Nat.le_of_ble_eq_true rfl) (L2 := [_, _, _, _, _]) rfl ?_
        refine x_goto (tgt := 57) dX8_isSaid_91 rfl ?_
        exact h
      · replace h := itF q3 h
        refine x_iconst (v := 1) dX8_isSaid_86 rfl ?_
        refine x_istore_n dX8_isSaid_87 rfl (Nat.le_of_ble_eq_true rfl) (L2 := [_, _, _, _, _]) rfl ?_
        refine x_iinc dX8_isSaid_88 rfl (v := l4 + 1) rfl rfl (Nat.le_of_ble_eq_true rfl) (L2 := [_, _, _, _, _]) rfl ?_
        refine x_goto (tgt := 57) dX8_isSaid_91 rfl ?_
        exact h
set_option maxRecDepth 20000 in
theorem s_X8_isOwn {d : Nat} {g : zG} {σ : zI} {K : Int32 → zI → Prop} (hg : zGA g) {l1 : Int32} {l2 : Int32} (h : zCI mX8_isNumber d [.int l2] g σ (fun v1 σ1 => (if (v1 = 0 : Prop) then K 0 σ1 else vp_in l1 6 ∧ zCI mX8_has d [.int (σ1 60 l1.toNatClampNeg), .int (l2 - 1)] g σ1 (fun v2 σ2 => (if (v2 = 0 : Prop) then K 0 σ2 else K 1 σ2))))) : zCI mX8_isOwn (d + 1) [.ref 57, .int l1, .int l2] g σ K := by
  refine c_of_x pn_mX8_isOwn rfl (Nat.le_of_ble_eq_true rfl) ?_
  change zX _ _ 0 0 0 [.ref 57, .int l1, .int l2] [] g σ _
  refine x_iload_n dX8_isOwn_0 rfl ?_
  refine x_callS (Y2 := mX8_isNumber) (as := [.int l2]) (S := []) (kc2 := 0) (ks2 := 0) st_mX8_isNumber dX8_isOwn_1 lk_X8_115 mo_mX8_isNumber rfl rfl (Nat.le_of_ble_eq_true rfl) (Or.inl rfl) rfl rfl h ?_
  rintro _ _ σ1 ⟨v1, rfl, rfl, h⟩
  change zX _ _ 0 0 4 _ [.int v1] _ _ _
  refine x_if_eq (tgt := 26) dX8_isOwn_4 rfl (fun q1 => ?_) (fun q1 => ?_)
  · replace h := itT q1 h
    refine x_iconst (v := 0) dX8_isOwn_26 rfl ?_
    exact x_iret (S := []) dX8_isOwn_27 rfl rfl ⟨_, rfl, rfl, h⟩
  · replace h := itF q1 h
    refine x_aload_n dX8_isOwn_7 rfl ?_
    refine x_getR dX8_isOwn_8 fl_X8_16 (gA_57 hg) rfl (gA_57_4 hg) ?_
    refine x_iload_n dX8_isOwn_11 rfl ?_
    obtain ⟨q2, h⟩ := h
    refine x_iald dX8_isOwn_12 (gA_60 hg) q2 ?_
    refine x_iload_n dX8_isOwn_13 rfl ?_
    refine x_iconst (v := 1) dX8_isOwn_14 rfl ?_
    refine x_isub dX8_isOwn_15 ?_
    refine x_callS (Y2 := mX8_has) (as := [.int (σ1 60 l1.toNatClampNeg), .int (l2 - 1)]) (S := []) (kc2 := 0) (ks2 := 0) st_mX8_has dX8_isOwn_16 lk_X8_118 mo_mX8_has rfl rfl (Nat.le_of_ble_eq_true rfl) (Or.inl rfl) rfl rfl h ?_
    rintro _ _ σ2 ⟨v2, rfl, rfl, h⟩
    change zX _ _ 0 0 19 _ [.int v2] _ _ _
    refine x_if_eq (tgt := 26) dX8_isOwn_19 rfl (fun q3 => ?_) (fun q3 => ?_)
    · replace h := itT q3 h
      refine x_iconst (v := 0) dX8_isOwn_26 rfl ?_
      exact x_iret (S := []) dX8_isOwn_27 rfl rfl ⟨_, rfl, rfl, h⟩
    · replace h := itF q3 h
      refine x_iconst (v := 1) dX8_isOwn_22 rfl ?_
      refine x_goto (tgt := 27) dX8_isOwn_23 rfl ?_
      exact x_iret (S := []) dX8_isOwn_27 rfl rfl ⟨_, rfl, rfl, h⟩
set_option maxRecDepth 20000 in
theorem s_X8_isNumber {d : Nat} {g : zG} {σ : zI} {K : Int32 → zI → Prop} (hg : zGA g) {l0 : Int32} (h : zCI mX8_within d [.int l0, .int 1, .int 30] g σ (fun v1 σ1 => (v1 = 0 ∨ v1 = 1) ∧ K v1 σ1)) : zCI mX8_isNumber (d + 1) [.int l0] g σ K := by
  refine c_of_x pn_mX8_isNumber rfl (Nat.le_of_ble_eq_true rfl) ?_
  change zX _ _ 0 0 0 [.int l0] [] g σ _
  refine x_iload_n dX8_isNumber_0 rfl ?_
  refine x_iconst (v := 1) dX8_isNumber_1 rfl ?_
  refine x_bipush (v := 30) dX8_isNumber_2 rfl ?_
  refine x_callS (Y2 := mX8_within) (as := [.int l0, .int 1, .int 30]) (S := []) (kc2 := 0) (ks2 := 0) st_mX8_within dX8_isNumber_4 lk_X8_85 mo_mX8_within rfl rfl (Nat.le_of_ble_eq_true rfl) (Or.inl rfl) rfl rfl h ?_
  rintro _ _ σ1 ⟨v1, rfl, rfl, h⟩
  change zX _ _ 0 0 7 _ [.int v1] _ _ _
  obtain ⟨q1, h⟩ := h
  exact x_iret (S := []) dX8_isNumber_7 rfl (zbz q1) ⟨_, rfl, rfl, h⟩
set_option maxRecDepth 20000 in
theorem s_X8_has {d : Nat} {g : zG} {σ : zI} {K : Int32 → zI → Prop} (hg : zGA g) {l0 : Int32} {l1 : Int32} (h : (if (((l0 >>> (l1 &&& 31)) &&& 1) = 1 : Prop) then K 1 σ else K 0 σ)) : zCI mX8_has d [.int l0, .int l1] g σ K := by
  refine c_of_x pn_mX8_has rfl (Nat.le_of_ble_eq_true rfl) ?_
  change zX _ _ 0 0 0 [.int l0, .int l1] [] g σ _
  refine x_iload_n dX8_has_0 rfl ?_
  refine x_iload_n dX8_has_1 rfl ?_
  refine x_ishr dX8_has_2 ?_
  refine x_iconst (v := 1) dX8_has_3 rfl ?_
  refine x_iand dX8_has_4 ?_
  refine x_iconst (v := 1) dX8_has_5 rfl ?_
  refine x_icmp_ne (tgt := 13) dX8_has_6 rfl (fun q1 => ?_) (fun q1 => ?_)
  · replace h := itF q1 h
    refine x_iconst (v := 0) dX8_has_13 rfl ?_
    exact x_iret (S := []) dX8_has_14 rfl rfl ⟨_, rfl, rfl, h⟩
  · replace h := itT q1 h
    refine x_iconst (v := 1) dX8_has_9 rfl ?_
    refine x_goto (tgt := 14) dX8_has_10 rfl ?_
    exact x_iret (S := []) dX8_has_14 rfl rfl ⟨_, rfl, rfl, h⟩
abbrev p_X8_isMade_2 (d : Nat) (g : zG) (K : Int32 → zI → Prop) (σ : zI) (l1 : Int32) (l2 : Int32) (l3 : Int32) : Prop := zX mX8_isMade (d + 1) 0 0 2 [.ref 57, .int l1, .int l2, .int l3] [] g σ (zqI g K)
set_option maxRecDepth 20000 in
theorem s_X8_isMade {d : Nat} {g : zG} {σ : zI} {K : Int32 → zI → Prop} (hg : zGA g) {l1 : Int32} {l2 : Int32} (h : p_X8_isMade_2 d g K σ l1 l2 1) : zCI mX8_isMade (d + 1) [.ref 57, .int l1, .int l2] g σ K := by
  refine c_of_x pn_mX8_isMade rfl (Nat.le_of_ble_eq_true rfl) ?_
  change zX _ _ 0 0 0 [.ref 57, .int l1, .int l2] [] g σ _
  refine x_iconst (v := 1) dX8_isMade_0 rfl ?_
  refine x_istore_n dX8_isMade_1 rfl (Nat.le_of_ble_eq_true rfl) (L2 := [_, _, _, _]) rfl ?_
  exact h
set_option maxRecDepth 20000 in
theorem s_X8_isMade_2 {d : Nat} {g : zG} {σ : zI} {K : Int32 → zI → Prop} (hg : zGA g) {l1 : Int32} {l2 : Int32} {l3 : Int32} (h : (if (l2 ≤ l3 : Prop) then K 0 σ else zCI mX8_isOwn d [.ref 57, .int l1, .int l3] g σ (fun v1 σ1 => (if (v1 = 0 : Prop) then p_X8_isMade_2 d g K σ1 l1 l2 (l3 + 1) else zCI mX8_isOwn d [.ref 57, .int l1, .int (l2 - l3)] g σ1 (fun v2 σ2 => (if (v2 = 0 : Prop) then p_X8_isMade_2 d g K σ2 l1 l2 (l3 + 1) else K 1 σ2)))))) : p_X8_isMade_2 d g K σ l1 l2 l3 := by
  refine x_iload_n dX8_isMade_2 rfl ?_
  refine x_iload_n dX8_isMade_3 rfl ?_
  refine x_icmp_ge (tgt := 35) dX8_isMade_4 rfl (fun q1 => ?_) (fun q1 => ?_)
  · replace h := itT q1 h
    refine x_iconst (v := 0) dX8_isMade_35 rfl ?_
    exact x_iret (S := []) dX8_isMade_36 rfl rfl ⟨_, rfl, rfl, h⟩
  · replace h := itF q1 h
    refine x_aload_n dX8_isMade_7 rfl ?_
    refine x_iload_n dX8_isMade_8 rfl ?_
    refine x_iload_n dX8_isMade_9 rfl ?_
    refine x_callV (Y2 := mX8_isOwn) (as := [.int l1, .int l3]) (S := []) (kc2 := 0) (ks2 := 0) mv_mX8_isOwn (Or.inl ⟨8, _, rfl, rfl, (gA_57 hg)⟩) dX8_isMade_10 lk_X8_216 mo_mX8_isOwn rfl rfl (Nat.le_of_ble_eq_true rfl) (Or.inl rfl) rfl rfl h ?_
    rintro _ _ σ1 ⟨v1, rfl, rfl, h⟩
    change zX _ _ 0 0 13 _ [.int v1] _ _ _
    refine x_if_eq (tgt := 29) dX8_isMade_13 rfl (fun q2 => ?_) (fun q2 => ?_)
    · replace h := itT q2 h
      refine x_iinc dX8_isMade_29 rfl (v := l3 + 1) rfl rfl (Nat.le_of_ble_eq_true rfl) (L2 := [_, _, _, _]) rfl ?_
      refine x_goto (tgt := 2) dX8_isMade_32 rfl ?_
      exact h
    · replace h := itF q2 h
      refine x_aload_n dX8_isMade_16 rfl ?_
      refine x_iload_n dX8_isMade_17 rfl ?_
      refine x_iload_n dX8_isMade_18 rfl ?_
      refine x_iload_n dX8_isMade_19 rfl ?_
      refine x_isub dX8_isMade_20 ?_
      refine x_callV (Y2 := mX8_isOwn) (as := [.int l1, .int (l2 - l3)]) (S := []) (kc2 := 0) (ks2 := 0) mv_mX8_isOwn (Or.inl ⟨8, _, rfl, rfl, (gA_57 hg)⟩) dX8_isMade_21 lk_X8_216 mo_mX8_isOwn rfl rfl (Nat.le_of_ble_eq_true rfl) (Or.inl rfl) rfl rfl h ?_
      rintro _ _ σ2 ⟨v2, rfl, rfl, h⟩
      change zX _ _ 0 0 24 _ [.int v2] _ _ _
      refine x_if_eq (tgt := 29) dX8_isMade_24 rfl (fun q3 => ?_) (fun q3 => ?_)
      · replace h := itT q3 h
        refine x_iinc dX8_isMade_29 rfl (v := l3 + 1) rfl rfl (Nat.le_of_ble_eq_true rfl) (L2 := [_, _, _, _]) rfl ?_
        refine x_goto (tgt := 2) dX8_isMade_32 rfl ?_
        exact h
      · replace h := itF q3 h
        refine x_iconst (v := 1) dX8_isMade_27 rfl ?_
        exact x_iret (S := []) dX8_isMade_28 rfl rfl ⟨_, rfl, rfl, h⟩
set_option maxRecDepth 20000 in
theorem s_X8_heir {d : Nat} {g : zG} {σ : zI} {K : Int32 → zI → Prop} (hg : zGA g) {l1 : Int32} {l2 : Int32} (h : zCI mX8_within d [.int l1, .int 0, .int 5] g σ (fun v1 σ1 => (if (v1 = 0 : Prop) then K (-2) σ1 else zCI mX8_within d [.int l2, .int 0, .int 9] g σ1 (fun v2 σ2 => (if (v2 = 0 : Prop) then K (-2) σ2 else (if ((σ2 57 1) = 6 : Prop) then K (-4) σ2 else vp_in (σ2 57 1) 6 ∧ vp_in (σ2 57 1) 6 ∧ vp_in (σ2 57 1) 6 ∧ K (σ2 57 1) (zsI (zsI (zsI (zsI σ2 58 ((σ2 57 1 : Int32).toNatClampNeg) l1) 59 ((σ2 57 1 : Int32).toNatClampNeg) l2) 60 ((σ2 57 1 : Int32).toNatClampNeg) 0) 57 1 ((σ2 57 1) + 1)))))))) : zCI mX8_heir (d + 1) [.ref 57, .int l1, .int l2] g σ K := by
  refine c_of_x pn_mX8_heir rfl (Nat.le_of_ble_eq_true rfl) ?_
  change zX _ _ 0 0 0 [.ref 57, .int l1, .int l2] [] g σ _
  refine x_iload_n dX8_heir_0 rfl ?_
  refine x_iconst (v := 0) dX8_heir_1 rfl ?_
  refine x_iconst (v := 5) dX8_heir_2 rfl ?_
  refine x_callS (Y2 := mX8_within) (as := [.int l1, .int 0, .int 5]) (S := []) (kc2 := 0) (ks2 := 0) st_mX8_within dX8_heir_3 lk_X8_85 mo_mX8_within rfl rfl (Nat.le_of_ble_eq_true rfl) (Or.inl rfl) rfl rfl h ?_
  rintro _ _ σ1 ⟨v1, rfl, rfl, h⟩
  change zX _ _ 0 0 6 _ [.int v1] _ _ _
  refine x_if_eq (tgt := 19) dX8_heir_6 rfl (fun q1 => ?_) (fun q1 => ?_)
  · replace h := itT q1 h
    refine x_bipush (v := (-2)) dX8_heir_19 rfl ?_
    exact x_iret (S := []) dX8_heir_21 rfl rfl ⟨_, rfl, rfl, h⟩
  · replace h := itF q1 h
    refine x_iload_n dX8_heir_9 rfl ?_
    refine x_iconst (v := 0) dX8_heir_10 rfl ?_
    refine x_bipush (v := 9) dX8_heir_11 rfl ?_
    refine x_callS (Y2 := mX8_within) (as := [.int l2, .int 0, .int 9]) (S := []) (kc2 := 0) (ks2 := 0) st_mX8_within dX8_heir_13 lk_X8_85 mo_mX8_within rfl rfl (Nat.le_of_ble_eq_true rfl) (Or.inl rfl) rfl rfl h ?_
    rintro _ _ σ2 ⟨v2, rfl, rfl, h⟩
    change zX _ _ 0 0 16 _ [.int v2] _ _ _
    refine x_if_ne (tgt := 22) dX8_heir_16 rfl (fun q2 => ?_) (fun q2 => ?_)
    · replace h := itF q2 h
      refine x_aload_n dX8_heir_22 rfl ?_
      refine x_getI dX8_heir_23 fl_X8_82 (gA_57 hg) rfl ?_
      refine x_bipush (v := 6) dX8_heir_26 rfl ?_
      refine x_icmp_ne (tgt := 34) dX8_heir_28 rfl (fun q3 => ?_) (fun q3 => ?_)
      · replace h := itF q3 h
        refine x_aload_n dX8_heir_34 rfl ?_
        refine x_getR dX8_heir_35 fl_X8_7 (gA_57 hg) rfl (gA_57_2 hg) ?_
        refine x_aload_n dX8_heir_38 rfl ?_
        refine x_getI dX8_heir_39 fl_X8_82 (gA_57 hg) rfl ?_
        refine x_iload_n dX8_heir_42 rfl ?_
        obtain ⟨q4, h⟩ := h
        refine x_iast dX8_heir_43 (gA_58 hg) q4 ?_
        refine x_aload_n dX8_heir_44 rfl ?_
        refine x_getR dX8_heir_45 fl_X8_13 (gA_57 hg) rfl (gA_57_3 hg) ?_
        refine x_aload_n dX8_heir_48 rfl ?_
        refine x_getI dX8_heir_49 fl_X8_82 (gA_57 hg) rfl ?_
        refine x_iload_n dX8_heir_52 rfl ?_
        obtain ⟨q5, h⟩ := h
        refine x_iast dX8_heir_53 (gA_59 hg) q5 ?_
        refine x_aload_n dX8_heir_54 rfl ?_
        refine x_getR dX8_heir_55 fl_X8_16 (gA_57 hg) rfl (gA_57_4 hg) ?_
        refine x_aload_n dX8_heir_58 rfl ?_
        refine x_getI dX8_heir_59 fl_X8_82 (gA_57 hg) rfl ?_
        refine x_iconst (v := 0) dX8_heir_62 rfl ?_
        obtain ⟨q6, h⟩ := h
        refine x_iast dX8_heir_63 (gA_60 hg) q6 ?_
        refine x_aload_n dX8_heir_64 rfl ?_
        refine x_dup dX8_heir_65 rfl ?_
        refine x_getI dX8_heir_66 fl_X8_82 (gA_57 hg) rfl ?_
        refine x_dup_x1 dX8_heir_69 rfl rfl ?_
        refine x_iconst (v := 1) dX8_heir_70 rfl ?_
        refine x_iadd dX8_heir_71 ?_
        refine x_putI dX8_heir_72 fl_X8_82 (gA_57 hg) rfl rfl ?_
        exact x_iret (S := []) dX8_heir_75 rfl rfl ⟨_, rfl, rfl, h⟩
      · replace h := itT q3 h
        refine x_bipush (v := (-4)) dX8_heir_31 rfl ?_
        exact x_iret (S := []) dX8_heir_33 rfl rfl ⟨_, rfl, rfl, h⟩
    · replace h := itT q2 h
      refine x_bipush (v := (-2)) dX8_heir_19 rfl ?_
      exact x_iret (S := []) dX8_heir_21 rfl rfl ⟨_, rfl, rfl, h⟩
set_option maxRecDepth 20000 in
theorem s_X8_give {d : Nat} {g : zG} {σ : zI} {K : Int32 → zI → Prop} (hg : zGA g) {l1 : Int32} {l2 : Int32} {l3 : Int32} (h : zCI mX8_areTwo d [.ref 57, .int l1, .int l2] g σ (fun v1 σ1 => (if (v1 = 0 : Prop) then K (-2) σ1 else zCI mX8_isNumber d [.int l3] g σ1 (fun v2 σ2 => (if (v2 = 0 : Prop) then K (-2) σ2 else vp_in l1 6 ∧ zCI mX8_has d [.int (σ2 60 l1.toNatClampNeg), .int (l3 - 1)] g σ2 (fun v3 σ3 => (if (v3 = 0 : Prop) then K (-3) σ3 else vp_in l2 6 ∧ zCI mX8_has d [.int (σ3 60 l2.toNatClampNeg), .int (l3 - 1)] g σ3 (fun v4 σ4 => (if (v4 = 0 : Prop) then vp_in l1 6 ∧ vp_in l1 6 ∧ vp_in l2 6 ∧ vp_in l2 6 ∧ vp_in l1 6 ∧ zCI mX8_bitsOf d [.int ((zsI (zsI σ4 60 l1.toNatClampNeg ((σ4 60 l1.toNatClampNeg) - (1 <<< ((l3 - 1) &&& 31)))) 60 l2.toNatClampNeg (((zsI σ4 60 l1.toNatClampNeg ((σ4 60 l1.toNatClampNeg) - (1 <<< ((l3 - 1) &&& 31)))) 60 l2.toNatClampNeg) + (1 <<< ((l3 - 1) &&& 31)))) 60 l1.toNatClampNeg)] g (zsI (zsI σ4 60 l1.toNatClampNeg ((σ4 60 l1.toNatClampNeg) - (1 <<< ((l3 - 1) &&& 31)))) 60 l2.toNatClampNeg (((zsI σ4 60 l1.toNatClampNeg ((σ4 60 l1.toNatClampNeg) - (1 <<< ((l3 - 1) &&& 31)))) 60 l2.toNatClampNeg) + (1 <<< ((l3 - 1) &&& 31)))) (fun v5 σ5 => K v5 σ5) else K (-3) σ4))))))))) : zCI mX8_give (d + 1) [.ref 57, .int l1, .int l2, .int l3] g σ K := by
  refine c_of_x pn_mX8_give rfl (Nat.le_of_ble_eq_true rfl) ?_
  change zX _ _ 0 0 0 [.ref 57, .int l1, .int l2, .int l3] [] g σ _
  refine x_aload_n dX8_give_0 rfl ?_
  refine x_iload_n dX8_give_1 rfl ?_
  refine x_iload_n dX8_give_2 rfl ?_
  refine x_callV (Y2 := mX8_areTwo) (as := [.int l1, .int l2]) (S := []) (kc2 := 0) (ks2 := 0) mv_mX8_areTwo (Or.inl ⟨8, _, rfl, rfl, (gA_57 hg)⟩) dX8_give_3 lk_X8_112 mo_mX8_areTwo rfl rfl (Nat.le_of_ble_eq_true rfl) (Or.inl rfl) rfl rfl h ?_
  rintro _ _ σ1 ⟨v1, rfl, rfl, h⟩
  change zX _ _ 0 0 6 _ [.int v1] _ _ _
  refine x_if_eq (tgt := 16) dX8_give_6 rfl (fun q1 => ?_) (fun q1 => ?_)
  · replace h := itT q1 h
    refine x_bipush (v := (-2)) dX8_give_16 rfl ?_
    exact x_iret (S := []) dX8_give_18 rfl rfl ⟨_, rfl, rfl, h⟩
  · replace h := itF q1 h
    refine x_iload_n dX8_give_9 rfl ?_
    refine x_callS (Y2 := mX8_isNumber) (as := [.int l3]) (S := []) (kc2 := 0) (ks2 := 0) st_mX8_isNumber dX8_give_10 lk_X8_115 mo_mX8_isNumber rfl rfl (Nat.le_of_ble_eq_true rfl) (Or.inl rfl) rfl rfl h ?_
    rintro _ _ σ2 ⟨v2, rfl, rfl, h⟩
    change zX _ _ 0 0 13 _ [.int v2] _ _ _
    refine x_if_ne (tgt := 19) dX8_give_13 rfl (fun q2 => ?_) (fun q2 => ?_)
    · replace h := itF q2 h
      refine x_aload_n dX8_give_19 rfl ?_
      refine x_getR dX8_give_20 fl_X8_16 (gA_57 hg) rfl (gA_57_4 hg) ?_
      refine x_iload_n dX8_give_23 rfl ?_
      obtain ⟨q3, h⟩ := h
      refine x_iald dX8_give_24 (gA_60 hg) q3 ?_
      refine x_iload_n dX8_give_25 rfl ?_
      refine x_iconst (v := 1) dX8_give_26 rfl ?_
      refine x_isub dX8_give_27 ?_
      refine x_callS (Y2 := mX8_has) (as := [.int (σ2 60 l1.toNatClampNeg), .int (l3 - 1)]) (S := []) (kc2 := 0) (ks2 := 0) st_mX8_has dX8_give_28 lk_X8_118 mo_mX8_has rfl rfl (Nat.le_of_ble_eq_true rfl) (Or.inl rfl) rfl rfl h ?_
      rintro _ _ σ3 ⟨v3, rfl, rfl, h⟩
      change zX _ _ 0 0 31 _ [.int v3] _ _ _
      refine x_if_eq (tgt := 49) dX8_give_31 rfl (fun q4 => ?_) (fun q4 => ?_)
      · replace h := itT q4 h
        refine x_bipush (v := (-3)) dX8_give_49 rfl ?_
        exact x_iret (S := []) dX8_give_51 rfl rfl ⟨_, rfl, rfl, h⟩
      · replace h := itF q4 h
        refine x_aload_n dX8_give_34 rfl ?_
        refine x_getR dX8_give_35 fl_X8_16 (gA_57 hg) rfl (gA_57_4 hg) ?_
        refine x_iload_n dX8_give_38 rfl ?_
        obtain ⟨q5, h⟩ := h
        refine x_iald dX8_give_39 (gA_60 hg) q5 ?_
        refine x_iload_n dX8_give_40 rfl ?_
        refine x_iconst (v := 1) dX8_give_41 rfl ?_
        refine x_isub dX8_give_42 ?_
        refine x_callS (Y2 := mX8_has) (as := [.int (σ3 60 l2.toNatClampNeg), .int (l3 - 1)]) (S := []) (kc2 := 0) (ks2 := 0) st_mX8_has dX8_give_43 lk_X8_118 mo_mX8_has rfl rfl (Nat.le_of_ble_eq_true rfl) (Or.inl rfl) rfl rfl h ?_
        rintro _ _ σ4 ⟨v4, rfl, rfl, h⟩
        change zX _ _ 0 0 46 _ [.int v4] _ _ _
        refine x_if_eq (tgt := 52) dX8_give_46 rfl (fun q6 => ?_) (fun q6 => ?_)
        · replace h := itT q6 h
          refine x_aload_n dX8_give_52 rfl ?_
          refine x_getR dX8_give_53 fl_X8_16 (gA_57 hg) rfl (gA_57_4 hg) ?_
          refine x_iload_n dX8_give_56 rfl ?_
          refine x_dup2 dX8_give_57 rfl rfl ?_
          obtain ⟨q7, h⟩ := h
          refine x_iald dX8_give_58 (gA_60 hg) q7 ?_
          refine x_iconst (v := 1) dX8_give_59 rfl ?_
          refine x_iload_n dX8_give_60 rfl ?_
          refine x_iconst (v := 1) dX8_give_61 rfl ?_
          refine x_isub dX8_give_62 ?_
          refine x_ishl dX8_give_63 ?_
          refine x_isub dX8_give_64 ?_
          obtain ⟨q8, h⟩ := h
          refine x_iast dX8_give_65 (gA_60 hg) q8 ?_
          refine x_aload_n dX8_give_66 rfl ?_
          refine x_getR dX8_give_67 fl_X8_16 (gA_57 hg) rfl (gA_57_4 hg) ?_
          refine x_iload_n dX8_give_70 rfl ?_
          refine x_dup2 dX8_give_71 rfl rfl ?_
          obtain ⟨q9, h⟩ := h
          refine x_iald dX8_give_72 (gA_60 hg) q9 ?_
          refine x_iconst (v := 1) dX8_give_73 rfl ?_
          refine x_iload_n dX8_give_74 rfl ?_
          refine x_iconst (v := 1) dX8_give_75 rfl ?_
          refine x_isub dX8_give_76 ?_
          refine x_ishl dX8_give_77 ?_
          refine x_iadd dX8_give_78 ?_
          obtain ⟨q10, h⟩ := h
          refine x_iast dX8_give_79 (gA_60 hg) q10 ?_
          refine x_aload_n dX8_give_80 rfl ?_
          refine x_getR dX8_give_81 fl_X8_16 (gA_57 hg) rfl (gA_57_4 hg) ?_
          refine x_iload_n dX8_give_84 rfl ?_
          obtain ⟨q11, h⟩ := h
          refine x_iald dX8_give_85 (gA_60 hg) q11 ?_
          refine x_callS (Y2 := mX8_bitsOf) (as := [.int ((zsI (zsI σ4 60 l1.toNatClampNeg ((σ4 60 l1.toNatClampNeg) - (1 <<< ((l3 - 1) &&& 31)))) 60 l2.toNatClampNeg (((zsI σ4 60 l1.toNatClampNeg ((σ4 60 l1.toNatClampNeg) - (1 <<< ((l3 - 1) &&& 31)))) 60 l2.toNatClampNeg) + (1 <<< ((l3 - 1) &&& 31)))) 60 l1.toNatClampNeg)]) (S := []) (kc2 := 0) (ks2 := 0) st_mX8_bitsOf dX8_give_86 lk_X8_97 mo_mX8_bitsOf rfl rfl (Nat.le_of_ble_eq_true rfl) (Or.inl rfl) rfl rfl h ?_
          rintro _ _ σ5 ⟨v5, rfl, rfl, h⟩
          change zX _ _ 0 0 89 _ [.int v5] _ _ _
          exact x_iret (S := []) dX8_give_89 rfl rfl ⟨_, rfl, rfl, h⟩
        · replace h := itF q6 h
          refine x_bipush (v := (-3)) dX8_give_49 rfl ?_
          exact x_iret (S := []) dX8_give_51 rfl rfl ⟨_, rfl, rfl, h⟩
    · replace h := itT q2 h
      refine x_bipush (v := (-2)) dX8_give_16 rfl ?_
      exact x_iret (S := []) dX8_give_18 rfl rfl ⟨_, rfl, rfl, h⟩
set_option maxRecDepth 20000 in
theorem s_X8_areTwo {d : Nat} {g : zG} {σ : zI} {K : Int32 → zI → Prop} (hg : zGA g) {l1 : Int32} {l2 : Int32} (h : zCI mX8_isHeir d [.ref 57, .int l1] g σ (fun v1 σ1 => (if (v1 = 0 : Prop) then K 0 σ1 else zCI mX8_isHeir d [.ref 57, .int l2] g σ1 (fun v2 σ2 => (if (v2 = 0 : Prop) then K 0 σ2 else (if (l1 = l2 : Prop) then K 0 σ2 else K 1 σ2)))))) : zCI mX8_areTwo (d + 1) [.ref 57, .int l1, .int l2] g σ K := by
  refine c_of_x pn_mX8_areTwo rfl (Nat.le_of_ble_eq_true rfl) ?_
  change zX _ _ 0 0 0 [.ref 57, .int l1, .int l2] [] g σ _
  refine x_aload_n dX8_areTwo_0 rfl ?_
  refine x_iload_n dX8_areTwo_1 rfl ?_
  refine x_callV (Y2 := mX8_isHeir) (as := [.int l1]) (S := []) (kc2 := 0) (ks2 := 0) mv_mX8_isHeir (Or.inl ⟨8, _, rfl, rfl, (gA_57 hg)⟩) dX8_areTwo_2 lk_X8_89 mo_mX8_isHeir rfl rfl (Nat.le_of_ble_eq_true rfl) (Or.inl rfl) rfl rfl h ?_
  rintro _ _ σ1 ⟨v1, rfl, rfl, h⟩
  change zX _ _ 0 0 5 _ [.int v1] _ _ _
  refine x_if_eq (tgt := 25) dX8_areTwo_5 rfl (fun q1 => ?_) (fun q1 => ?_)
  · replace h := itT q1 h
    refine x_iconst (v := 0) dX8_areTwo_25 rfl ?_
    exact x_iret (S := []) dX8_areTwo_26 rfl rfl ⟨_, rfl, rfl, h⟩
  · replace h := itF q1 h
    refine x_aload_n dX8_areTwo_8 rfl ?_
    refine x_iload_n dX8_areTwo_9 rfl ?_
    refine x_callV (Y2 := mX8_isHeir) (as := [.int l2]) (S := []) (kc2 := 0) (ks2 := 0) mv_mX8_isHeir (Or.inl ⟨8, _, rfl, rfl, (gA_57 hg)⟩) dX8_areTwo_10 lk_X8_89 mo_mX8_isHeir rfl rfl (Nat.le_of_ble_eq_true rfl) (Or.inl rfl) rfl rfl h ?_
    rintro _ _ σ2 ⟨v2, rfl, rfl, h⟩
    change zX _ _ 0 0 13 _ [.int v2] _ _ _
    refine x_if_eq (tgt := 25) dX8_areTwo_13 rfl (fun q2 => ?_) (fun q2 => ?_)
    · replace h := itT q2 h
      refine x_iconst (v := 0) dX8_areTwo_25 rfl ?_
      exact x_iret (S := []) dX8_areTwo_26 rfl rfl ⟨_, rfl, rfl, h⟩
    · replace h := itF q2 h
      refine x_iload_n dX8_areTwo_16 rfl ?_
      refine x_iload_n dX8_areTwo_17 rfl ?_
      refine x_icmp_eq (tgt := 25) dX8_areTwo_18 rfl (fun q3 => ?_) (fun q3 => ?_)
      · replace h := itT q3 h
        refine x_iconst (v := 0) dX8_areTwo_25 rfl ?_
        exact x_iret (S := []) dX8_areTwo_26 rfl rfl ⟨_, rfl, rfl, h⟩
      · replace h := itF q3 h
        refine x_iconst (v := 1) dX8_areTwo_21 rfl ?_
        refine x_goto (tgt := 26) dX8_areTwo_22 rfl ?_
        exact x_iret (S := []) dX8_areTwo_26 rfl rfl ⟨_, rfl, rfl, h⟩
set_option maxRecDepth 20000 in
theorem s_X8_told {d : Nat} {g : zG} {σ : zI} {K : Int32 → zI → Prop} (hg : zGA g) {l1 : Int32} {l2 : Int32} (h : zCI mX8_within d [.int l2, .int 0, .int 5] g σ (fun v1 σ1 => (if (v1 = 0 : Prop) then K (-2) σ1 else (if (l2 = 0 : Prop) then zCI mX8_get d [.ref 57, .int l1, .int l2] g σ1 (fun v2 σ2 => K v2 σ2) else zCI mX8_isHeir d [.ref 57, .int l1] g σ1 (fun v2 σ2 => (if (v2 = 0 : Prop) then K (-2) σ2 else zCI mX8_get d [.ref 57, .int l1, .int l2] g σ2 (fun v3 σ3 => K v3 σ3))))))) : zCI mX8_told (d + 1) [.ref 57, .int l1, .int l2] g σ K := by
  refine c_of_x pn_mX8_told rfl (Nat.le_of_ble_eq_true rfl) ?_
  change zX _ _ 0 0 0 [.ref 57, .int l1, .int l2] [] g σ _
  refine x_iload_n dX8_told_0 rfl ?_
  refine x_iconst (v := 0) dX8_told_1 rfl ?_
  refine x_iconst (v := 5) dX8_told_2 rfl ?_
  refine x_callS (Y2 := mX8_within) (as := [.int l2, .int 0, .int 5]) (S := []) (kc2 := 0) (ks2 := 0) st_mX8_within dX8_told_3 lk_X8_85 mo_mX8_within rfl rfl (Nat.le_of_ble_eq_true rfl) (Or.inl rfl) rfl rfl h ?_
  rintro _ _ σ1 ⟨v1, rfl, rfl, h⟩
  change zX _ _ 0 0 6 _ [.int v1] _ _ _
  refine x_if_eq (tgt := 30) dX8_told_6 rfl (fun q1 => ?_) (fun q1 => ?_)
  · replace h := itT q1 h
    refine x_bipush (v := (-2)) dX8_told_30 rfl ?_
    exact x_iret (S := []) dX8_told_32 rfl rfl ⟨_, rfl, rfl, h⟩
  · replace h := itF q1 h
    refine x_iload_n dX8_told_9 rfl ?_
    refine x_if_eq (tgt := 21) dX8_told_10 rfl (fun q2 => ?_) (fun q2 => ?_)
    · replace h := itT q2 h
      refine x_aload_n dX8_told_21 rfl ?_
      refine x_iload_n dX8_told_22 rfl ?_
      refine x_iload_n dX8_told_23 rfl ?_
      refine x_callV (Y2 := mX8_get) (as := [.int l1, .int l2]) (S := []) (kc2 := 0) (ks2 := 0) mv_mX8_get (Or.inl ⟨8, _, rfl, rfl, (gA_57 hg)⟩) dX8_told_24 lk_X8_108 mo_mX8_get rfl rfl (Nat.le_of_ble_eq_true rfl) (Or.inl rfl) rfl rfl h ?_
      rintro _ _ σ2 ⟨v2, rfl, rfl, h⟩
      change zX _ _ 0 0 27 _ [.int v2] _ _ _
      refine x_goto (tgt := 32) dX8_told_27 rfl ?_
      exact x_iret (S := []) dX8_told_32 rfl rfl ⟨_, rfl, rfl, h⟩
    · replace h := itF q2 h
      refine x_aload_n dX8_told_13 rfl ?_
      refine x_iload_n dX8_told_14 rfl ?_
      refine x_callV (Y2 := mX8_isHeir) (as := [.int l1]) (S := []) (kc2 := 0) (ks2 := 0) mv_mX8_isHeir (Or.inl ⟨8, _, rfl, rfl, (gA_57 hg)⟩) dX8_told_15 lk_X8_89 mo_mX8_isHeir rfl rfl (Nat.le_of_ble_eq_true rfl) (Or.inl rfl) rfl rfl h ?_
      rintro _ _ σ2 ⟨v2, rfl, rfl, h⟩
      change zX _ _ 0 0 18 _ [.int v2] _ _ _
      refine x_if_eq (tgt := 30) dX8_told_18 rfl (fun q3 => ?_) (fun q3 => ?_)
      · replace h := itT q3 h
        refine x_bipush (v := (-2)) dX8_told_30 rfl ?_
        exact x_iret (S := []) dX8_told_32 rfl rfl ⟨_, rfl, rfl, h⟩
      · replace h := itF q3 h
        refine x_aload_n dX8_told_21 rfl ?_
        refine x_iload_n dX8_told_22 rfl ?_
        refine x_iload_n dX8_told_23 rfl ?_
        refine x_callV (Y2 := mX8_get) (as := [.int l1, .int l2]) (S := []) (kc2 := 0) (ks2 := 0) mv_mX8_get (Or.inl ⟨8, _, rfl, rfl, (gA_57 hg)⟩) dX8_told_24 lk_X8_108 mo_mX8_get rfl rfl (Nat.le_of_ble_eq_true rfl) (Or.inl rfl) rfl rfl h ?_
        rintro _ _ σ3 ⟨v3, rfl, rfl, h⟩
        change zX _ _ 0 0 27 _ [.int v3] _ _ _
        refine x_goto (tgt := 32) dX8_told_27 rfl ?_
        exact x_iret (S := []) dX8_told_32 rfl rfl ⟨_, rfl, rfl, h⟩
set_option maxRecDepth 20000 in
theorem s_X8_feed {d : Nat} {g : zG} {σ : zI} {K : Int32 → zI → Prop} (hg : zGA g) {l1 : Int32} (h : zCI mX8_within d [.int l1, .int 0, .int 255] g σ (fun v1 σ1 => (if (v1 = 0 : Prop) then K (-2) σ1 else (if ((σ1 57 6) = 160 : Prop) then K (-4) σ1 else vp_in (σ1 57 6) 160 ∧ K ((σ1 57 6) + 1) (zsI (zsI σ1 57 6 ((σ1 57 6) + 1)) 61 ((σ1 57 6 : Int32).toNatClampNeg) l1))))) : zCI mX8_feed (d + 1) [.ref 57, .int l1] g σ K := by
  refine c_of_x pn_mX8_feed rfl (Nat.le_of_ble_eq_true rfl) ?_
  change zX _ _ 0 0 0 [.ref 57, .int l1] [] g σ _
  refine x_iload_n dX8_feed_0 rfl ?_
  refine x_iconst (v := 0) dX8_feed_1 rfl ?_
  refine x_sipush (v := 255) dX8_feed_2 rfl ?_
  refine x_callS (Y2 := mX8_within) (as := [.int l1, .int 0, .int 255]) (S := []) (kc2 := 0) (ks2 := 0) st_mX8_within dX8_feed_5 lk_X8_85 mo_mX8_within rfl rfl (Nat.le_of_ble_eq_true rfl) (Or.inl rfl) rfl rfl h ?_
  rintro _ _ σ1 ⟨v1, rfl, rfl, h⟩
  change zX _ _ 0 0 8 _ [.int v1] _ _ _
  refine x_if_ne (tgt := 14) dX8_feed_8 rfl (fun q1 => ?_) (fun q1 => ?_)
  · replace h := itF q1 h
    refine x_aload_n dX8_feed_14 rfl ?_
    refine x_getI dX8_feed_15 fl_X8_121 (gA_57 hg) rfl ?_
    refine x_sipush (v := 160) dX8_feed_18 rfl ?_
    refine x_icmp_ne (tgt := 27) dX8_feed_21 rfl (fun q2 => ?_) (fun q2 => ?_)
    · replace h := itF q2 h
      refine x_aload_n dX8_feed_27 rfl ?_
      refine x_getR dX8_feed_28 fl_X8_19 (gA_57 hg) rfl (gA_57_7 hg) ?_
      refine x_aload_n dX8_feed_31 rfl ?_
      refine x_dup dX8_feed_32 rfl ?_
      refine x_getI dX8_feed_33 fl_X8_121 (gA_57 hg) rfl ?_
      refine x_dup_x1 dX8_feed_36 rfl rfl ?_
      refine x_iconst (v := 1) dX8_feed_37 rfl ?_
      refine x_iadd dX8_feed_38 ?_
      refine x_putI dX8_feed_39 fl_X8_121 (gA_57 hg) rfl rfl ?_
      refine x_iload_n dX8_feed_42 rfl ?_
      obtain ⟨q3, h⟩ := h
      refine x_iast dX8_feed_43 (gA_61 hg) q3 ?_
      refine x_aload_n dX8_feed_44 rfl ?_
      refine x_getI dX8_feed_45 fl_X8_121 (gA_57 hg) rfl ?_
      exact x_iret (S := []) dX8_feed_48 rfl rfl ⟨_, rfl, rfl, h⟩
    · replace h := itT q2 h
      refine x_bipush (v := (-4)) dX8_feed_24 rfl ?_
      exact x_iret (S := []) dX8_feed_26 rfl rfl ⟨_, rfl, rfl, h⟩
  · replace h := itT q1 h
    refine x_bipush (v := (-2)) dX8_feed_11 rfl ?_
    exact x_iret (S := []) dX8_feed_13 rfl rfl ⟨_, rfl, rfl, h⟩
set_option maxRecDepth 20000 in
theorem s_X8_text {d : Nat} {g : zG} {σ : zI} {K : Int32 → zI → Prop} (hg : zGA g)  (h : (if ((σ 57 8) = 6 : Prop) then K (-4) σ else zCV mX8_next d [.ref 57] g (zsI σ 57 14 0) (fun σ1 => zCI mX8_part d [.ref 57, .int (3 * (σ1 57 8)), .int 375400] g σ1 (fun v1 σ2 => (if (v1 = 0 : Prop) then K ((-100) - (σ2 57 13)) (zsI (zsI σ2 57 6 0) 57 12 (σ 57 12)) else zCI mX8_part d [.ref 57, .int ((3 * (σ2 57 8)) + 1), .int 7008275] g σ2 (fun v2 σ3 => (if (v2 = 0 : Prop) then K ((-100) - (σ3 57 13)) (zsI (zsI σ3 57 6 0) 57 12 (σ 57 12)) else zCI mX8_part d [.ref 57, .int ((3 * (σ3 57 8)) + 2), .int 12532058] g σ3 (fun v3 σ4 => (if (v3 = 0 : Prop) then K ((-100) - (σ4 57 13)) (zsI (zsI σ4 57 6 0) 57 12 (σ 57 12)) else (if ((σ4 57 15) = 101 : Prop) then K (σ4 57 8) (zsI (zsI σ4 57 6 0) 57 8 ((σ4 57 8) + 1)) else K ((-100) - (σ4 57 13)) (zsI (zsI σ4 57 6 0) 57 12 (σ 57 12)))))))))))) : zCI mX8_text (d + 1) [.ref 57] g σ K := by
  refine c_of_x pn_mX8_text rfl (Nat.le_of_ble_eq_true rfl) ?_
  change zX _ _ 0 0 0 [.ref 57] [] g σ _
  refine x_aload_n dX8_text_0 rfl ?_
  refine x_getI dX8_text_1 fl_X8_78 (gA_57 hg) rfl ?_
  refine x_bipush (v := 6) dX8_text_4 rfl ?_
  refine x_icmp_ne (tgt := 12) dX8_text_6 rfl (fun q1 => ?_) (fun q1 => ?_)
  · replace h := itF q1 h
    refine x_aload_n dX8_text_12 rfl ?_
    refine x_getI dX8_text_13 fl_X8_159 (gA_57 hg) rfl ?_
    refine x_istore_n dX8_text_16 rfl (Nat.le_of_ble_eq_true rfl) (L2 := [_, _]) rfl ?_
    refine x_aload_n dX8_text_17 rfl ?_
    refine x_iconst (v := 0) dX8_text_18 rfl ?_
    refine x_putI dX8_text_19 fl_X8_127 (gA_57 hg) rfl rfl ?_
    refine x_aload_n dX8_text_22 rfl ?_
    refine x_callV (Y2 := mX8_next) (as := []) (S := []) (kc2 := 0) (ks2 := 0) mv_mX8_next (Or.inl ⟨8, _, rfl, rfl, (gA_57 hg)⟩) dX8_text_23 lk_X8_156 mo_mX8_next rfl rfl (Nat.le_of_ble_eq_true rfl) (Or.inl rfl) rfl rfl h ?_
    rintro _ _ σ1 ⟨rfl, rfl, h⟩
    change zX _ _ 0 0 26 _ [] _ _ _
    refine x_aload_n dX8_text_26 rfl ?_
    refine x_iconst (v := 3) dX8_text_27 rfl ?_
    refine x_aload_n dX8_text_28 rfl ?_
    refine x_getI dX8_text_29 fl_X8_78 (gA_57 hg) rfl ?_
    refine x_imul dX8_text_32 ?_
    refine x_ldc dX8_text_33 kc_X8_203 ?_
    refine x_callV (Y2 := mX8_part) (as := [.int (3 * (σ1 57 8)), .int 375400]) (S := []) (kc2 := 0) (ks2 := 0) mv_mX8_part (Or.inl ⟨8, _, rfl, rfl, (gA_57 hg)⟩) dX8_text_35 lk_X8_204 mo_mX8_part rfl rfl (Nat.le_of_ble_eq_true rfl) (Or.inl rfl) rfl rfl h ?_
    rintro _ _ σ2 ⟨v1, rfl, rfl, h⟩
    change zX _ _ 0 0 38 _ [.int v1] _ _ _
    refine x_if_eq (tgt := 88) dX8_text_38 rfl (fun q2 => ?_) (fun q2 => ?_)
    · replace h := itT q2 h
      refine x_iconst (v := 0) dX8_text_88 rfl ?_
      refine x_istore_n dX8_text_89 rfl (Nat.le_of_ble_eq_true rfl) (L2 := [_, _, _]) rfl ?_
      refine x_aload_n dX8_text_90 rfl ?_
      refine x_iconst (v := 0) dX8_text_91 rfl ?_
      refine x_putI dX8_text_92 fl_X8_121 (gA_57 hg) rfl rfl ?_
      refine x_iload_n dX8_text_95 rfl ?_
      refine x_if_eq (tgt := 111) dX8_text_96 rfl (fun _ => ?_) (fun q => absurd (show ¬ (0 : Int32) = (0 : Int32) from q) (by decide))
      refine x_aload_n dX8_text_111 rfl ?_
      refine x_iload_n dX8_text_112 rfl ?_
      refine x_putI dX8_text_113 fl_X8_159 (gA_57 hg) rfl rfl ?_
      refine x_bipush (v := (-100)) dX8_text_116 rfl ?_
      refine x_aload_n dX8_text_118 rfl ?_
      refine x_getI dX8_text_119 fl_X8_130 (gA_57 hg) rfl ?_
      refine x_isub dX8_text_122 ?_
      exact x_iret (S := []) dX8_text_123 rfl rfl ⟨_, rfl, rfl, h⟩
    · replace h := itF q2 h
      refine x_aload_n dX8_text_41 rfl ?_
      refine x_iconst (v := 3) dX8_text_42 rfl ?_
      refine x_aload_n dX8_text_43 rfl ?_
      refine x_getI dX8_text_44 fl_X8_78 (gA_57 hg) rfl ?_
      refine x_imul dX8_text_47 ?_
      refine x_iconst (v := 1) dX8_text_48 rfl ?_
      refine x_iadd dX8_text_49 ?_
      refine x_ldc dX8_text_50 kc_X8_207 ?_
      refine x_callV (Y2 := mX8_part) (as := [.int ((3 * (σ2 57 8)) + 1), .int 7008275]) (S := []) (kc2 := 0) (ks2 := 0) mv_mX8_part (Or.inl ⟨8, _, rfl, rfl, (gA_57 hg)⟩) dX8_text_52 lk_X8_204 mo_mX8_part rfl rfl (Nat.le_of_ble_eq_true rfl) (Or.inl rfl) rfl rfl h ?_
      rintro _ _ σ3 ⟨v2, rfl, rfl, h⟩
      change zX _ _ 0 0 55 _ [.int v2] _ _ _
      refine x_if_eq (tgt := 88) dX8_text_55 rfl (fun q3 => ?_) (fun q3 => ?_)
      · replace h := itT q3 h
        refine x_iconst (v := 0) dX8_text_88 rfl ?_
        refine x_istore_n dX8_text_89 rfl (Nat.le_of_ble_eq_true rfl) (L2 := [_, _, _]) rfl ?_
        refine x_aload_n dX8_text_90 rfl ?_
        refine x_iconst (v := 0) dX8_text_91 rfl ?_
        refine x_putI dX8_text_92 fl_X8_121 (gA_57 hg) rfl rfl ?_
        refine x_iload_n dX8_text_95 rfl ?_
        refine x_if_eq (tgt := 111) dX8_text_96 rfl (fun _ => ?_) (fun q => absurd (show ¬ (0 : Int32) = (0 : Int32) from q) (by decide))
        refine x_aload_n dX8_text_111 rfl ?_
        refine x_iload_n dX8_text_112 rfl ?_
        refine x_putI dX8_text_113 fl_X8_159 (gA_57 hg) rfl rfl ?_
        refine x_bipush (v := (-100)) dX8_text_116 rfl ?_
        refine x_aload_n dX8_text_118 rfl ?_
        refine x_getI dX8_text_119 fl_X8_130 (gA_57 hg) rfl ?_
        refine x_isub dX8_text_122 ?_
        exact x_iret (S := []) dX8_text_123 rfl rfl ⟨_, rfl, rfl, h⟩
      · replace h := itF q3 h
        refine x_aload_n dX8_text_58 rfl ?_
        refine x_iconst (v := 3) dX8_text_59 rfl ?_
        refine x_aload_n dX8_text_60 rfl ?_
        refine x_getI dX8_text_61 fl_X8_78 (gA_57 hg) rfl ?_
        refine x_imul dX8_text_64 ?_
        refine x_iconst (v := 2) dX8_text_65 rfl ?_
        refine x_iadd dX8_text_66 ?_
        refine x_ldc dX8_text_67 kc_X8_208 ?_
        refine x_callV (Y2 := mX8_part) (as := [.int ((3 * (σ3 57 8)) + 2), .int 12532058]) (S := []) (kc2 := 0) (ks2 := 0) mv_mX8_part (Or.inl ⟨8, _, rfl, rfl, (gA_57 hg)⟩) dX8_text_69 lk_X8_204 mo_mX8_part rfl rfl (Nat.le_of_ble_eq_true rfl) (Or.inl rfl) rfl rfl h ?_
        rintro _ _ σ4 ⟨v3, rfl, rfl, h⟩
        change zX _ _ 0 0 72 _ [.int v3] _ _ _
        refine x_if_eq (tgt := 88) dX8_text_72 rfl (fun q4 => ?_) (fun q4 => ?_)
        · replace h := itT q4 h
          refine x_iconst (v := 0) dX8_text_88 rfl ?_
          refine x_istore_n dX8_text_89 rfl (Nat.le_of_ble_eq_true rfl) (L2 := [_, _, _]) rfl ?_
          refine x_aload_n dX8_text_90 rfl ?_
          refine x_iconst (v := 0) dX8_text_91 rfl ?_
          refine x_putI dX8_text_92 fl_X8_121 (gA_57 hg) rfl rfl ?_
          refine x_iload_n dX8_text_95 rfl ?_
          refine x_if_eq (tgt := 111) dX8_text_96 rfl (fun _ => ?_) (fun q => absurd (show ¬ (0 : Int32) = (0 : Int32) from q) (by decide))
          refine x_aload_n dX8_text_111 rfl ?_
          refine x_iload_n dX8_text_112 rfl ?_
          refine x_putI dX8_text_113 fl_X8_159 (gA_57 hg) rfl rfl ?_
          refine x_bipush (v := (-100)) dX8_text_116 rfl ?_
          refine x_aload_n dX8_text_118 rfl ?_
          refine x_getI dX8_text_119 fl_X8_130 (gA_57 hg) rfl ?_
          refine x_isub dX8_text_122 ?_
          exact x_iret (S := []) dX8_text_123 rfl rfl ⟨_, rfl, rfl, h⟩
        · replace h := itF q4 h
          refine x_aload_n dX8_text_75 rfl ?_
          refine x_getI dX8_text_76 fl_X8_133 (gA_57 hg) rfl ?_
          refine x_bipush (v := 101) dX8_text_79 rfl ?_
          refine x_icmp_ne (tgt := 88) dX8_text_81 rfl (fun q5 => ?_) (fun q5 => ?_)
          · replace h := itF q5 h
            refine x_iconst (v := 0) dX8_text_88 rfl ?_
            refine x_istore_n dX8_text_89 rfl (Nat.le_of_ble_eq_true rfl) (L2 := [_, _, _]) rfl ?_
            refine x_aload_n dX8_text_90 rfl ?_
            refine x_iconst (v := 0) dX8_text_91 rfl ?_
            refine x_putI dX8_text_92 fl_X8_121 (gA_57 hg) rfl rfl ?_
            refine x_iload_n dX8_text_95 rfl ?_
            refine x_if_eq (tgt := 111) dX8_text_96 rfl (fun _ => ?_) (fun q => absurd (show ¬ (0 : Int32) = (0 : Int32) from q) (by decide))
            refine x_aload_n dX8_text_111 rfl ?_
            refine x_iload_n dX8_text_112 rfl ?_
            refine x_putI dX8_text_113 fl_X8_159 (gA_57 hg) rfl rfl ?_
            refine x_bipush (v := (-100)) dX8_text_116 rfl ?_
            refine x_aload_n dX8_text_118 rfl ?_
            refine x_getI dX8_text_119 fl_X8_130 (gA_57 hg) rfl ?_
            refine x_isub dX8_text_122 ?_
            exact x_iret (S := []) dX8_text_123 rfl rfl ⟨_, rfl, rfl, h⟩
          · replace h := itT q5 h
            refine x_iconst (v := 1) dX8_text_84 rfl ?_
            refine x_goto (tgt := 89) dX8_text_85 rfl ?_
            refine x_istore_n dX8_text_89 rfl (Nat.le_of_ble_eq_true rfl) (L2 := [_, _, _]) rfl ?_
            refine x_aload_n dX8_text_90 rfl ?_
            refine x_iconst (v := 0) dX8_text_91 rfl ?_
            refine x_putI dX8_text_92 fl_X8_121 (gA_57 hg) rfl rfl ?_
            refine x_iload_n dX8_text_95 rfl ?_
            refine x_if_eq (tgt := 111) dX8_text_96 rfl (fun q => absurd (show (1 : Int32) = (0 : Int32) from q) (by decide)) (fun _ => ?_)
            refine x_aload_n dX8_text_99 rfl ?_
            refine x_dup dX8_text_100 rfl ?_
            refine x_getI dX8_text_101 fl_X8_78 (gA_57 hg) rfl ?_
            refine x_dup_x1 dX8_text_104 rfl rfl ?_
            refine x_iconst (v := 1) dX8_text_105 rfl ?_
            refine x_iadd dX8_text_106 ?_
            refine x_putI dX8_text_107 fl_X8_78 (gA_57 hg) rfl rfl ?_
            exact x_iret (S := []) dX8_text_110 rfl rfl ⟨_, rfl, rfl, h⟩
  · replace h := itT q1 h
    refine x_bipush (v := (-4)) dX8_text_9 rfl ?_
    exact x_iret (S := []) dX8_text_11 rfl rfl ⟨_, rfl, rfl, h⟩
abbrev p_X8_next_8 (d : Nat) (g : zG) (K : zI → Prop) (σ : zI)  : Prop := zX mX8_next (d + 1) 0 0 8 [.ref 57] [] g σ (zqV g K)
abbrev p_X8_next_60 (d : Nat) (g : zG) (K : zI → Prop) (σ : zI)  : Prop := zX mX8_next (d + 1) 0 0 60 [.ref 57] [] g σ (zqV g K)
abbrev p_X8_next_108 (d : Nat) (g : zG) (K : zI → Prop) (σ : zI)  : Prop := zX mX8_next (d + 1) 0 0 108 [.ref 57] [] g σ (zqV g K)
abbrev p_X8_next_184 (d : Nat) (g : zG) (K : zI → Prop) (σ : zI)  : Prop := zX mX8_next (d + 1) 0 0 184 [.ref 57] [] g σ (zqV g K)
abbrev p_X8_next_243 (d : Nat) (g : zG) (K : zI → Prop) (σ : zI)  : Prop := zX mX8_next (d + 1) 0 0 243 [.ref 57] [] g σ (zqV g K)
set_option maxRecDepth 20000 in
theorem s_X8_next {d : Nat} {g : zG} {σ : zI} {K : zI → Prop} (hg : zGA g)  (h : p_X8_next_8 d g K (zsI σ 57 13 (σ 57 14))) : zCV mX8_next (d + 1) [.ref 57] g σ K := by
  refine c_of_x pn_mX8_next rfl (Nat.le_of_ble_eq_true rfl) ?_
  change zX _ _ 0 0 0 [.ref 57] [] g σ _
  refine x_aload_n dX8_next_0 rfl ?_
  refine x_aload_n dX8_next_1 rfl ?_
  refine x_getI dX8_next_2 fl_X8_127 (gA_57 hg) rfl ?_
  refine x_putI dX8_next_5 fl_X8_130 (gA_57 hg) rfl rfl ?_
  exact h
set_option maxRecDepth 20000 in
theorem s_X8_next_8 {d : Nat} {g : zG} {σ : zI} {K : zI → Prop} (hg : zGA g)  (h : (if ((σ 57 6) ≤ (σ 57 13) : Prop) then p_X8_next_60 d g K σ else vp_in (σ 57 13) 160 ∧ (if ((σ 61 ((σ 57 13 : Int32).toNatClampNeg)) = 32 : Prop) then p_X8_next_8 d g K (zsI σ 57 13 ((σ 57 13) + 1)) else vp_in (σ 57 13) 160 ∧ (if ((σ 61 ((σ 57 13 : Int32).toNatClampNeg)) = 10 : Prop) then p_X8_next_8 d g K (zsI σ 57 13 ((σ 57 13) + 1)) else p_X8_next_60 d g K σ)))) : p_X8_next_8 d g K σ  := by
  refine x_aload_n dX8_next_8 rfl ?_
  refine x_getI dX8_next_9 fl_X8_130 (gA_57 hg) rfl ?_
  refine x_aload_n dX8_next_12 rfl ?_
  refine x_getI dX8_next_13 fl_X8_121 (gA_57 hg) rfl ?_
  refine x_icmp_ge (tgt := 60) dX8_next_16 rfl (fun q1 => ?_) (fun q1 => ?_)
  · replace h := itT q1 h
    exact h
  · replace h := itF q1 h
    refine x_aload_n dX8_next_19 rfl ?_
    refine x_getR dX8_next_20 fl_X8_19 (gA_57 hg) rfl (gA_57_7 hg) ?_
    refine x_aload_n dX8_next_23 rfl ?_
    refine x_getI dX8_next_24 fl_X8_130 (gA_57 hg) rfl ?_
    obtain ⟨q2, h⟩ := h
    refine x_iald dX8_next_27 (gA_61 hg) q2 ?_
    refine x_bipush (v := 32) dX8_next_28 rfl ?_
    refine x_icmp_eq (tgt := 47) dX8_next_30 rfl (fun q3 => ?_) (fun q3 => ?_)
    · replace h := itT q3 h
      refine x_aload_n dX8_next_47 rfl ?_
      refine x_dup dX8_next_48 rfl ?_
      refine x_getI dX8_next_49 fl_X8_130 (gA_57 hg) rfl ?_
      refine x_iconst (v := 1) dX8_next_52 rfl ?_
      refine x_iadd dX8_next_53 ?_
      refine x_putI dX8_next_54 fl_X8_130 (gA_57 hg) rfl rfl ?_
      refine x_goto (tgt := 8) dX8_next_57 rfl ?_
      exact h
    · replace h := itF q3 h
      refine x_aload_n dX8_next_33 rfl ?_
      refine x_getR dX8_next_34 fl_X8_19 (gA_57 hg) rfl (gA_57_7 hg) ?_
      refine x_aload_n dX8_next_37 rfl ?_
      refine x_getI dX8_next_38 fl_X8_130 (gA_57 hg) rfl ?_
      obtain ⟨q4, h⟩ := h
      refine x_iald dX8_next_41 (gA_61 hg) q4 ?_
      refine x_bipush (v := 10) dX8_next_42 rfl ?_
      refine x_icmp_ne (tgt := 60) dX8_next_44 rfl (fun q5 => ?_) (fun q5 => ?_)
      · replace h := itF q5 h
        exact h
      · replace h := itT q5 h
        refine x_aload_n dX8_next_47 rfl ?_
        refine x_dup dX8_next_48 rfl ?_
        refine x_getI dX8_next_49 fl_X8_130 (gA_57 hg) rfl ?_
        refine x_iconst (v := 1) dX8_next_52 rfl ?_
        refine x_iadd dX8_next_53 ?_
        refine x_putI dX8_next_54 fl_X8_130 (gA_57 hg) rfl rfl ?_
        refine x_goto (tgt := 8) dX8_next_57 rfl ?_
        exact h
set_option maxRecDepth 20000 in
theorem s_X8_next_60 {d : Nat} {g : zG} {σ : zI} {K : zI → Prop} (hg : zGA g)  (h : (if ((σ 57 13) = (σ 57 6) : Prop) then K (zsI (zsI (zsI σ 57 14 (σ 57 13)) 57 17 0) 57 15 101) else vp_in (σ 57 13) 160 ∧ zCI mX8_isLetter d [.int (σ 61 ((σ 57 13 : Int32).toNatClampNeg))] g (zsI (zsI σ 57 14 (σ 57 13)) 57 17 0) (fun v1 σ1 => (if (v1 = 0 : Prop) then zCI mX8_isDigit d [.int (σ 61 ((σ 57 13 : Int32).toNatClampNeg))] g σ1 (fun v2 σ2 => (if (v2 = 0 : Prop) then zCI mX8_isSign d [.int (σ 61 ((σ 57 13 : Int32).toNatClampNeg))] g (zsI σ2 57 14 ((σ2 57 14) + 1)) (fun v3 σ3 => (if (v3 = 0 : Prop) then K (zsI σ3 57 15 120) else K (zsI σ3 57 15 (σ 61 ((σ 57 13 : Int32).toNatClampNeg))))) else p_X8_next_243 d g K (zsI σ2 57 16 0))) else p_X8_next_108 d g K σ1)))) : p_X8_next_60 d g K σ  := by
  refine x_aload_n dX8_next_60 rfl ?_
  refine x_aload_n dX8_next_61 rfl ?_
  refine x_getI dX8_next_62 fl_X8_130 (gA_57 hg) rfl ?_
  refine x_putI dX8_next_65 fl_X8_127 (gA_57 hg) rfl rfl ?_
  refine x_aload_n dX8_next_68 rfl ?_
  refine x_iconst (v := 0) dX8_next_69 rfl ?_
  refine x_putI dX8_next_70 fl_X8_124 (gA_57 hg) rfl rfl ?_
  refine x_aload_n dX8_next_73 rfl ?_
  refine x_getI dX8_next_74 fl_X8_130 (gA_57 hg) rfl ?_
  refine x_aload_n dX8_next_77 rfl ?_
  refine x_getI dX8_next_78 fl_X8_121 (gA_57 hg) rfl ?_
  refine x_icmp_ne (tgt := 91) dX8_next_81 rfl (fun q1 => ?_) (fun q1 => ?_)
  · replace h := itF q1 h
    refine x_aload_n dX8_next_91 rfl ?_
    refine x_getR dX8_next_92 fl_X8_19 (gA_57 hg) rfl (gA_57_7 hg) ?_
    refine x_aload_n dX8_next_95 rfl ?_
    refine x_getI dX8_next_96 fl_X8_130 (gA_57 hg) rfl ?_
    obtain ⟨q2, h⟩ := h
    refine x_iald dX8_next_99 (gA_61 hg) q2 ?_
    refine x_istore_n dX8_next_100 rfl (Nat.le_of_ble_eq_true rfl) (L2 := [_, _]) rfl ?_
    refine x_iload_n dX8_next_101 rfl ?_
    refine x_callS (Y2 := mX8_isLetter) (as := [.int (σ 61 ((σ 57 13 : Int32).toNatClampNeg))]) (S := []) (kc2 := 0) (ks2 := 0) st_mX8_isLetter dX8_next_102 lk_X8_136 mo_mX8_isLetter rfl rfl (Nat.le_of_ble_eq_true rfl) (Or.inl rfl) rfl rfl h ?_
    rintro _ _ σ1 ⟨v1, rfl, rfl, h⟩
    change zX _ _ 0 0 105 _ [.int v1] _ _ _
    refine x_if_eq (tgt := 231) dX8_next_105 rfl (fun q3 => ?_) (fun q3 => ?_)
    · replace h := itT q3 h
      refine x_iload_n dX8_next_231 rfl ?_
      refine x_callS (Y2 := mX8_isDigit) (as := [.int (σ 61 ((σ 57 13 : Int32).toNatClampNeg))]) (S := []) (kc2 := 0) (ks2 := 0) st_mX8_isDigit dX8_next_232 lk_X8_147 mo_mX8_isDigit rfl rfl (Nat.le_of_ble_eq_true rfl) (Or.inl rfl) rfl rfl h ?_
      rintro _ _ σ2 ⟨v2, rfl, rfl, h⟩
      change zX _ _ 0 0 235 _ [.int v2] _ _ _
      refine x_if_eq (tgt := 346) dX8_next_235 rfl (fun q4 => ?_) (fun q4 => ?_)
      · replace h := itT q4 h
        refine x_aload_n dX8_next_346 rfl ?_
        refine x_dup dX8_next_347 rfl ?_
        refine x_getI dX8_next_348 fl_X8_127 (gA_57 hg) rfl ?_
        refine x_iconst (v := 1) dX8_next_351 rfl ?_
        refine x_iadd dX8_next_352 ?_
        refine x_putI dX8_next_353 fl_X8_127 (gA_57 hg) rfl rfl ?_
        refine x_aload_n dX8_next_356 rfl ?_
        refine x_iload_n dX8_next_357 rfl ?_
        refine x_callS (Y2 := mX8_isSign) (as := [.int (σ 61 ((σ 57 13 : Int32).toNatClampNeg))]) (S := [.ref 57]) (kc2 := 0) (ks2 := 0) st_mX8_isSign dX8_next_358 lk_X8_153 mo_mX8_isSign rfl rfl (Nat.le_of_ble_eq_true rfl) (Or.inl rfl) rfl rfl h ?_
        rintro _ _ σ3 ⟨v3, rfl, rfl, h⟩
        change zX _ _ 0 0 361 _ [.int v3, .ref 57] _ _ _
        refine x_if_eq (tgt := 368) dX8_next_361 rfl (fun q5 => ?_) (fun q5 => ?_)
        · replace h := itT q5 h
          refine x_bipush (v := 120) dX8_next_368 rfl ?_
          refine x_putI dX8_next_370 fl_X8_133 (gA_57 hg) rfl rfl ?_
          exact x_vret (S := []) dX8_next_373 rfl ⟨rfl, rfl, h⟩
        · replace h := itF q5 h
          refine x_iload_n dX8_next_364 rfl ?_
          refine x_goto (tgt := 370) dX8_next_365 rfl ?_
          refine x_putI dX8_next_370 fl_X8_133 (gA_57 hg) rfl rfl ?_
          exact x_vret (S := []) dX8_next_373 rfl ⟨rfl, rfl, h⟩
      · replace h := itF q4 h
        refine x_aload_n dX8_next_238 rfl ?_
        refine x_iconst (v := 0) dX8_next_239 rfl ?_
        refine x_putI dX8_next_240 fl_X8_150 (gA_57 hg) rfl rfl ?_
        exact x_wk (wC (wN _)) h
    · replace h := itF q3 h
      exact x_wk (wC (wN _)) h
  · replace h := itT q1 h
    refine x_aload_n dX8_next_84 rfl ?_
    refine x_bipush (v := 101) dX8_next_85 rfl ?_
    refine x_putI dX8_next_87 fl_X8_133 (gA_57 hg) rfl rfl ?_
    exact x_vret (S := []) dX8_next_90 rfl ⟨rfl, rfl, h⟩
set_option maxRecDepth 20000 in
theorem s_X8_next_243 {d : Nat} {g : zG} {σ : zI} {K : zI → Prop} (hg : zGA g)  (h : (if ((σ 57 6) ≤ (σ 57 14) : Prop) then (if (((σ 57 14) - (σ 57 13)) ≤ 4 : Prop) then K (zsI σ 57 15 48) else K (zsI σ 57 15 120)) else vp_in (σ 57 14) 160 ∧ zCI mX8_isDigit d [.int (σ 61 ((σ 57 14 : Int32).toNatClampNeg))] g σ (fun v1 σ1 => (if (v1 = 0 : Prop) then (if (((σ1 57 14) - (σ1 57 13)) ≤ 4 : Prop) then K (zsI σ1 57 15 48) else K (zsI σ1 57 15 120)) else (if (4 ≤ ((σ1 57 14) - (σ1 57 13)) : Prop) then p_X8_next_243 d g K (zsI σ1 57 14 ((σ1 57 14) + 1)) else vp_in (σ1 57 14) 160 ∧ p_X8_next_243 d g K (zsI (zsI σ1 57 16 (((10 * (σ1 57 16)) + (σ1 61 ((σ1 57 14 : Int32).toNatClampNeg))) - 48)) 57 14 ((σ1 57 14) + 1))))))) : p_X8_next_243 d g K σ  := by
  refine x_aload_n dX8_next_243 rfl ?_
  refine x_getI dX8_next_244 fl_X8_127 (gA_57 hg) rfl ?_
  refine x_aload_n dX8_next_247 rfl ?_
  refine x_getI dX8_next_248 fl_X8_121 (gA_57 hg) rfl ?_
  refine x_icmp_ge (tgt := 319) dX8_next_251 rfl (fun q1 => ?_) (fun q1 => ?_)
  · replace h := itT q1 h
    refine x_aload_n dX8_next_319 rfl ?_
    refine x_aload_n dX8_next_320 rfl ?_
    refine x_getI dX8_next_321 fl_X8_127 (gA_57 hg) rfl ?_
    refine x_aload_n dX8_next_324 rfl ?_
    refine x_getI dX8_next_325 fl_X8_130 (gA_57 hg) rfl ?_
    refine x_isub dX8_next_328 ?_
    refine x_iconst (v := 4) dX8_next_329 rfl ?_
    refine x_icmp_le (tgt := 338) dX8_next_330 rfl (fun q2 => ?_) (fun q2 => ?_)
    · replace h := itT q2 h
      refine x_bipush (v := 48) dX8_next_338 rfl ?_
      refine x_putI dX8_next_340 fl_X8_133 (gA_57 hg) rfl rfl ?_
      refine x_goto (tgt := 373) dX8_next_343 rfl ?_
      exact x_vret (S := []) dX8_next_373 rfl ⟨rfl, rfl, h⟩
    · replace h := itF q2 h
      refine x_bipush (v := 120) dX8_next_333 rfl ?_
      refine x_goto (tgt := 340) dX8_next_335 rfl ?_
      refine x_putI dX8_next_340 fl_X8_133 (gA_57 hg) rfl rfl ?_
      refine x_goto (tgt := 373) dX8_next_343 rfl ?_
      exact x_vret (S := []) dX8_next_373 rfl ⟨rfl, rfl, h⟩
  · replace h := itF q1 h
    refine x_aload_n dX8_next_254 rfl ?_
    refine x_getR dX8_next_255 fl_X8_19 (gA_57 hg) rfl (gA_57_7 hg) ?_
    refine x_aload_n dX8_next_258 rfl ?_
    refine x_getI dX8_next_259 fl_X8_127 (gA_57 hg) rfl ?_
    obtain ⟨q2, h⟩ := h
    refine x_iald dX8_next_262 (gA_61 hg) q2 ?_
    refine x_callS (Y2 := mX8_isDigit) (as := [.int (σ 61 ((σ 57 14 : Int32).toNatClampNeg))]) (S := []) (kc2 := 0) (ks2 := 0) st_mX8_isDigit dX8_next_263 lk_X8_147 mo_mX8_isDigit rfl rfl (Nat.le_of_ble_eq_true rfl) (Or.inl rfl) rfl rfl h ?_
    rintro _ _ σ1 ⟨v1, rfl, rfl, h⟩
    change zX _ _ 0 0 266 _ [.int v1] _ _ _
    refine x_if_eq (tgt := 319) dX8_next_266 rfl (fun q3 => ?_) (fun q3 => ?_)
    · replace h := itT q3 h
      refine x_aload_n dX8_next_319 rfl ?_
      refine x_aload_n dX8_next_320 rfl ?_
      refine x_getI dX8_next_321 fl_X8_127 (gA_57 hg) rfl ?_
      refine x_aload_n dX8_next_324 rfl ?_
      refine x_getI dX8_next_325 fl_X8_130 (gA_57 hg) rfl ?_
      refine x_isub dX8_next_328 ?_
      refine x_iconst (v := 4) dX8_next_329 rfl ?_
      refine x_icmp_le (tgt := 338) dX8_next_330 rfl (fun q4 => ?_) (fun q4 => ?_)
      · replace h := itT q4 h
        refine x_bipush (v := 48) dX8_next_338 rfl ?_
        refine x_putI dX8_next_340 fl_X8_133 (gA_57 hg) rfl rfl ?_
        refine x_goto (tgt := 373) dX8_next_343 rfl ?_
        exact x_vret (S := []) dX8_next_373 rfl ⟨rfl, rfl, h⟩
      · replace h := itF q4 h
        refine x_bipush (v := 120) dX8_next_333 rfl ?_
        refine x_goto (tgt := 340) dX8_next_335 rfl ?_
        refine x_putI dX8_next_340 fl_X8_133 (gA_57 hg) rfl rfl ?_
        refine x_goto (tgt := 373) dX8_next_343 rfl ?_
        exact x_vret (S := []) dX8_next_373 rfl ⟨rfl, rfl, h⟩
    · replace h := itF q3 h
      refine x_aload_n dX8_next_269 rfl ?_
      refine x_getI dX8_next_270 fl_X8_127 (gA_57 hg) rfl ?_
      refine x_aload_n dX8_next_273 rfl ?_
      refine x_getI dX8_next_274 fl_X8_130 (gA_57 hg) rfl ?_
      refine x_isub dX8_next_277 ?_
      refine x_iconst (v := 4) dX8_next_278 rfl ?_
      refine x_icmp_ge (tgt := 306) dX8_next_279 rfl (fun q4 => ?_) (fun q4 => ?_)
      · replace h := itT q4 h
        refine x_aload_n dX8_next_306 rfl ?_
        refine x_dup dX8_next_307 rfl ?_
        refine x_getI dX8_next_308 fl_X8_127 (gA_57 hg) rfl ?_
        refine x_iconst (v := 1) dX8_next_311 rfl ?_
        refine x_iadd dX8_next_312 ?_
        refine x_putI dX8_next_313 fl_X8_127 (gA_57 hg) rfl rfl ?_
        refine x_goto (tgt := 243) dX8_next_316 rfl ?_
        exact h
      · replace h := itF q4 h
        refine x_aload_n dX8_next_282 rfl ?_
        refine x_bipush (v := 10) dX8_next_283 rfl ?_
        refine x_aload_n dX8_next_285 rfl ?_
        refine x_getI dX8_next_286 fl_X8_150 (gA_57 hg) rfl ?_
        refine x_imul dX8_next_289 ?_
        refine x_aload_n dX8_next_290 rfl ?_
        refine x_getR dX8_next_291 fl_X8_19 (gA_57 hg) rfl (gA_57_7 hg) ?_
        refine x_aload_n dX8_next_294 rfl ?_
        refine x_getI dX8_next_295 fl_X8_127 (gA_57 hg) rfl ?_
        obtain ⟨q5, h⟩ := h
        refine x_iald dX8_next_298 (gA_61 hg) q5 ?_
        refine x_iadd dX8_next_299 ?_
        refine x_bipush (v := 48) dX8_next_300 rfl ?_
        refine x_isub dX8_next_302 ?_
        refine x_putI dX8_next_303 fl_X8_150 (gA_57 hg) rfl rfl ?_
        refine x_aload_n dX8_next_306 rfl ?_
        refine x_dup dX8_next_307 rfl ?_
        refine x_getI dX8_next_308 fl_X8_127 (gA_57 hg) rfl ?_
        refine x_iconst (v := 1) dX8_next_311 rfl ?_
        refine x_iadd dX8_next_312 ?_
        refine x_putI dX8_next_313 fl_X8_127 (gA_57 hg) rfl rfl ?_
        refine x_goto (tgt := 243) dX8_next_316 rfl ?_
        exact h
set_option maxRecDepth 20000 in
theorem s_X8_next_108 {d : Nat} {g : zG} {σ : zI} {K : zI → Prop} (hg : zGA g)  (h : (if ((σ 57 6) ≤ (σ 57 14) : Prop) then p_X8_next_184 d g K σ else vp_in (σ 57 14) 160 ∧ zCI mX8_isLetter d [.int (σ 61 ((σ 57 14 : Int32).toNatClampNeg))] g σ (fun v1 σ1 => (if (v1 = 0 : Prop) then p_X8_next_184 d g K σ1 else (if (5 ≤ ((σ1 57 14) - (σ1 57 13)) : Prop) then p_X8_next_108 d g K (zsI σ1 57 14 ((σ1 57 14) + 1)) else vp_in (σ1 57 14) 160 ∧ p_X8_next_108 d g K (zsI (zsI σ1 57 17 (((27 * (σ1 57 17)) + (σ1 61 ((σ1 57 14 : Int32).toNatClampNeg))) - 96)) 57 14 ((σ1 57 14) + 1))))))) : p_X8_next_108 d g K σ  := by
  refine x_aload_n dX8_next_108 rfl ?_
  refine x_getI dX8_next_109 fl_X8_127 (gA_57 hg) rfl ?_
  refine x_aload_n dX8_next_112 rfl ?_
  refine x_getI dX8_next_113 fl_X8_121 (gA_57 hg) rfl ?_
  refine x_icmp_ge (tgt := 184) dX8_next_116 rfl (fun q1 => ?_) (fun q1 => ?_)
  · replace h := itT q1 h
    exact h
  · replace h := itF q1 h
    refine x_aload_n dX8_next_119 rfl ?_
    refine x_getR dX8_next_120 fl_X8_19 (gA_57 hg) rfl (gA_57_7 hg) ?_
    refine x_aload_n dX8_next_123 rfl ?_
    refine x_getI dX8_next_124 fl_X8_127 (gA_57 hg) rfl ?_
    obtain ⟨q2, h⟩ := h
    refine x_iald dX8_next_127 (gA_61 hg) q2 ?_
    refine x_callS (Y2 := mX8_isLetter) (as := [.int (σ 61 ((σ 57 14 : Int32).toNatClampNeg))]) (S := []) (kc2 := 0) (ks2 := 0) st_mX8_isLetter dX8_next_128 lk_X8_136 mo_mX8_isLetter rfl rfl (Nat.le_of_ble_eq_true rfl) (Or.inl rfl) rfl rfl h ?_
    rintro _ _ σ1 ⟨v1, rfl, rfl, h⟩
    change zX _ _ 0 0 131 _ [.int v1] _ _ _
    refine x_if_eq (tgt := 184) dX8_next_131 rfl (fun q3 => ?_) (fun q3 => ?_)
    · replace h := itT q3 h
      exact h
    · replace h := itF q3 h
      refine x_aload_n dX8_next_134 rfl ?_
      refine x_getI dX8_next_135 fl_X8_127 (gA_57 hg) rfl ?_
      refine x_aload_n dX8_next_138 rfl ?_
      refine x_getI dX8_next_139 fl_X8_130 (gA_57 hg) rfl ?_
      refine x_isub dX8_next_142 ?_
      refine x_iconst (v := 5) dX8_next_143 rfl ?_
      refine x_icmp_ge (tgt := 171) dX8_next_144 rfl (fun q4 => ?_) (fun q4 => ?_)
      · replace h := itT q4 h
        refine x_aload_n dX8_next_171 rfl ?_
        refine x_dup dX8_next_172 rfl ?_
        refine x_getI dX8_next_173 fl_X8_127 (gA_57 hg) rfl ?_
        refine x_iconst (v := 1) dX8_next_176 rfl ?_
        refine x_iadd dX8_next_177 ?_
        refine x_putI dX8_next_178 fl_X8_127 (gA_57 hg) rfl rfl ?_
        refine x_goto (tgt := 108) dX8_next_181 rfl ?_
        exact h
      · replace h := itF q4 h
        refine x_aload_n dX8_next_147 rfl ?_
        refine x_bipush (v := 27) dX8_next_148 rfl ?_
        refine x_aload_n dX8_next_150 rfl ?_
        refine x_getI dX8_next_151 fl_X8_124 (gA_57 hg) rfl ?_
        refine x_imul dX8_next_154 ?_
        refine x_aload_n dX8_next_155 rfl ?_
        refine x_getR dX8_next_156 fl_X8_19 (gA_57 hg) rfl (gA_57_7 hg) ?_
        refine x_aload_n dX8_next_159 rfl ?_
        refine x_getI dX8_next_160 fl_X8_127 (gA_57 hg) rfl ?_
        obtain ⟨q5, h⟩ := h
        refine x_iald dX8_next_163 (gA_61 hg) q5 ?_
        refine x_iadd dX8_next_164 ?_
        refine x_bipush (v := 96) dX8_next_165 rfl ?_
        refine x_isub dX8_next_167 ?_
        refine x_putI dX8_next_168 fl_X8_124 (gA_57 hg) rfl rfl ?_
        refine x_aload_n dX8_next_171 rfl ?_
        refine x_dup dX8_next_172 rfl ?_
        refine x_getI dX8_next_173 fl_X8_127 (gA_57 hg) rfl ?_
        refine x_iconst (v := 1) dX8_next_176 rfl ?_
        refine x_iadd dX8_next_177 ?_
        refine x_putI dX8_next_178 fl_X8_127 (gA_57 hg) rfl rfl ?_
        refine x_goto (tgt := 108) dX8_next_181 rfl ?_
        exact h
set_option maxRecDepth 20000 in
theorem s_X8_next_184 {d : Nat} {g : zG} {σ : zI} {K : zI → Prop} (hg : zGA g)  (h : (if (((σ 57 14) - (σ 57 13)) ≤ 5 : Prop) then zCI mX8_named d [.ref 57] g σ (fun v1 σ1 => (if (v1 = (-1) : Prop) then zCI mX8_isKey d [.ref 57] g σ1 (fun v2 σ2 => (if (v2 = 0 : Prop) then K (zsI σ2 57 15 120) else K (zsI σ2 57 15 119))) else K (zsI σ1 57 15 119))) else zCI mX8_named d [.ref 57] g (zsI σ 57 17 (-1)) (fun v1 σ1 => (if (v1 = (-1) : Prop) then zCI mX8_isKey d [.ref 57] g σ1 (fun v2 σ2 => (if (v2 = 0 : Prop) then K (zsI σ2 57 15 120) else K (zsI σ2 57 15 119))) else K (zsI σ1 57 15 119))))) : p_X8_next_184 d g K σ  := by
  refine x_aload_n dX8_next_184 rfl ?_
  refine x_getI dX8_next_185 fl_X8_127 (gA_57 hg) rfl ?_
  refine x_aload_n dX8_next_188 rfl ?_
  refine x_getI dX8_next_189 fl_X8_130 (gA_57 hg) rfl ?_
  refine x_isub dX8_next_192 ?_
  refine x_iconst (v := 5) dX8_next_193 rfl ?_
  refine x_icmp_le (tgt := 202) dX8_next_194 rfl (fun q1 => ?_) (fun q1 => ?_)
  · replace h := itT q1 h
    refine x_aload_n dX8_next_202 rfl ?_
    refine x_aload_n dX8_next_203 rfl ?_
    refine x_callV (Y2 := mX8_named) (as := []) (S := [.ref 57]) (kc2 := 0) (ks2 := 0) mv_mX8_named (Or.inl ⟨8, _, rfl, rfl, (gA_57 hg)⟩) dX8_next_204 lk_X8_139 mo_mX8_named rfl rfl (Nat.le_of_ble_eq_true rfl) (Or.inl rfl) rfl rfl h ?_
    rintro _ _ σ1 ⟨v1, rfl, rfl, h⟩
    change zX _ _ 0 0 207 _ [.int v1, .ref 57] _ _ _
    refine x_iconst (v := (-1)) dX8_next_207 rfl ?_
    refine x_icmp_ne (tgt := 223) dX8_next_208 rfl (fun q2 => ?_) (fun q2 => ?_)
    · replace h := itF q2 h
      refine x_bipush (v := 119) dX8_next_223 rfl ?_
      refine x_putI dX8_next_225 fl_X8_133 (gA_57 hg) rfl rfl ?_
      refine x_goto (tgt := 373) dX8_next_228 rfl ?_
      exact x_vret (S := []) dX8_next_373 rfl ⟨rfl, rfl, h⟩
    · replace h := itT q2 h
      refine x_aload_n dX8_next_211 rfl ?_
      refine x_callV (Y2 := mX8_isKey) (as := []) (S := [.ref 57]) (kc2 := 0) (ks2 := 0) mv_mX8_isKey (Or.inl ⟨8, _, rfl, rfl, (gA_57 hg)⟩) dX8_next_212 lk_X8_143 mo_mX8_isKey rfl rfl (Nat.le_of_ble_eq_true rfl) (Or.inl rfl) rfl rfl h ?_
      rintro _ _ σ2 ⟨v2, rfl, rfl, h⟩
      change zX _ _ 0 0 215 _ [.int v2, .ref 57] _ _ _
      refine x_if_ne (tgt := 223) dX8_next_215 rfl (fun q3 => ?_) (fun q3 => ?_)
      · replace h := itF q3 h
        refine x_bipush (v := 119) dX8_next_223 rfl ?_
        refine x_putI dX8_next_225 fl_X8_133 (gA_57 hg) rfl rfl ?_
        refine x_goto (tgt := 373) dX8_next_228 rfl ?_
        exact x_vret (S := []) dX8_next_373 rfl ⟨rfl, rfl, h⟩
      · replace h := itT q3 h
        refine x_bipush (v := 120) dX8_next_218 rfl ?_
        refine x_goto (tgt := 225) dX8_next_220 rfl ?_
        refine x_putI dX8_next_225 fl_X8_133 (gA_57 hg) rfl rfl ?_
        refine x_goto (tgt := 373) dX8_next_228 rfl ?_
        exact x_vret (S := []) dX8_next_373 rfl ⟨rfl, rfl, h⟩
  · replace h := itF q1 h
    refine x_aload_n dX8_next_197 rfl ?_
    refine x_iconst (v := (-1)) dX8_next_198 rfl ?_
    refine x_putI dX8_next_199 fl_X8_124 (gA_57 hg) rfl rfl ?_
    refine x_aload_n dX8_next_202 rfl ?_
    refine x_aload_n dX8_next_203 rfl ?_
    refine x_callV (Y2 := mX8_named) (as := []) (S := [.ref 57]) (kc2 := 0) (ks2 := 0) mv_mX8_named (Or.inl ⟨8, _, rfl, rfl, (gA_57 hg)⟩) dX8_next_204 lk_X8_139 mo_mX8_named rfl rfl (Nat.le_of_ble_eq_true rfl) (Or.inl rfl) rfl rfl h ?_
    rintro _ _ σ1 ⟨v1, rfl, rfl, h⟩
    change zX _ _ 0 0 207 _ [.int v1, .ref 57] _ _ _
    refine x_iconst (v := (-1)) dX8_next_207 rfl ?_
    refine x_icmp_ne (tgt := 223) dX8_next_208 rfl (fun q2 => ?_) (fun q2 => ?_)
    · replace h := itF q2 h
      refine x_bipush (v := 119) dX8_next_223 rfl ?_
      refine x_putI dX8_next_225 fl_X8_133 (gA_57 hg) rfl rfl ?_
      refine x_goto (tgt := 373) dX8_next_228 rfl ?_
      exact x_vret (S := []) dX8_next_373 rfl ⟨rfl, rfl, h⟩
    · replace h := itT q2 h
      refine x_aload_n dX8_next_211 rfl ?_
      refine x_callV (Y2 := mX8_isKey) (as := []) (S := [.ref 57]) (kc2 := 0) (ks2 := 0) mv_mX8_isKey (Or.inl ⟨8, _, rfl, rfl, (gA_57 hg)⟩) dX8_next_212 lk_X8_143 mo_mX8_isKey rfl rfl (Nat.le_of_ble_eq_true rfl) (Or.inl rfl) rfl rfl h ?_
      rintro _ _ σ2 ⟨v2, rfl, rfl, h⟩
      change zX _ _ 0 0 215 _ [.int v2, .ref 57] _ _ _
      refine x_if_ne (tgt := 223) dX8_next_215 rfl (fun q3 => ?_) (fun q3 => ?_)
      · replace h := itF q3 h
        refine x_bipush (v := 119) dX8_next_223 rfl ?_
        refine x_putI dX8_next_225 fl_X8_133 (gA_57 hg) rfl rfl ?_
        refine x_goto (tgt := 373) dX8_next_228 rfl ?_
        exact x_vret (S := []) dX8_next_373 rfl ⟨rfl, rfl, h⟩
      · replace h := itT q3 h
        refine x_bipush (v := 120) dX8_next_218 rfl ?_
        refine x_goto (tgt := 225) dX8_next_220 rfl ?_
        refine x_putI dX8_next_225 fl_X8_133 (gA_57 hg) rfl rfl ?_
        refine x_goto (tgt := 373) dX8_next_228 rfl ?_
        exact x_vret (S := []) dX8_next_373 rfl ⟨rfl, rfl, h⟩
set_option maxRecDepth 20000 in
theorem s_X8_isLetter {d : Nat} {g : zG} {σ : zI} {K : Int32 → zI → Prop} (hg : zGA g) {l0 : Int32} (h : (if (l0 < 97 : Prop) then K 0 σ else (if (122 < l0 : Prop) then K 0 σ else K 1 σ))) : zCI mX8_isLetter d [.int l0] g σ K := by
  refine c_of_x pn_mX8_isLetter rfl (Nat.le_of_ble_eq_true rfl) ?_
  change zX _ _ 0 0 0 [.int l0] [] g σ _
  refine x_iload_n dX8_isLetter_0 rfl ?_
  refine x_bipush (v := 97) dX8_isLetter_1 rfl ?_
  refine x_icmp_lt (tgt := 16) dX8_isLetter_3 rfl (fun q1 => ?_) (fun q1 => ?_)
  · replace h := itT q1 h
    refine x_iconst (v := 0) dX8_isLetter_16 rfl ?_
    exact x_iret (S := []) dX8_isLetter_17 rfl rfl ⟨_, rfl, rfl, h⟩
  · replace h := itF q1 h
    refine x_iload_n dX8_isLetter_6 rfl ?_
    refine x_bipush (v := 122) dX8_isLetter_7 rfl ?_
    refine x_icmp_gt (tgt := 16) dX8_isLetter_9 rfl (fun q2 => ?_) (fun q2 => ?_)
    · replace h := itT q2 h
      refine x_iconst (v := 0) dX8_isLetter_16 rfl ?_
      exact x_iret (S := []) dX8_isLetter_17 rfl rfl ⟨_, rfl, rfl, h⟩
    · replace h := itF q2 h
      refine x_iconst (v := 1) dX8_isLetter_12 rfl ?_
      refine x_goto (tgt := 17) dX8_isLetter_13 rfl ?_
      exact x_iret (S := []) dX8_isLetter_17 rfl rfl ⟨_, rfl, rfl, h⟩
set_option maxRecDepth 20000 in
theorem s_X8_isDigit {d : Nat} {g : zG} {σ : zI} {K : Int32 → zI → Prop} (hg : zGA g) {l0 : Int32} (h : (if (l0 < 48 : Prop) then K 0 σ else (if (57 < l0 : Prop) then K 0 σ else K 1 σ))) : zCI mX8_isDigit d [.int l0] g σ K := by
  refine c_of_x pn_mX8_isDigit rfl (Nat.le_of_ble_eq_true rfl) ?_
  change zX _ _ 0 0 0 [.int l0] [] g σ _
  refine x_iload_n dX8_isDigit_0 rfl ?_
  refine x_bipush (v := 48) dX8_isDigit_1 rfl ?_
  refine x_icmp_lt (tgt := 16) dX8_isDigit_3 rfl (fun q1 => ?_) (fun q1 => ?_)
  · replace h := itT q1 h
    refine x_iconst (v := 0) dX8_isDigit_16 rfl ?_
    exact x_iret (S := []) dX8_isDigit_17 rfl rfl ⟨_, rfl, rfl, h⟩
  · replace h := itF q1 h
    refine x_iload_n dX8_isDigit_6 rfl ?_
    refine x_bipush (v := 57) dX8_isDigit_7 rfl ?_
    refine x_icmp_gt (tgt := 16) dX8_isDigit_9 rfl (fun q2 => ?_) (fun q2 => ?_)
    · replace h := itT q2 h
      refine x_iconst (v := 0) dX8_isDigit_16 rfl ?_
      exact x_iret (S := []) dX8_isDigit_17 rfl rfl ⟨_, rfl, rfl, h⟩
    · replace h := itF q2 h
      refine x_iconst (v := 1) dX8_isDigit_12 rfl ?_
      refine x_goto (tgt := 17) dX8_isDigit_13 rfl ?_
      exact x_iret (S := []) dX8_isDigit_17 rfl rfl ⟨_, rfl, rfl, h⟩
set_option maxRecDepth 20000 in
theorem s_X8_isSign {d : Nat} {g : zG} {σ : zI} {K : Int32 → zI → Prop} (hg : zGA g) {l0 : Int32} (h : (if (l0 = 40 : Prop) then K 1 σ else (if (l0 = 41 : Prop) then K 1 σ else (if (l0 = 42 : Prop) then K 1 σ else (if (l0 = 43 : Prop) then K 1 σ else (if (l0 = 44 : Prop) then K 0 σ else (if (l0 = 45 : Prop) then K 1 σ else (if (l0 = 46 : Prop) then K 0 σ else (if (l0 = 47 : Prop) then K 0 σ else (if (l0 = 48 : Prop) then K 0 σ else (if (l0 = 49 : Prop) then K 0 σ else (if (l0 = 50 : Prop) then K 0 σ else (if (l0 = 51 : Prop) then K 0 σ else (if (l0 = 52 : Prop) then K 0 σ else (if (l0 = 53 : Prop) then K 0 σ else (if (l0 = 54 : Prop) then K 0 σ else (if (l0 = 55 : Prop) then K 0 σ else (if (l0 = 56 : Prop) then K 0 σ else (if (l0 = 57 : Prop) then K 0 σ else (if (l0 = 58 : Prop) then K 0 σ else (if (l0 = 59 : Prop) then K 1 σ else (if (l0 = 60 : Prop) then K 1 σ else (if (l0 = 61 : Prop) then K 1 σ else K 0 σ))))))))))))))))))))))) : zCI mX8_isSign d [.int l0] g σ K := by
  refine c_of_x pn_mX8_isSign rfl (Nat.le_of_ble_eq_true rfl) ?_
  change zX _ _ 0 0 0 [.int l0] [] g σ _
  refine x_iload_n dX8_isSign_0 rfl ?_
  by_cases q1 : l0 = 40
  · refine x_tsw (tgt := 104) dX8_isSign_1 (by rw [q1]; decide) (by rw [q1]; decide) (by rw [q1]; rfl) rfl ?_
    replace h := itT q1 h
    refine x_iconst (v := 1) dX8_isSign_104 rfl ?_
    exact x_iret (S := []) dX8_isSign_105 rfl rfl ⟨_, rfl, rfl, h⟩
  · replace h := itF q1 h
    by_cases q2 : l0 = 41
    · refine x_tsw (tgt := 104) dX8_isSign_1 (by rw [q2]; decide) (by rw [q2]; decide) (by rw [q2]; rfl) rfl ?_
      replace h := itT q2 h
      refine x_iconst (v := 1) dX8_isSign_104 rfl ?_
      exact x_iret (S := []) dX8_isSign_105 rfl rfl ⟨_, rfl, rfl, h⟩
    · replace h := itF q2 h
      by_cases q3 : l0 = 42
      · refine x_tsw (tgt := 104) dX8_isSign_1 (by rw [q3]; decide) (by rw [q3]; decide) (by rw [q3]; rfl) rfl ?_
        replace h := itT q3 h
        refine x_iconst (v := 1) dX8_isSign_104 rfl ?_
        exact x_iret (S := []) dX8_isSign_105 rfl rfl ⟨_, rfl, rfl, h⟩
      · replace h := itF q3 h
        by_cases q4 : l0 = 43
        · refine x_tsw (tgt := 104) dX8_isSign_1 (by rw [q4]; decide) (by rw [q4]; decide) (by rw [q4]; rfl) rfl ?_
          replace h := itT q4 h
          refine x_iconst (v := 1) dX8_isSign_104 rfl ?_
          exact x_iret (S := []) dX8_isSign_105 rfl rfl ⟨_, rfl, rfl, h⟩
        · replace h := itF q4 h
          by_cases q5 : l0 = 44
          · refine x_tsw (tgt := 106) dX8_isSign_1 (by rw [q5]; decide) (by rw [q5]; decide) (by rw [q5]; rfl) rfl ?_
            replace h := itT q5 h
            refine x_iconst (v := 0) dX8_isSign_106 rfl ?_
            exact x_iret (S := []) dX8_isSign_107 rfl rfl ⟨_, rfl, rfl, h⟩
          · replace h := itF q5 h
            by_cases q6 : l0 = 45
            · refine x_tsw (tgt := 104) dX8_isSign_1 (by rw [q6]; decide) (by rw [q6]; decide) (by rw [q6]; rfl) rfl ?_
              replace h := itT q6 h
              refine x_iconst (v := 1) dX8_isSign_104 rfl ?_
              exact x_iret (S := []) dX8_isSign_105 rfl rfl ⟨_, rfl, rfl, h⟩
            · replace h := itF q6 h
              by_cases q7 : l0 = 46
              · refine x_tsw (tgt := 106) dX8_isSign_1 (by rw [q7]; decide) (by rw [q7]; decide) (by rw [q7]; rfl) rfl ?_
                replace h := itT q7 h
                refine x_iconst (v := 0) dX8_isSign_106 rfl ?_
                exact x_iret (S := []) dX8_isSign_107 rfl rfl ⟨_, rfl, rfl, h⟩
              · replace h := itF q7 h
                by_cases q8 : l0 = 47
                · refine x_tsw (tgt := 106) dX8_isSign_1 (by rw [q8]; decide) (by rw [q8]; decide) (by rw [q8]; rfl) rfl ?_
                  replace h := itT q8 h
                  refine x_iconst (v := 0) dX8_isSign_106 rfl ?_
                  exact x_iret (S := []) dX8_isSign_107 rfl rfl ⟨_, rfl, rfl, h⟩
                · replace h := itF q8 h
                  by_cases q9 : l0 = 48
                  · refine x_tsw (tgt := 106) dX8_isSign_1 (by rw [q9]; decide) (by rw [q9]; decide) (by rw [q9]; rfl) rfl ?_
                    replace h := itT q9 h
                    refine x_iconst (v := 0) dX8_isSign_106 rfl ?_
                    exact x_iret (S := []) dX8_isSign_107 rfl rfl ⟨_, rfl, rfl, h⟩
                  · replace h := itF q9 h
                    by_cases q10 : l0 = 49
                    · refine x_tsw (tgt := 106) dX8_isSign_1 (by rw [q10]; decide) (by rw [q10]; decide) (by rw [q10]; rfl) rfl ?_
                      replace h := itT q10 h
                      refine x_iconst (v := 0) dX8_isSign_106 rfl ?_
                      exact x_iret (S := []) dX8_isSign_107 rfl rfl ⟨_, rfl, rfl, h⟩
                    · replace h := itF q10 h
                      by_cases q11 : l0 = 50
                      · refine x_tsw (tgt := 106) dX8_isSign_1 (by rw [q11]; decide) (by rw [q11]; decide) (by rw [q11]; rfl) rfl ?_
                        replace h := itT q11 h
                        refine x_iconst (v := 0) dX8_isSign_106 rfl ?_
                        exact x_iret (S := []) dX8_isSign_107 rfl rfl ⟨_, rfl, rfl, h⟩
                      · replace h := itF q11 h
                        by_cases q12 : l0 = 51
                        · refine x_tsw (tgt := 106) dX8_isSign_1 (by rw [q12]; decide) (by rw [q12]; decide) (by rw [q12]; rfl) rfl ?_
                          replace h := itT q12 h
                          refine x_iconst (v := 0) dX8_isSign_106 rfl ?_
                          exact x_iret (S := []) dX8_isSign_107 rfl rfl ⟨_, rfl, rfl, h⟩
                        · replace h := itF q12 h
                          by_cases q13 : l0 = 52
                          · refine x_tsw (tgt := 106) dX8_isSign_1 (by rw [q13]; decide) (by rw [q13]; decide) (by rw [q13]; rfl) rfl ?_
                            replace h := itT q13 h
                            refine x_iconst (v := 0) dX8_isSign_106 rfl ?_
                            exact x_iret (S := []) dX8_isSign_107 rfl rfl ⟨_, rfl, rfl, h⟩
                          · replace h := itF q13 h
                            by_cases q14 : l0 = 53
                            · refine x_tsw (tgt := 106) dX8_isSign_1 (by rw [q14]; decide) (by rw [q14]; decide) (by rw [q14]; rfl) rfl ?_
                              replace h := itT q14 h
                              refine x_iconst (v := 0) dX8_isSign_106 rfl ?_
                              exact x_iret (S := []) dX8_isSign_107 rfl rfl ⟨_, rfl, rfl, h⟩
                            · replace h := itF q14 h
                              by_cases q15 : l0 = 54
                              · refine x_tsw (tgt := 106) dX8_isSign_1 (by rw [q15]; decide) (by rw [q15]; decide) (by rw [q15]; rfl) rfl ?_
                                replace h := itT q15 h
                                refine x_iconst (v := 0) dX8_isSign_106 rfl ?_
                                exact x_iret (S := []) dX8_isSign_107 rfl rfl ⟨_, rfl, rfl, h⟩
                              · replace h := itF q15 h
                                by_cases q16 : l0 = 55
                                · refine x_tsw (tgt := 106) dX8_isSign_1 (by rw [q16]; decide) (by rw [q16]; decide) (by rw [q16]; rfl) rfl ?_
                                  replace h := itT q16 h
                                  refine x_iconst (v := 0) dX8_isSign_106 rfl ?_
                                  exact x_iret (S := []) dX8_isSign_107 rfl rfl ⟨_, rfl, rfl, h⟩
                                · replace h := itF q16 h
                                  by_cases q17 : l0 = 56
                                  · refine x_tsw (tgt := 106) dX8_isSign_1 (by rw [q17]; decide) (by rw [q17]; decide) (by rw [q17]; rfl) rfl ?_
                                    replace h := itT q17 h
                                    refine x_iconst (v := 0) dX8_isSign_106 rfl ?_
                                    exact x_iret (S := []) dX8_isSign_107 rfl rfl ⟨_, rfl, rfl, h⟩
                                  · replace h := itF q17 h
                                    by_cases q18 : l0 = 57
                                    · refine x_tsw (tgt := 106) dX8_isSign_1 (by rw [q18]; decide) (by rw [q18]; decide) (by rw [q18]; rfl) rfl ?_
                                      replace h := itT q18 h
                                      refine x_iconst (v := 0) dX8_isSign_106 rfl ?_
                                      exact x_iret (S := []) dX8_isSign_107 rfl rfl ⟨_, rfl, rfl, h⟩
                                    · replace h := itF q18 h
                                      by_cases q19 : l0 = 58
                                      · refine x_tsw (tgt := 106) dX8_isSign_1 (by rw [q19]; decide) (by rw [q19]; decide) (by rw [q19]; rfl) rfl ?_
                                        replace h := itT q19 h
                                        refine x_iconst (v := 0) dX8_isSign_106 rfl ?_
                                        exact x_iret (S := []) dX8_isSign_107 rfl rfl ⟨_, rfl, rfl, h⟩
                                      · replace h := itF q19 h
                                        by_cases q20 : l0 = 59
                                        · refine x_tsw (tgt := 104) dX8_isSign_1 (by rw [q20]; decide) (by rw [q20]; decide) (by rw [q20]; rfl) rfl ?_
                                          replace h := itT q20 h
                                          refine x_iconst (v := 1) dX8_isSign_104 rfl ?_
                                          exact x_iret (S := []) dX8_isSign_105 rfl rfl ⟨_, rfl, rfl, h⟩
                                        · replace h := itF q20 h
                                          by_cases q21 : l0 = 60
                                          · refine x_tsw (tgt := 104) dX8_isSign_1 (by rw [q21]; decide) (by rw [q21]; decide) (by rw [q21]; rfl) rfl ?_
                                            replace h := itT q21 h
                                            refine x_iconst (v := 1) dX8_isSign_104 rfl ?_
                                            exact x_iret (S := []) dX8_isSign_105 rfl rfl ⟨_, rfl, rfl, h⟩
                                          · replace h := itF q21 h
                                            by_cases q22 : l0 = 61
                                            · refine x_tsw (tgt := 104) dX8_isSign_1 (by rw [q22]; decide) (by rw [q22]; decide) (by rw [q22]; rfl) rfl ?_
                                              replace h := itT q22 h
                                              refine x_iconst (v := 1) dX8_isSign_104 rfl ?_
                                              exact x_iret (S := []) dX8_isSign_105 rfl rfl ⟨_, rfl, rfl, h⟩
                                            · replace h := itF q22 h
                                              refine x_tswd (tgt := 106) dX8_isSign_1 (by have z0 := lv_neT (a := 40) q1 rfl; have z1 := lv_neT (a := 41) q2 rfl; have z2 := lv_neT (a := 42) q3 rfl; have z3 := lv_neT (a := 43) q4 rfl; have z4 := lv_neT (a := 44) q5 rfl; have z5 := lv_neT (a := 45) q6 rfl; have z6 := lv_neT (a := 46) q7 rfl; have z7 := lv_neT (a := 47) q8 rfl; have z8 := lv_neT (a := 48) q9 rfl; have z9 := lv_neT (a := 49) q10 rfl; have z10 := lv_neT (a := 50) q11 rfl; have z11 := lv_neT (a := 51) q12 rfl; have z12 := lv_neT (a := 52) q13 rfl; have z13 := lv_neT (a := 53) q14 rfl; have z14 := lv_neT (a := 54) q15 rfl; have z15 := lv_neT (a := 55) q16 rfl; have z16 := lv_neT (a := 56) q17 rfl; have z17 := lv_neT (a := 57) q18 rfl; have z18 := lv_neT (a := 58) q19 rfl; have z19 := lv_neT (a := 59) q20 rfl; have z20 := lv_neT (a := 60) q21 rfl; have z21 := lv_neT (a := 61) q22 rfl; omega) rfl ?_
                                              refine x_iconst (v := 0) dX8_isSign_106 rfl ?_
                                              exact x_iret (S := []) dX8_isSign_107 rfl rfl ⟨_, rfl, rfl, h⟩
abbrev p_X8_part_45 (d : Nat) (g : zG) (K : Int32 → zI → Prop) (σ : zI) (l1 : Int32) : Prop := zX mX8_part (d + 1) 0 0 45 [.ref 57, .int l1] [] g σ (zqI g K)
set_option maxRecDepth 20000 in
theorem s_X8_part {d : Nat} {g : zG} {σ : zI} {K : Int32 → zI → Prop} (hg : zGA g) {l1 : Int32} {l2 : Int32} (h : zCI mX8_takes d [.ref 57, .int l2] g σ (fun v1 σ1 => (if (v1 = 0 : Prop) then K 0 σ1 else vp_in l1 18 ∧ p_X8_part_45 d g K (zsI (zsI (zsI (zsI (zsI (zsI σ1 62 l1.toNatClampNeg (σ1 57 12)) 57 19 0) 57 20 0) 57 21 0) 57 22 0) 57 23 1) l1))) : zCI mX8_part (d + 1) [.ref 57, .int l1, .int l2] g σ K := by
  refine c_of_x pn_mX8_part rfl (Nat.le_of_ble_eq_true rfl) ?_
  change zX _ _ 0 0 0 [.ref 57, .int l1, .int l2] [] g σ _
  refine x_aload_n dX8_part_0 rfl ?_
  refine x_iload_n dX8_part_1 rfl ?_
  refine x_callV (Y2 := mX8_takes) (as := [.int l2]) (S := []) (kc2 := 0) (ks2 := 0) mv_mX8_takes (Or.inl ⟨8, _, rfl, rfl, (gA_57 hg)⟩) dX8_part_2 lk_X8_197 mo_mX8_takes rfl rfl (Nat.le_of_ble_eq_true rfl) (Or.inl rfl) rfl rfl h ?_
  rintro _ _ σ1 ⟨v1, rfl, rfl, h⟩
  change zX _ _ 0 0 5 _ [.int v1] _ _ _
  refine x_if_ne (tgt := 10) dX8_part_5 rfl (fun q1 => ?_) (fun q1 => ?_)
  · replace h := itF q1 h
    refine x_aload_n dX8_part_10 rfl ?_
    refine x_getR dX8_part_11 fl_X8_22 (gA_57 hg) rfl (gA_57_9 hg) ?_
    refine x_iload_n dX8_part_14 rfl ?_
    refine x_aload_n dX8_part_15 rfl ?_
    refine x_getI dX8_part_16 fl_X8_159 (gA_57 hg) rfl ?_
    obtain ⟨q2, h⟩ := h
    refine x_iast dX8_part_19 (gA_62 hg) q2 ?_
    refine x_aload_n dX8_part_20 rfl ?_
    refine x_iconst (v := 0) dX8_part_21 rfl ?_
    refine x_putI dX8_part_22 fl_X8_162 (gA_57 hg) rfl rfl ?_
    refine x_aload_n dX8_part_25 rfl ?_
    refine x_iconst (v := 0) dX8_part_26 rfl ?_
    refine x_putI dX8_part_27 fl_X8_168 (gA_57 hg) rfl rfl ?_
    refine x_aload_n dX8_part_30 rfl ?_
    refine x_iconst (v := 0) dX8_part_31 rfl ?_
    refine x_putZ dX8_part_32 fl_X8_178 (gA_57 hg) rfl rfl (Or.inl rfl) ?_
    refine x_aload_n dX8_part_35 rfl ?_
    refine x_iconst (v := 0) dX8_part_36 rfl ?_
    refine x_putZ dX8_part_37 fl_X8_174 (gA_57 hg) rfl rfl (Or.inl rfl) ?_
    refine x_aload_n dX8_part_40 rfl ?_
    refine x_iconst (v := 1) dX8_part_41 rfl ?_
    refine x_putZ dX8_part_42 fl_X8_184 (gA_57 hg) rfl rfl (Or.inr rfl) ?_
    exact x_wk (wC (wC (wN _))) h
  · replace h := itT q1 h
    refine x_iconst (v := 0) dX8_part_8 rfl ?_
    exact x_iret (S := []) dX8_part_9 rfl rfl ⟨_, rfl, rfl, h⟩
set_option maxRecDepth 20000 in
theorem s_X8_part_45 {d : Nat} {g : zG} {σ : zI} {K : Int32 → zI → Prop} (hg : zGA g) {l1 : Int32} (h : (if ((σ 57 22) = 0 : Prop) then zCI mX8_goesOn d [.ref 57] g σ (fun v1 σ1 => (if (v1 = 0 : Prop) then K 0 σ1 else zCV mX8_next d [.ref 57] g σ1 (fun σ2 => p_X8_part_45 d g K σ2 l1))) else (if ((σ 57 15) = 59 : Prop) then zCV mX8_lays d [.ref 57, .int 1] g σ (fun σ1 => (if ((σ1 57 19) ≤ 0 : Prop) then vp_in l1 18 ∧ vp_in l1 18 ∧ zCV mX8_next d [.ref 57] g (zsI σ1 63 l1.toNatClampNeg ((σ1 57 12) - (σ1 62 l1.toNatClampNeg))) (fun σ2 => K 1 σ2) else K 0 σ1)) else zCI mX8_goesOn d [.ref 57] g σ (fun v1 σ1 => (if (v1 = 0 : Prop) then K 0 σ1 else zCV mX8_next d [.ref 57] g σ1 (fun σ2 => p_X8_part_45 d g K σ2 l1)))))) : p_X8_part_45 d g K σ l1 := by
  refine x_aload_n dX8_part_45 rfl ?_
  refine x_getI dX8_part_46 fl_X8_174 (gA_57 hg) rfl ?_
  refine x_if_eq (tgt := 61) dX8_part_49 rfl (fun q1 => ?_) (fun q1 => ?_)
  · replace h := itT q1 h
    refine x_aload_n dX8_part_61 rfl ?_
    refine x_callV (Y2 := mX8_goesOn) (as := []) (S := []) (kc2 := 0) (ks2 := 0) mv_mX8_goesOn (Or.inl ⟨8, _, rfl, rfl, (gA_57 hg)⟩) dX8_part_62 lk_X8_200 mo_mX8_goesOn rfl rfl (Nat.le_of_ble_eq_true rfl) (Or.inl rfl) rfl rfl h ?_
    rintro _ _ σ1 ⟨v1, rfl, rfl, h⟩
    change zX _ _ 0 0 65 _ [.int v1] _ _ _
    refine x_if_ne (tgt := 70) dX8_part_65 rfl (fun q2 => ?_) (fun q2 => ?_)
    · replace h := itF q2 h
      refine x_aload_n dX8_part_70 rfl ?_
      refine x_callV (Y2 := mX8_next) (as := []) (S := []) (kc2 := 0) (ks2 := 0) mv_mX8_next (Or.inl ⟨8, _, rfl, rfl, (gA_57 hg)⟩) dX8_part_71 lk_X8_156 mo_mX8_next rfl rfl (Nat.le_of_ble_eq_true rfl) (Or.inl rfl) rfl rfl h ?_
      rintro _ _ σ2 ⟨rfl, rfl, h⟩
      change zX _ _ 0 0 74 _ [] _ _ _
      refine x_goto (tgt := 45) dX8_part_74 rfl ?_
      exact h
    · replace h := itT q2 h
      refine x_iconst (v := 0) dX8_part_68 rfl ?_
      exact x_iret (S := []) dX8_part_69 rfl rfl ⟨_, rfl, rfl, h⟩
  · replace h := itF q1 h
    refine x_aload_n dX8_part_52 rfl ?_
    refine x_getI dX8_part_53 fl_X8_133 (gA_57 hg) rfl ?_
    refine x_bipush (v := 59) dX8_part_56 rfl ?_
    refine x_icmp_eq (tgt := 77) dX8_part_58 rfl (fun q2 => ?_) (fun q2 => ?_)
    · replace h := itT q2 h
      refine x_aload_n dX8_part_77 rfl ?_
      refine x_iconst (v := 1) dX8_part_78 rfl ?_
      refine x_callV (Y2 := mX8_lays) (as := [.int 1]) (S := []) (kc2 := 0) (ks2 := 0) mv_mX8_lays (Or.inl ⟨8, _, rfl, rfl, (gA_57 hg)⟩) dX8_part_79 lk_X8_171 mo_mX8_lays rfl rfl (Nat.le_of_ble_eq_true rfl) (Or.inl rfl) rfl rfl h ?_
      rintro _ _ σ1 ⟨rfl, rfl, h⟩
      change zX _ _ 0 0 82 _ [] _ _ _
      refine x_aload_n dX8_part_82 rfl ?_
      refine x_getI dX8_part_83 fl_X8_162 (gA_57 hg) rfl ?_
      refine x_if_le (tgt := 91) dX8_part_86 rfl (fun q3 => ?_) (fun q3 => ?_)
      · replace h := itT q3 h
        refine x_aload_n dX8_part_91 rfl ?_
        refine x_getR dX8_part_92 fl_X8_25 (gA_57 hg) rfl (gA_57_10 hg) ?_
        refine x_iload_n dX8_part_95 rfl ?_
        refine x_aload_n dX8_part_96 rfl ?_
        refine x_getI dX8_part_97 fl_X8_159 (gA_57 hg) rfl ?_
        refine x_aload_n dX8_part_100 rfl ?_
        refine x_getR dX8_part_101 fl_X8_22 (gA_57 hg) rfl (gA_57_9 hg) ?_
        refine x_iload_n dX8_part_104 rfl ?_
        obtain ⟨q4, h⟩ := h
        refine x_iald dX8_part_105 (gA_62 hg) q4 ?_
        refine x_isub dX8_part_106 ?_
        obtain ⟨q5, h⟩ := h
        refine x_iast dX8_part_107 (gA_63 hg) q5 ?_
        refine x_aload_n dX8_part_108 rfl ?_
        refine x_callV (Y2 := mX8_next) (as := []) (S := []) (kc2 := 0) (ks2 := 0) mv_mX8_next (Or.inl ⟨8, _, rfl, rfl, (gA_57 hg)⟩) dX8_part_109 lk_X8_156 mo_mX8_next rfl rfl (Nat.le_of_ble_eq_true rfl) (Or.inl rfl) rfl rfl h ?_
        rintro _ _ σ2 ⟨rfl, rfl, h⟩
        change zX _ _ 0 0 112 _ [] _ _ _
        refine x_iconst (v := 1) dX8_part_112 rfl ?_
        exact x_iret (S := []) dX8_part_113 rfl rfl ⟨_, rfl, rfl, h⟩
      · replace h := itF q3 h
        refine x_iconst (v := 0) dX8_part_89 rfl ?_
        exact x_iret (S := []) dX8_part_90 rfl rfl ⟨_, rfl, rfl, h⟩
    · replace h := itF q2 h
      refine x_aload_n dX8_part_61 rfl ?_
      refine x_callV (Y2 := mX8_goesOn) (as := []) (S := []) (kc2 := 0) (ks2 := 0) mv_mX8_goesOn (Or.inl ⟨8, _, rfl, rfl, (gA_57 hg)⟩) dX8_part_62 lk_X8_200 mo_mX8_goesOn rfl rfl (Nat.le_of_ble_eq_true rfl) (Or.inl rfl) rfl rfl h ?_
      rintro _ _ σ1 ⟨v1, rfl, rfl, h⟩
      change zX _ _ 0 0 65 _ [.int v1] _ _ _
      refine x_if_ne (tgt := 70) dX8_part_65 rfl (fun q3 => ?_) (fun q3 => ?_)
      · replace h := itF q3 h
        refine x_aload_n dX8_part_70 rfl ?_
        refine x_callV (Y2 := mX8_next) (as := []) (S := []) (kc2 := 0) (ks2 := 0) mv_mX8_next (Or.inl ⟨8, _, rfl, rfl, (gA_57 hg)⟩) dX8_part_71 lk_X8_156 mo_mX8_next rfl rfl (Nat.le_of_ble_eq_true rfl) (Or.inl rfl) rfl rfl h ?_
        rintro _ _ σ2 ⟨rfl, rfl, h⟩
        change zX _ _ 0 0 74 _ [] _ _ _
        refine x_goto (tgt := 45) dX8_part_74 rfl ?_
        exact h
      · replace h := itT q3 h
        refine x_iconst (v := 0) dX8_part_68 rfl ?_
        exact x_iret (S := []) dX8_part_69 rfl rfl ⟨_, rfl, rfl, h⟩
set_option maxRecDepth 20000 in
theorem s_X8_takes {d : Nat} {g : zG} {σ : zI} {K : Int32 → zI → Prop} (hg : zGA g) {l1 : Int32} (h : (if ((σ 57 15) = 119 : Prop) then (if ((σ 57 17) = l1 : Prop) then zCV mX8_next d [.ref 57] g σ (fun σ1 => K 1 σ1) else K 0 σ) else K 0 σ)) : zCI mX8_takes (d + 1) [.ref 57, .int l1] g σ K := by
  refine c_of_x pn_mX8_takes rfl (Nat.le_of_ble_eq_true rfl) ?_
  change zX _ _ 0 0 0 [.ref 57, .int l1] [] g σ _
  refine x_aload_n dX8_takes_0 rfl ?_
  refine x_getI dX8_takes_1 fl_X8_133 (gA_57 hg) rfl ?_
  refine x_bipush (v := 119) dX8_takes_4 rfl ?_
  refine x_icmp_ne (tgt := 17) dX8_takes_6 rfl (fun q1 => ?_) (fun q1 => ?_)
  · replace h := itF q1 h
    refine x_iconst (v := 0) dX8_takes_17 rfl ?_
    exact x_iret (S := []) dX8_takes_18 rfl rfl ⟨_, rfl, rfl, h⟩
  · replace h := itT q1 h
    refine x_aload_n dX8_takes_9 rfl ?_
    refine x_getI dX8_takes_10 fl_X8_124 (gA_57 hg) rfl ?_
    refine x_iload_n dX8_takes_13 rfl ?_
    refine x_icmp_eq (tgt := 19) dX8_takes_14 rfl (fun q2 => ?_) (fun q2 => ?_)
    · replace h := itT q2 h
      refine x_aload_n dX8_takes_19 rfl ?_
      refine x_callV (Y2 := mX8_next) (as := []) (S := []) (kc2 := 0) (ks2 := 0) mv_mX8_next (Or.inl ⟨8, _, rfl, rfl, (gA_57 hg)⟩) dX8_takes_20 lk_X8_156 mo_mX8_next rfl rfl (Nat.le_of_ble_eq_true rfl) (Or.inl rfl) rfl rfl h ?_
      rintro _ _ σ1 ⟨rfl, rfl, h⟩
      change zX _ _ 0 0 23 _ [] _ _ _
      refine x_iconst (v := 1) dX8_takes_23 rfl ?_
      exact x_iret (S := []) dX8_takes_24 rfl rfl ⟨_, rfl, rfl, h⟩
    · replace h := itF q2 h
      refine x_iconst (v := 0) dX8_takes_17 rfl ?_
      exact x_iret (S := []) dX8_takes_18 rfl rfl ⟨_, rfl, rfl, h⟩
set_option maxRecDepth 20000 in
theorem s_X8_goesOn {d : Nat} {g : zG} {σ : zI} {K : Int32 → zI → Prop} (hg : zGA g)  (h : (if ((σ 57 22) = 0 : Prop) then zCI mX8_one d [.ref 57, .int (σ 57 23)] g σ (fun v1 σ1 => (v1 = 0 ∨ v1 = 1) ∧ K v1 σ1) else (if ((σ 57 15) = 41 : Prop) then zCI mX8_closes d [.ref 57] g σ (fun v1 σ1 => (v1 = 0 ∨ v1 = 1) ∧ K v1 σ1) else zCI mX8_signed d [.ref 57] g σ (fun v1 σ1 => (if (v1 = (-1) : Prop) then K 0 σ1 else zCI mX8_rank d [.int v1] g σ1 (fun v2 σ2 => zCV mX8_lays d [.ref 57, .int v2] g σ2 (fun σ3 => zCV mX8_push d [.ref 57, .int v1] g σ3 (fun σ4 => zCI mX8_rank d [.int v1] g (zsI σ4 57 22 0) (fun v3 σ5 => (if (3 ≤ v3 : Prop) then zCI mX8_rank d [.int v1] g (zsI σ5 57 23 0) (fun v4 σ6 => (if (v4 = 4 : Prop) then K 1 (zsI σ6 57 21 1) else K 1 σ6)) else K 1 (zsI (zsI σ5 57 23 1) 57 21 0))))))))))) : zCI mX8_goesOn (d + 1) [.ref 57] g σ K := by
  refine c_of_x pn_mX8_goesOn rfl (Nat.le_of_ble_eq_true rfl) ?_
  change zX _ _ 0 0 0 [.ref 57] [] g σ _
  refine x_aload_n dX8_goesOn_0 rfl ?_
  refine x_getI dX8_goesOn_1 fl_X8_174 (gA_57 hg) rfl ?_
  refine x_if_ne (tgt := 16) dX8_goesOn_4 rfl (fun q1 => ?_) (fun q1 => ?_)
  · replace h := itF q1 h
    refine x_aload_n dX8_goesOn_16 rfl ?_
    refine x_getI dX8_goesOn_17 fl_X8_133 (gA_57 hg) rfl ?_
    refine x_bipush (v := 41) dX8_goesOn_20 rfl ?_
    refine x_icmp_ne (tgt := 30) dX8_goesOn_22 rfl (fun q2 => ?_) (fun q2 => ?_)
    · replace h := itF q2 h
      refine x_aload_n dX8_goesOn_30 rfl ?_
      refine x_callV (Y2 := mX8_signed) (as := []) (S := []) (kc2 := 0) (ks2 := 0) mv_mX8_signed (Or.inl ⟨8, _, rfl, rfl, (gA_57 hg)⟩) dX8_goesOn_31 lk_X8_194 mo_mX8_signed rfl rfl (Nat.le_of_ble_eq_true rfl) (Or.inl rfl) rfl rfl h ?_
      rintro _ _ σ1 ⟨v1, rfl, rfl, h⟩
      change zX _ _ 0 0 34 _ [.int v1] _ _ _
      refine x_istore_n dX8_goesOn_34 rfl (Nat.le_of_ble_eq_true rfl) (L2 := [_, _]) rfl ?_
      refine x_iload_n dX8_goesOn_35 rfl ?_
      refine x_iconst (v := (-1)) dX8_goesOn_36 rfl ?_
      refine x_icmp_ne (tgt := 42) dX8_goesOn_37 rfl (fun q3 => ?_) (fun q3 => ?_)
      · replace h := itF q3 h
        refine x_aload_n dX8_goesOn_42 rfl ?_
        refine x_iload_n dX8_goesOn_43 rfl ?_
        refine x_callS (Y2 := mX8_rank) (as := [.int v1]) (S := [.ref 57]) (kc2 := 0) (ks2 := 0) st_mX8_rank dX8_goesOn_44 lk_X8_165 mo_mX8_rank rfl rfl (Nat.le_of_ble_eq_true rfl) (Or.inl rfl) rfl rfl h ?_
        rintro _ _ σ2 ⟨v2, rfl, rfl, h⟩
        change zX _ _ 0 0 47 _ [.int v2, .ref 57] _ _ _
        refine x_callV (Y2 := mX8_lays) (as := [.int v2]) (S := []) (kc2 := 0) (ks2 := 0) mv_mX8_lays (Or.inl ⟨8, _, rfl, rfl, (gA_57 hg)⟩) dX8_goesOn_47 lk_X8_171 mo_mX8_lays rfl rfl (Nat.le_of_ble_eq_true rfl) (Or.inl rfl) rfl rfl h ?_
        rintro _ _ σ3 ⟨rfl, rfl, h⟩
        change zX _ _ 0 0 50 _ [] _ _ _
        refine x_aload_n dX8_goesOn_50 rfl ?_
        refine x_iload_n dX8_goesOn_51 rfl ?_
        refine x_callV (Y2 := mX8_push) (as := [.int v1]) (S := []) (kc2 := 0) (ks2 := 0) mv_mX8_push (Or.inl ⟨8, _, rfl, rfl, (gA_57 hg)⟩) dX8_goesOn_52 lk_X8_181 mo_mX8_push rfl rfl (Nat.le_of_ble_eq_true rfl) (Or.inl rfl) rfl rfl h ?_
        rintro _ _ σ4 ⟨rfl, rfl, h⟩
        change zX _ _ 0 0 55 _ [] _ _ _
        refine x_aload_n dX8_goesOn_55 rfl ?_
        refine x_iconst (v := 0) dX8_goesOn_56 rfl ?_
        refine x_putZ dX8_goesOn_57 fl_X8_174 (gA_57 hg) rfl rfl (Or.inl rfl) ?_
        refine x_aload_n dX8_goesOn_60 rfl ?_
        refine x_iload_n dX8_goesOn_61 rfl ?_
        refine x_callS (Y2 := mX8_rank) (as := [.int v1]) (S := [.ref 57]) (kc2 := 0) (ks2 := 0) st_mX8_rank dX8_goesOn_62 lk_X8_165 mo_mX8_rank rfl rfl (Nat.le_of_ble_eq_true rfl) (Or.inl rfl) rfl rfl h ?_
        rintro _ _ σ5 ⟨v3, rfl, rfl, h⟩
        change zX _ _ 0 0 65 _ [.int v3, .ref 57] _ _ _
        refine x_iconst (v := 3) dX8_goesOn_65 rfl ?_
        refine x_icmp_ge (tgt := 73) dX8_goesOn_66 rfl (fun q4 => ?_) (fun q4 => ?_)
        · replace h := itT q4 h
          refine x_iconst (v := 0) dX8_goesOn_73 rfl ?_
          refine x_putZ dX8_goesOn_74 fl_X8_184 (gA_57 hg) rfl rfl (Or.inl rfl) ?_
          refine x_aload_n dX8_goesOn_77 rfl ?_
          refine x_getI dX8_goesOn_78 fl_X8_184 (gA_57 hg) rfl ?_
          refine x_if_eq (tgt := 92) dX8_goesOn_81 rfl (fun _ => ?_) (fun q => absurd (show ¬ (0 : Int32) = (0 : Int32) from q) (by decide))
          refine x_iload_n dX8_goesOn_92 rfl ?_
          refine x_callS (Y2 := mX8_rank) (as := [.int v1]) (S := []) (kc2 := 0) (ks2 := 0) st_mX8_rank dX8_goesOn_93 lk_X8_165 mo_mX8_rank rfl rfl (Nat.le_of_ble_eq_true rfl) (Or.inl rfl) rfl rfl h ?_
          rintro _ _ σ6 ⟨v4, rfl, rfl, h⟩
          change zX _ _ 0 0 96 _ [.int v4] _ _ _
          refine x_iconst (v := 4) dX8_goesOn_96 rfl ?_
          refine x_icmp_ne (tgt := 105) dX8_goesOn_97 rfl (fun q5 => ?_) (fun q5 => ?_)
          · replace h := itF q5 h
            refine x_iconst (v := 1) dX8_goesOn_105 rfl ?_
            exact x_iret (S := []) dX8_goesOn_106 rfl rfl ⟨_, rfl, rfl, h⟩
          · replace h := itT q5 h
            refine x_aload_n dX8_goesOn_100 rfl ?_
            refine x_iconst (v := 1) dX8_goesOn_101 rfl ?_
            refine x_putZ dX8_goesOn_102 fl_X8_178 (gA_57 hg) rfl rfl (Or.inr rfl) ?_
            refine x_iconst (v := 1) dX8_goesOn_105 rfl ?_
            exact x_iret (S := []) dX8_goesOn_106 rfl rfl ⟨_, rfl, rfl, h⟩
        · replace h := itF q4 h
          refine x_iconst (v := 1) dX8_goesOn_69 rfl ?_
          refine x_goto (tgt := 74) dX8_goesOn_70 rfl ?_
          refine x_putZ dX8_goesOn_74 fl_X8_184 (gA_57 hg) rfl rfl (Or.inr rfl) ?_
          refine x_aload_n dX8_goesOn_77 rfl ?_
          refine x_getI dX8_goesOn_78 fl_X8_184 (gA_57 hg) rfl ?_
          refine x_if_eq (tgt := 92) dX8_goesOn_81 rfl (fun q => absurd (show (1 : Int32) = (0 : Int32) from q) (by decide)) (fun _ => ?_)
          refine x_aload_n dX8_goesOn_84 rfl ?_
          refine x_iconst (v := 0) dX8_goesOn_85 rfl ?_
          refine x_putZ dX8_goesOn_86 fl_X8_178 (gA_57 hg) rfl rfl (Or.inl rfl) ?_
          refine x_goto (tgt := 105) dX8_goesOn_89 rfl ?_
          refine x_iconst (v := 1) dX8_goesOn_105 rfl ?_
          exact x_iret (S := []) dX8_goesOn_106 rfl rfl ⟨_, rfl, rfl, h⟩
      · replace h := itT q3 h
        refine x_iconst (v := 0) dX8_goesOn_40 rfl ?_
        exact x_iret (S := []) dX8_goesOn_41 rfl rfl ⟨_, rfl, rfl, h⟩
    · replace h := itT q2 h
      refine x_aload_n dX8_goesOn_25 rfl ?_
      refine x_callV (Y2 := mX8_closes) (as := []) (S := []) (kc2 := 0) (ks2 := 0) mv_mX8_closes (Or.inl ⟨8, _, rfl, rfl, (gA_57 hg)⟩) dX8_goesOn_26 lk_X8_191 mo_mX8_closes rfl rfl (Nat.le_of_ble_eq_true rfl) (Or.inl rfl) rfl rfl h ?_
      rintro _ _ σ1 ⟨v1, rfl, rfl, h⟩
      change zX _ _ 0 0 29 _ [.int v1] _ _ _
      obtain ⟨q3, h⟩ := h
      exact x_iret (S := []) dX8_goesOn_29 rfl (zbz q3) ⟨_, rfl, rfl, h⟩
  · replace h := itT q1 h
    refine x_aload_n dX8_goesOn_7 rfl ?_
    refine x_aload_n dX8_goesOn_8 rfl ?_
    refine x_getI dX8_goesOn_9 fl_X8_184 (gA_57 hg) rfl ?_
    refine x_callV (Y2 := mX8_one) (as := [.int (σ 57 23)]) (S := []) (kc2 := 0) (ks2 := 0) mv_mX8_one (Or.inl ⟨8, _, rfl, rfl, (gA_57 hg)⟩) dX8_goesOn_12 lk_X8_187 mo_mX8_one rfl rfl (Nat.le_of_ble_eq_true rfl) (Or.inl rfl) rfl rfl h ?_
    rintro _ _ σ1 ⟨v1, rfl, rfl, h⟩
    change zX _ _ 0 0 15 _ [.int v1] _ _ _
    obtain ⟨q2, h⟩ := h
    exact x_iret (S := []) dX8_goesOn_15 rfl (zbz q2) ⟨_, rfl, rfl, h⟩
