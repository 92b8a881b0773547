theorem zvp {i : Int32} {n : Nat} (h : decide (i < 0 ∨ n ≤ i.toNatClampNeg) = false) : vp_in i n := by
  unfold vp_in
  exact of_decide_eq_false h

set_option maxRecDepth 20000 in
theorem s_J0_length_8abf5 {d : Nat} {g : zG} {σ : zI} {K : Int32 → zI → Prop} (hg : zGL g) {l0 : Nat} (h0 : l0 < zNS) (h : zCI mJ0_coder_7d493 d [.ref (1000 + l0)] g σ (fun v1 σ1 => K ((nI (zlen.getD l0 0)) >>> (v1 &&& 31)) σ1)) : zCI mJ0_length_8abf5 (d + 1) [.ref (1000 + l0)] g σ K := by
  refine c_of_x pn_mJ0_length_8abf5 rfl (Nat.le_of_ble_eq_true rfl) ?_
  change zX _ _ 0 0 0 [.ref (1000 + l0)] [] g σ _
  refine x_aload_n dJ0_length_8abf5_0 rfl ?_
  refine x_strV (i := l0) dJ0_length_8abf5_1 h0 fs_J0_9 ?_
  refine x_strL (i := l0) dJ0_length_8abf5_4 h0 ?_
  refine x_aload_n dJ0_length_8abf5_5 rfl ?_
  refine x_callV (Y2 := mJ0_coder_7d493) (as := []) (S := [.int (nI (zlen.getD l0 0))]) (kc2 := 0) (ks2 := 0) mv_mJ0_coder_7d493 (Or.inr ⟨rfl, l0, h0, rfl⟩) dJ0_length_8abf5_6 lk_J0_335 mo_mJ0_coder_7d493 rfl rfl (Nat.le_of_ble_eq_true rfl) (Or.inl rfl) rfl rfl h ?_
  rintro _ _ σ1 ⟨v1, rfl, rfl, h⟩
  change zX _ _ 0 0 9 _ [.int v1, .int (nI (zlen.getD l0 0))] _ _ _
  refine x_ishr dJ0_length_8abf5_9 ?_
  exact x_iret (S := []) dJ0_length_8abf5_10 rfl rfl ⟨_, rfl, rfl, h⟩
set_option maxRecDepth 20000 in
theorem s_J0_coder_7d493 {d : Nat} {g : zG} {σ : zI} {K : Int32 → zI → Prop} (hg : zGL g) {l0 : Nat} (h0 : l0 < zNS) (h : K 0 σ) : zCI mJ0_coder_7d493 d [.ref (1000 + l0)] g σ K := by
  refine c_of_x pn_mJ0_coder_7d493 rfl (Nat.le_of_ble_eq_true rfl) ?_
  change zX _ _ 0 0 0 [.ref (1000 + l0)] [] g σ _
  refine x_gets dJ0_coder_7d493_0 fs_J0_38 ?_
  refine x_if_eq (tgt := 13) dJ0_coder_7d493_3 rfl (fun q => absurd q (by decide)) (fun _ => ?_)
  refine x_aload_n dJ0_coder_7d493_6 rfl ?_
  refine x_strC (i := l0) dJ0_coder_7d493_7 h0 fs_J0_15 ?_
  refine x_goto (tgt := 14) dJ0_coder_7d493_10 rfl ?_
  exact x_iret (S := []) dJ0_coder_7d493_14 rfl rfl ⟨_, rfl, rfl, h⟩
set_option maxRecDepth 20000 in
theorem s_J0_charAt_5068e {d : Nat} {g : zG} {σ : zI} {K : Int32 → zI → Prop} (hg : zGL g) {l0 : Nat} (h0 : l0 < zNS) {l1 : Int32} (h : zCI mJ0_isLatin1_aae02 d [.ref (1000 + l0)] g σ (fun v1 σ1 => (if (v1 = 0 : Prop) then False else zCI mJ1_charAt_3b067 d [.ref (2000 + l0), .int l1] g σ1 (fun v2 σ2 => narrow .char (.int v2) = .int v2 ∧ K v2 σ2)))) : zCI mJ0_charAt_5068e (d + 1) [.ref (1000 + l0), .int l1] g σ K := by
  refine c_of_x pn_mJ0_charAt_5068e rfl (Nat.le_of_ble_eq_true rfl) ?_
  change zX _ _ 0 0 0 [.ref (1000 + l0), .int l1] [] g σ _
  refine x_aload_n dJ0_charAt_5068e_0 rfl ?_
  refine x_callV (Y2 := mJ0_isLatin1_aae02) (as := []) (S := []) (kc2 := 0) (ks2 := 0) mv_mJ0_isLatin1_aae02 (Or.inr ⟨rfl, l0, h0, rfl⟩) dJ0_charAt_5068e_1 lk_J0_492 mo_mJ0_isLatin1_aae02 rfl rfl (Nat.le_of_ble_eq_true rfl) (Or.inl rfl) rfl rfl h ?_
  rintro _ _ σ1 ⟨v1, rfl, rfl, h⟩
  change zX _ _ 0 0 4 _ [.int v1] _ _ _
  refine x_if_eq (tgt := 16) dJ0_charAt_5068e_4 rfl (fun q1 => ?_) (fun q1 => ?_)
  · replace h := itT q1 h
    refine x_aload_n dJ0_charAt_5068e_16 rfl ?_
    refine x_strV (i := l0) dJ0_charAt_5068e_17 h0 fs_J0_9 ?_
    refine x_iload_n dJ0_charAt_5068e_20 rfl ?_
    exact h.elim
  · replace h := itF q1 h
    refine x_aload_n dJ0_charAt_5068e_7 rfl ?_
    refine x_strV (i := l0) dJ0_charAt_5068e_8 h0 fs_J0_9 ?_
    refine x_iload_n dJ0_charAt_5068e_11 rfl ?_
    refine x_callS (Y2 := mJ1_charAt_3b067) (as := [.ref (2000 + l0), .int l1]) (S := []) (kc2 := 0) (ks2 := 0) st_mJ1_charAt_3b067 dJ0_charAt_5068e_12 lk_J0_495 mo_mJ1_charAt_3b067 rfl rfl (Nat.le_of_ble_eq_true rfl) (Or.inl rfl) rfl rfl h ?_
    rintro _ _ σ2 ⟨v2, rfl, rfl, h⟩
    change zX _ _ 0 0 15 _ [.int v2] _ _ _
    obtain ⟨q2, h⟩ := h
    exact x_iret (S := []) dJ0_charAt_5068e_15 rfl q2 ⟨_, rfl, rfl, h⟩
set_option maxRecDepth 20000 in
theorem s_J0_isLatin1_aae02 {d : Nat} {g : zG} {σ : zI} {K : Int32 → zI → Prop} (hg : zGL g) {l0 : Nat} (h0 : l0 < zNS) (h : K 1 σ) : zCI mJ0_isLatin1_aae02 d [.ref (1000 + l0)] g σ K := by
  refine c_of_x pn_mJ0_isLatin1_aae02 rfl (Nat.le_of_ble_eq_true rfl) ?_
  change zX _ _ 0 0 0 [.ref (1000 + l0)] [] g σ _
  refine x_gets dJ0_isLatin1_aae02_0 fs_J0_38 ?_
  refine x_if_eq (tgt := 17) dJ0_isLatin1_aae02_3 rfl (fun q => absurd q (by decide)) (fun _ => ?_)
  refine x_aload_n dJ0_isLatin1_aae02_6 rfl ?_
  refine x_strC (i := l0) dJ0_isLatin1_aae02_7 h0 fs_J0_15 ?_
  refine x_if_ne (tgt := 17) dJ0_isLatin1_aae02_10 rfl (fun q => absurd q (by decide)) (fun _ => ?_)
  refine x_iconst (v := 1) dJ0_isLatin1_aae02_13 rfl ?_
  refine x_goto (tgt := 18) dJ0_isLatin1_aae02_14 rfl ?_
  exact x_iret (S := []) dJ0_isLatin1_aae02_18 rfl rfl ⟨_, rfl, rfl, h⟩
set_option maxRecDepth 20000 in
theorem s_J1_charAt_3b067 {d : Nat} {g : zG} {σ : zI} {K : Int32 → zI → Prop} (hg : zGL g) {l0 : Nat} (h0 : l0 < zNS) {l1 : Int32} (h : zCV mJ0_checkIndex_df160 d [.int l1, .int (nI (zlen.getD l0 0))] g σ (fun σ1 => vp_in l1 (zlen.getD l0 0) ∧ narrow .char (.int (((((zbyt.getD l0 []).getD l1.toNatClampNeg 0) &&& 255 : Int32).toUInt32 % 65536).toInt32)) = .int (((((zbyt.getD l0 []).getD l1.toNatClampNeg 0) &&& 255 : Int32).toUInt32 % 65536).toInt32) ∧ K (((((zbyt.getD l0 []).getD l1.toNatClampNeg 0) &&& 255 : Int32).toUInt32 % 65536).toInt32) σ1)) : zCI mJ1_charAt_3b067 (d + 1) [.ref (2000 + l0), .int l1] g σ K := by
  refine c_of_x pn_mJ1_charAt_3b067 rfl (Nat.le_of_ble_eq_true rfl) ?_
  change zX _ _ 0 0 0 [.ref (2000 + l0), .int l1] [] g σ _
  refine x_iload_n dJ1_charAt_3b067_0 rfl ?_
  refine x_aload_n dJ1_charAt_3b067_1 rfl ?_
  refine x_strL (i := l0) dJ1_charAt_3b067_2 h0 ?_
  refine x_callS (Y2 := mJ0_checkIndex_df160) (as := [.int l1, .int (nI (zlen.getD l0 0))]) (S := []) (kc2 := 0) (ks2 := 0) st_mJ0_checkIndex_df160 dJ1_charAt_3b067_3 lk_J1_9 mo_mJ0_checkIndex_df160 rfl rfl (Nat.le_of_ble_eq_true rfl) (Or.inl rfl) rfl rfl h ?_
  rintro _ _ σ1 ⟨rfl, rfl, h⟩
  change zX _ _ 0 0 6 _ [] _ _ _
  refine x_aload_n dJ1_charAt_3b067_6 rfl ?_
  refine x_iload_n dJ1_charAt_3b067_7 rfl ?_
  obtain ⟨q1, h⟩ := h
  refine x_strA (i := l0) dJ1_charAt_3b067_8 h0 q1 ?_
  refine x_sipush (v := 255) dJ1_charAt_3b067_9 rfl ?_
  refine x_iand dJ1_charAt_3b067_12 ?_
  refine x_i2c dJ1_charAt_3b067_13 ?_
  obtain ⟨q2, h⟩ := h
  exact x_iret (S := []) dJ1_charAt_3b067_14 rfl q2 ⟨_, rfl, rfl, h⟩
set_option maxRecDepth 20000 in
theorem s_J0_checkIndex_df160 {d : Nat} {g : zG} {σ : zI} {K : zI → Prop} (hg : zGL g) {l0 : Int32} {l1 : Int32} (h : ∀ f1 : Value, f1.category = 1 → zCI mJ3_checkIndex_8e157 d [.int l0, .int l1, f1] g σ (fun v1 σ1 => K σ1)) : zCV mJ0_checkIndex_df160 (d + 1) [.int l0, .int l1] g σ K := by
  refine c_of_x pn_mJ0_checkIndex_df160 rfl (Nat.le_of_ble_eq_true rfl) ?_
  change zX _ _ 0 0 0 [.int l0, .int l1] [] g σ _
  refine x_iload_n dJ0_checkIndex_df160_0 rfl ?_
  refine x_iload_n dJ0_checkIndex_df160_1 rfl ?_
  refine x_getsQ dJ0_checkIndex_df160_2 fs_J0_1053 (fun f1 q1 => ?_)
  replace h := h f1 q1
  refine x_callS (Y2 := mJ3_checkIndex_8e157) (as := [.int l0, .int l1, f1]) (S := []) (kc2 := 0) (ks2 := 0) st_mJ3_checkIndex_8e157 dJ0_checkIndex_df160_5 lk_J0_1059 mo_mJ3_checkIndex_8e157 rfl rfl (Nat.le_of_ble_eq_true rfl) (Or.inl rfl) rfl rfl h ?_
  rintro _ _ σ1 ⟨v1, rfl, rfl, h⟩
  change zX _ _ 0 0 8 _ [.int v1] _ _ _
  refine x_pop dJ0_checkIndex_df160_8 rfl ?_
  exact x_vret (S := []) dJ0_checkIndex_df160_9 rfl ⟨rfl, rfl, h⟩
set_option maxRecDepth 20000 in
theorem s_J3_checkIndex_8e157 {d : Nat} {g : zG} {σ : zI} {K : Int32 → zI → Prop} (hg : zGL g) {l0 : Int32} {l1 : Int32} {l2 : Value} (h2 : l2.category = 1) (h : (if (l0 < 0 : Prop) then False else (if (l0 < l1 : Prop) then K l0 σ else False))) : zCI mJ3_checkIndex_8e157 (d + 1) [.int l0, .int l1, l2] g σ K := by
  refine c_of_x pn_mJ3_checkIndex_8e157 (by simp only [List.all_cons, List.all_nil, h2]; rfl) (Nat.le_of_ble_eq_true rfl) ?_
  change zX _ _ 0 0 0 [.int l0, .int l1, l2] [] g σ _
  refine x_iload_n dJ3_checkIndex_8e157_0 rfl ?_
  refine x_if_lt (tgt := 9) dJ3_checkIndex_8e157_1 rfl (fun q1 => ?_) (fun q1 => ?_)
  · replace h := itT q1 h
    exact h.elim
  · replace h := itF q1 h
    refine x_iload_n dJ3_checkIndex_8e157_4 rfl ?_
    refine x_iload_n dJ3_checkIndex_8e157_5 rfl ?_
    refine x_icmp_lt (tgt := 16) dJ3_checkIndex_8e157_6 rfl (fun q2 => ?_) (fun q2 => ?_)
    · replace h := itT q2 h
      refine x_iload_n dJ3_checkIndex_8e157_16 rfl ?_
      exact x_iret (S := []) dJ3_checkIndex_8e157_17 rfl rfl ⟨_, rfl, rfl, h⟩
    · replace h := itF q2 h
      exact h.elim
set_option maxRecDepth 20000 in
theorem s_J0_indexOf_0f7a4 {d : Nat} {g : zG} {σ : zI} {K : Int32 → zI → Prop} (hg : zGL g) {l0 : Nat} (h0 : l0 < zNS) {l1 : Int32} (h : zCI mJ0_indexOf_7cf53 d [.ref (1000 + l0), .int l1, .int 0] g σ (fun v1 σ1 => K v1 σ1)) : zCI mJ0_indexOf_0f7a4 (d + 1) [.ref (1000 + l0), .int l1] g σ K := by
  refine c_of_x pn_mJ0_indexOf_0f7a4 rfl (Nat.le_of_ble_eq_true rfl) ?_
  change zX _ _ 0 0 0 [.ref (1000 + l0), .int l1] [] g σ _
  refine x_aload_n dJ0_indexOf_0f7a4_0 rfl ?_
  refine x_iload_n dJ0_indexOf_0f7a4_1 rfl ?_
  refine x_iconst (v := 0) dJ0_indexOf_0f7a4_2 rfl ?_
  refine x_callV (Y2 := mJ0_indexOf_7cf53) (as := [.int l1, .int 0]) (S := []) (kc2 := 0) (ks2 := 0) mv_mJ0_indexOf_7cf53 (Or.inr ⟨rfl, l0, h0, rfl⟩) dJ0_indexOf_0f7a4_3 lk_J0_633 mo_mJ0_indexOf_7cf53 rfl rfl (Nat.le_of_ble_eq_true rfl) (Or.inl rfl) rfl rfl h ?_
  rintro _ _ σ1 ⟨v1, rfl, rfl, h⟩
  change zX _ _ 0 0 6 _ [.int v1] _ _ _
  exact x_iret (S := []) dJ0_indexOf_0f7a4_6 rfl rfl ⟨_, rfl, rfl, h⟩
set_option maxRecDepth 20000 in
theorem s_J0_indexOf_7cf53 {d : Nat} {g : zG} {σ : zI} {K : Int32 → zI → Prop} (hg : zGL g) {l0 : Nat} (h0 : l0 < zNS) {l1 : Int32} {l2 : Int32} (h : zCI mJ0_isLatin1_aae02 d [.ref (1000 + l0)] g σ (fun v1 σ1 => (if (v1 = 0 : Prop) then zCI mJ0_length_8abf5 d [.ref (1000 + l0)] g σ1 (fun v2 σ2 => False) else zCI mJ0_length_8abf5 d [.ref (1000 + l0)] g σ1 (fun v2 σ2 => zCI mJ1_indexOf_4cfef d [.ref (2000 + l0), .int l1, .int l2, .int v2] g σ2 (fun v3 σ3 => K v3 σ3))))) : zCI mJ0_indexOf_7cf53 (d + 1) [.ref (1000 + l0), .int l1, .int l2] g σ K := by
  refine c_of_x pn_mJ0_indexOf_7cf53 rfl (Nat.le_of_ble_eq_true rfl) ?_
  change zX _ _ 0 0 0 [.ref (1000 + l0), .int l1, .int l2] [] g σ _
  refine x_aload_n dJ0_indexOf_7cf53_0 rfl ?_
  refine x_callV (Y2 := mJ0_isLatin1_aae02) (as := []) (S := []) (kc2 := 0) (ks2 := 0) mv_mJ0_isLatin1_aae02 (Or.inr ⟨rfl, l0, h0, rfl⟩) dJ0_indexOf_7cf53_1 lk_J0_492 mo_mJ0_isLatin1_aae02 rfl rfl (Nat.le_of_ble_eq_true rfl) (Or.inl rfl) rfl rfl h ?_
  rintro _ _ σ1 ⟨v1, rfl, rfl, h⟩
  change zX _ _ 0 0 4 _ [.int v1] _ _ _
  refine x_if_eq (tgt := 23) dJ0_indexOf_7cf53_4 rfl (fun q1 => ?_) (fun q1 => ?_)
  · replace h := itT q1 h
    refine x_aload_n dJ0_indexOf_7cf53_23 rfl ?_
    refine x_strV (i := l0) dJ0_indexOf_7cf53_24 h0 fs_J0_9 ?_
    refine x_iload_n dJ0_indexOf_7cf53_27 rfl ?_
    refine x_iload_n dJ0_indexOf_7cf53_28 rfl ?_
    refine x_aload_n dJ0_indexOf_7cf53_29 rfl ?_
    refine x_callV (Y2 := mJ0_length_8abf5) (as := []) (S := [.int l2, .int l1, .ref (2000 + l0)]) (kc2 := 0) (ks2 := 0) mv_mJ0_length_8abf5 (Or.inr ⟨rfl, l0, h0, rfl⟩) dJ0_indexOf_7cf53_30 lk_J0_505 mo_mJ0_length_8abf5 rfl rfl (Nat.le_of_ble_eq_true rfl) (Or.inl rfl) rfl rfl h ?_
    rintro _ _ σ2 ⟨v2, rfl, rfl, h⟩
    change zX _ _ 0 0 33 _ [.int v2, .int l2, .int l1, .ref (2000 + l0)] _ _ _
    exact h.elim
  · replace h := itF q1 h
    refine x_aload_n dJ0_indexOf_7cf53_7 rfl ?_
    refine x_strV (i := l0) dJ0_indexOf_7cf53_8 h0 fs_J0_9 ?_
    refine x_iload_n dJ0_indexOf_7cf53_11 rfl ?_
    refine x_iload_n dJ0_indexOf_7cf53_12 rfl ?_
    refine x_aload_n dJ0_indexOf_7cf53_13 rfl ?_
    refine x_callV (Y2 := mJ0_length_8abf5) (as := []) (S := [.int l2, .int l1, .ref (2000 + l0)]) (kc2 := 0) (ks2 := 0) mv_mJ0_length_8abf5 (Or.inr ⟨rfl, l0, h0, rfl⟩) dJ0_indexOf_7cf53_14 lk_J0_505 mo_mJ0_length_8abf5 rfl rfl (Nat.le_of_ble_eq_true rfl) (Or.inl rfl) rfl rfl h ?_
    rintro _ _ σ2 ⟨v2, rfl, rfl, h⟩
    change zX _ _ 0 0 17 _ [.int v2, .int l2, .int l1, .ref (2000 + l0)] _ _ _
    refine x_callS (Y2 := mJ1_indexOf_4cfef) (as := [.ref (2000 + l0), .int l1, .int l2, .int v2]) (S := []) (kc2 := 0) (ks2 := 0) st_mJ1_indexOf_4cfef dJ0_indexOf_7cf53_17 lk_J0_637 mo_mJ1_indexOf_4cfef rfl rfl (Nat.le_of_ble_eq_true rfl) (Or.inl rfl) rfl rfl h ?_
    rintro _ _ σ3 ⟨v3, rfl, rfl, h⟩
    change zX _ _ 0 0 20 _ [.int v3] _ _ _
    refine x_goto (tgt := 36) dJ0_indexOf_7cf53_20 rfl ?_
    exact x_iret (S := []) dJ0_indexOf_7cf53_36 rfl rfl ⟨_, rfl, rfl, h⟩
set_option maxRecDepth 20000 in
theorem s_J1_indexOf_4cfef {d : Nat} {g : zG} {σ : zI} {K : Int32 → zI → Prop} (hg : zGL g) {l0 : Nat} (h0 : l0 < zNS) {l1 : Int32} {l2 : Int32} {l3 : Int32} (h : zCI mJ1_canEncode_9a6ad d [.int l1] g σ (fun v1 σ1 => (if (v1 = 0 : Prop) then K (-1) σ1 else (if ((if l2 < 0 then 0 else l2) < (if (nI (zlen.getD l0 0)) < l3 then (nI (zlen.getD l0 0)) else l3) : Prop) then zCI mJ1_indexOfChar_4cfef d [.ref (2000 + l0), .int l1, .int (if l2 < 0 then 0 else l2), .int (if (nI (zlen.getD l0 0)) < l3 then (nI (zlen.getD l0 0)) else l3)] g σ1 (fun v2 σ2 => K v2 σ2) else K (-1) σ1)))) : zCI mJ1_indexOf_4cfef (d + 1) [.ref (2000 + l0), .int l1, .int l2, .int l3] g σ K := by
  refine c_of_x pn_mJ1_indexOf_4cfef rfl (Nat.le_of_ble_eq_true rfl) ?_
  change zX _ _ 0 0 0 [.ref (2000 + l0), .int l1, .int l2, .int l3] [] g σ _
  refine x_iload_n dJ1_indexOf_4cfef_0 rfl ?_
  refine x_callS (Y2 := mJ1_canEncode_9a6ad) (as := [.int l1]) (S := []) (kc2 := 0) (ks2 := 0) st_mJ1_canEncode_9a6ad dJ1_indexOf_4cfef_1 lk_J1_88 mo_mJ1_canEncode_9a6ad rfl rfl (Nat.le_of_ble_eq_true rfl) (Or.inl rfl) rfl rfl h ?_
  rintro _ _ σ1 ⟨v1, rfl, rfl, h⟩
  change zX _ _ 0 0 4 _ [.int v1] _ _ _
  refine x_if_ne (tgt := 9) dJ1_indexOf_4cfef_4 rfl (fun q1 => ?_) (fun q1 => ?_)
  · replace h := itF q1 h
    refine x_iload_n dJ1_indexOf_4cfef_9 rfl ?_
    refine x_iconst (v := 0) dJ1_indexOf_4cfef_10 rfl ?_
    refine x_mmax dJ1_indexOf_4cfef_11 lw_J1_92 tw_max1 tw_math tw_max2 (Nat.le_of_ble_eq_true rfl) ?_
    refine x_istore_n dJ1_indexOf_4cfef_14 rfl (Nat.le_of_ble_eq_true rfl) (L2 := [_, _, _, _]) rfl ?_
    refine x_iload_n dJ1_indexOf_4cfef_15 rfl ?_
    refine x_aload_n dJ1_indexOf_4cfef_16 rfl ?_
    refine x_strL (i := l0) dJ1_indexOf_4cfef_17 h0 ?_
    refine x_mmin dJ1_indexOf_4cfef_18 lw_J1_38 tw_min1 tw_math tw_min2 (Nat.le_of_ble_eq_true rfl) ?_
    refine x_istore_n dJ1_indexOf_4cfef_21 rfl (Nat.le_of_ble_eq_true rfl) (L2 := [_, _, _, _]) rfl ?_
    refine x_iload_n dJ1_indexOf_4cfef_22 rfl ?_
    refine x_iload_n dJ1_indexOf_4cfef_23 rfl ?_
    refine x_icmp_lt (tgt := 29) dJ1_indexOf_4cfef_24 rfl (fun q2 => ?_) (fun q2 => ?_)
    · replace h := itT q2 h
      refine x_aload_n dJ1_indexOf_4cfef_29 rfl ?_
      refine x_iload_n dJ1_indexOf_4cfef_30 rfl ?_
      refine x_iload_n dJ1_indexOf_4cfef_31 rfl ?_
      refine x_iload_n dJ1_indexOf_4cfef_32 rfl ?_
      refine x_callS (Y2 := mJ1_indexOfChar_4cfef) (as := [.ref (2000 + l0), .int l1, .int (if l2 < 0 then 0 else l2), .int (if (nI (zlen.getD l0 0)) < l3 then (nI (zlen.getD l0 0)) else l3)]) (S := []) (kc2 := 0) (ks2 := 0) st_mJ1_indexOfChar_4cfef dJ1_indexOf_4cfef_33 lk_J1_95 mo_mJ1_indexOfChar_4cfef rfl rfl (Nat.le_of_ble_eq_true rfl) (Or.inl rfl) rfl rfl h ?_
      rintro _ _ σ2 ⟨v2, rfl, rfl, h⟩
      change zX _ _ 0 0 36 _ [.int v2] _ _ _
      exact x_iret (S := []) dJ1_indexOf_4cfef_36 rfl rfl ⟨_, rfl, rfl, h⟩
    · replace h := itF q2 h
      refine x_iconst (v := (-1)) dJ1_indexOf_4cfef_27 rfl ?_
      exact x_iret (S := []) dJ1_indexOf_4cfef_28 rfl rfl ⟨_, rfl, rfl, h⟩
  · replace h := itT q1 h
    refine x_iconst (v := (-1)) dJ1_indexOf_4cfef_7 rfl ?_
    exact x_iret (S := []) dJ1_indexOf_4cfef_8 rfl rfl ⟨_, rfl, rfl, h⟩
set_option maxRecDepth 20000 in
theorem s_J1_canEncode_9a6ad {d : Nat} {g : zG} {σ : zI} {K : Int32 → zI → Prop} (hg : zGL g) {l0 : Int32} (h : (if (l0 < 0 : Prop) then K 0 σ else (if (255 < l0 : Prop) then K 0 σ else K 1 σ))) : zCI mJ1_canEncode_9a6ad d [.int l0] g σ K := by
  refine c_of_x pn_mJ1_canEncode_9a6ad rfl (Nat.le_of_ble_eq_true rfl) ?_
  change zX _ _ 0 0 0 [.int l0] [] g σ _
  refine x_iload_n dJ1_canEncode_9a6ad_0 rfl ?_
  refine x_if_lt (tgt := 15) dJ1_canEncode_9a6ad_1 rfl (fun q1 => ?_) (fun q1 => ?_)
  · replace h := itT q1 h
    refine x_iconst (v := 0) dJ1_canEncode_9a6ad_15 rfl ?_
    exact x_iret (S := []) dJ1_canEncode_9a6ad_16 rfl rfl ⟨_, rfl, rfl, h⟩
  · replace h := itF q1 h
    refine x_iload_n dJ1_canEncode_9a6ad_4 rfl ?_
    refine x_sipush (v := 255) dJ1_canEncode_9a6ad_5 rfl ?_
    refine x_icmp_gt (tgt := 15) dJ1_canEncode_9a6ad_8 rfl (fun q2 => ?_) (fun q2 => ?_)
    · replace h := itT q2 h
      refine x_iconst (v := 0) dJ1_canEncode_9a6ad_15 rfl ?_
      exact x_iret (S := []) dJ1_canEncode_9a6ad_16 rfl rfl ⟨_, rfl, rfl, h⟩
    · replace h := itF q2 h
      refine x_iconst (v := 1) dJ1_canEncode_9a6ad_11 rfl ?_
      refine x_goto (tgt := 16) dJ1_canEncode_9a6ad_12 rfl ?_
      exact x_iret (S := []) dJ1_canEncode_9a6ad_16 rfl rfl ⟨_, rfl, rfl, h⟩
abbrev p_J1_indexOfChar_4cfef_7 (d : Nat) (g : zG) (K : Int32 → zI → Prop) (σ : zI) (l0 : Nat) (l3 : Int32) (l4 : Int32) (l5 : Int32) : Prop := zX mJ1_indexOfChar_4cfef d 0 0 7 [.ref (2000 + l0), .retAddr 0, .retAddr 0, .int l3, .int l4, .int l5] [] g σ (zqI g K)
set_option maxRecDepth 20000 in
theorem s_J1_indexOfChar_4cfef {d : Nat} {g : zG} {σ : zI} {K : Int32 → zI → Prop} (hg : zGL g) {l0 : Nat} (h0 : l0 < zNS) {l1 : Int32} {l2 : Int32} {l3 : Int32} (h : p_J1_indexOfChar_4cfef_7 d g K σ l0 l3 ((l1 : Int32).toInt8.toInt32) l2) : zCI mJ1_indexOfChar_4cfef d [.ref (2000 + l0), .int l1, .int l2, .int l3] g σ K := by
  refine c_of_x pn_mJ1_indexOfChar_4cfef rfl (Nat.le_of_ble_eq_true rfl) ?_
  change zX _ _ 0 0 0 [.ref (2000 + l0), .int l1, .int l2, .int l3] [] g σ _
  refine x_iload_n dJ1_indexOfChar_4cfef_0 rfl ?_
  refine x_i2b dJ1_indexOfChar_4cfef_1 ?_
  refine x_istore dJ1_indexOfChar_4cfef_2 rfl (Nat.le_of_ble_eq_true rfl) (L2 := [_, _, _, _, _]) rfl ?_
  refine x_iload_n dJ1_indexOfChar_4cfef_4 rfl ?_
  refine x_istore dJ1_indexOfChar_4cfef_5 rfl (Nat.le_of_ble_eq_true rfl) (L2 := [_, _, _, _, _, _]) rfl ?_
  exact x_wk (wC (wJ (wJ (wC (wC (wC (wN _))))))) h
set_option maxRecDepth 20000 in
theorem s_J1_indexOfChar_4cfef_7 {d : Nat} {g : zG} {σ : zI} {K : Int32 → zI → Prop} (hg : zGL g) {l0 : Nat} (h_l0 : l0 < zNS) {l3 : Int32} {l4 : Int32} {l5 : Int32} (h : (if (l3 ≤ l5 : Prop) then K (-1) σ else vp_in l5 (zlen.getD l0 0) ∧ (if (((zbyt.getD l0 []).getD l5.toNatClampNeg 0) = l4 : Prop) then K l5 σ else p_J1_indexOfChar_4cfef_7 d g K σ l0 l3 l4 (l5 + 1)))) : p_J1_indexOfChar_4cfef_7 d g K σ l0 l3 l4 l5 := by
  refine x_iload dJ1_indexOfChar_4cfef_7 rfl ?_
  refine x_iload_n dJ1_indexOfChar_4cfef_9 rfl ?_
  refine x_icmp_ge (tgt := 31) dJ1_indexOfChar_4cfef_10 rfl (fun q1 => ?_) (fun q1 => ?_)
  · replace h := itT q1 h
    refine x_iconst (v := (-1)) dJ1_indexOfChar_4cfef_31 rfl ?_
    exact x_iret (S := []) dJ1_indexOfChar_4cfef_32 rfl rfl ⟨_, rfl, rfl, h⟩
  · replace h := itF q1 h
    refine x_aload_n dJ1_indexOfChar_4cfef_13 rfl ?_
    refine x_iload dJ1_indexOfChar_4cfef_14 rfl ?_
    obtain ⟨q2, h⟩ := h
    refine x_strA (i := l0) dJ1_indexOfChar_4cfef_16 h_l0 q2 ?_
    refine x_iload dJ1_indexOfChar_4cfef_17 rfl ?_
    refine x_icmp_ne (tgt := 25) dJ1_indexOfChar_4cfef_19 rfl (fun q3 => ?_) (fun q3 => ?_)
    · replace h := itF q3 h
      refine x_iinc dJ1_indexOfChar_4cfef_25 rfl (v := l5 + 1) rfl rfl (Nat.le_of_ble_eq_true rfl) (L2 := [_, _, _, _, _, _]) rfl ?_
      refine x_goto (tgt := 7) dJ1_indexOfChar_4cfef_28 rfl ?_
      exact h
    · replace h := itT q3 h
      refine x_iload dJ1_indexOfChar_4cfef_22 rfl ?_
      exact x_iret (S := []) dJ1_indexOfChar_4cfef_24 rfl rfl ⟨_, rfl, rfl, h⟩
set_option maxRecDepth 20000 in
theorem s_J0_checkBoundsBeginEnd_23922 {d : Nat} {g : zG} {σ : zI} {K : zI → Prop} (hg : zGL g) {l0 : Int32} {l1 : Int32} {l2 : Int32} (h : ∀ f1 : Value, f1.category = 1 → zCI mJ3_checkFromToIndex_8c36e d [.int l0, .int l1, .int l2, f1] g σ (fun v1 σ1 => K σ1)) : zCV mJ0_checkBoundsBeginEnd_23922 (d + 1) [.int l0, .int l1, .int l2] g σ K := by
  refine c_of_x pn_mJ0_checkBoundsBeginEnd_23922 rfl (Nat.le_of_ble_eq_true rfl) ?_
  change zX _ _ 0 0 0 [.int l0, .int l1, .int l2] [] g σ _
  refine x_iload_n dJ0_checkBoundsBeginEnd_23922_0 rfl ?_
  refine x_iload_n dJ0_checkBoundsBeginEnd_23922_1 rfl ?_
  refine x_iload_n dJ0_checkBoundsBeginEnd_23922_2 rfl ?_
  refine x_getsQ dJ0_checkBoundsBeginEnd_23922_3 fs_J0_1053 (fun f1 q1 => ?_)
  replace h := h f1 q1
  refine x_callS (Y2 := mJ3_checkFromToIndex_8c36e) (as := [.int l0, .int l1, .int l2, f1]) (S := []) (kc2 := 0) (ks2 := 0) st_mJ3_checkFromToIndex_8c36e dJ0_checkBoundsBeginEnd_23922_6 lk_J0_1062 mo_mJ3_checkFromToIndex_8c36e rfl rfl (Nat.le_of_ble_eq_true rfl) (Or.inl rfl) rfl rfl h ?_
  rintro _ _ σ1 ⟨v1, rfl, rfl, h⟩
  change zX _ _ 0 0 9 _ [.int v1] _ _ _
  refine x_pop dJ0_checkBoundsBeginEnd_23922_9 rfl ?_
  exact x_vret (S := []) dJ0_checkBoundsBeginEnd_23922_10 rfl ⟨rfl, rfl, h⟩
set_option maxRecDepth 20000 in
theorem s_J3_checkFromToIndex_8c36e {d : Nat} {g : zG} {σ : zI} {K : Int32 → zI → Prop} (hg : zGL g) {l0 : Int32} {l1 : Int32} {l2 : Int32} {l3 : Value} (h3 : l3.category = 1) (h : (if (l0 < 0 : Prop) then False else (if (l1 < l0 : Prop) then False else (if (l1 ≤ l2 : Prop) then K l0 σ else False)))) : zCI mJ3_checkFromToIndex_8c36e (d + 1) [.int l0, .int l1, .int l2, l3] g σ K := by
  refine c_of_x pn_mJ3_checkFromToIndex_8c36e (by simp only [List.all_cons, List.all_nil, h3]; rfl) (Nat.le_of_ble_eq_true rfl) ?_
  change zX _ _ 0 0 0 [.int l0, .int l1, .int l2, l3] [] g σ _
  refine x_iload_n dJ3_checkFromToIndex_8c36e_0 rfl ?_
  refine x_if_lt (tgt := 14) dJ3_checkFromToIndex_8c36e_1 rfl (fun q1 => ?_) (fun q1 => ?_)
  · replace h := itT q1 h
    exact h.elim
  · replace h := itF q1 h
    refine x_iload_n dJ3_checkFromToIndex_8c36e_4 rfl ?_
    refine x_iload_n dJ3_checkFromToIndex_8c36e_5 rfl ?_
    refine x_icmp_gt (tgt := 14) dJ3_checkFromToIndex_8c36e_6 rfl (fun q2 => ?_) (fun q2 => ?_)
    · replace h := itT q2 h
      exact h.elim
    · replace h := itF q2 h
      refine x_iload_n dJ3_checkFromToIndex_8c36e_9 rfl ?_
      refine x_iload_n dJ3_checkFromToIndex_8c36e_10 rfl ?_
      refine x_icmp_le (tgt := 22) dJ3_checkFromToIndex_8c36e_11 rfl (fun q3 => ?_) (fun q3 => ?_)
      · replace h := itT q3 h
        refine x_iload_n dJ3_checkFromToIndex_8c36e_22 rfl ?_
        exact x_iret (S := []) dJ3_checkFromToIndex_8c36e_23 rfl rfl ⟨_, rfl, rfl, h⟩
      · replace h := itF q3 h
        exact h.elim
set_option maxRecDepth 20000 in
theorem s_J6_bitCount_0f7a4 {d : Nat} {g : zG} {σ : zI} {K : Int32 → zI → Prop} (hg : zGL g) {l0 : Int32} (h : K ((((((((l0 - ((((l0 : Int32).toUInt32 >>> ((1 : Int32).toUInt32 &&& Int32.toUInt32 31)).toInt32) &&& 1431655765)) &&& 858993459) + ((((l0 - ((((l0 : Int32).toUInt32 >>> ((1 : Int32).toUInt32 &&& Int32.toUInt32 31)).toInt32) &&& 1431655765) : Int32).toUInt32 >>> ((2 : Int32).toUInt32 &&& Int32.toUInt32 31)).toInt32) &&& 858993459)) + (((((l0 - ((((l0 : Int32).toUInt32 >>> ((1 : Int32).toUInt32 &&& Int32.toUInt32 31)).toInt32) &&& 1431655765)) &&& 858993459) + ((((l0 - ((((l0 : Int32).toUInt32 >>> ((1 : Int32).toUInt32 &&& Int32.toUInt32 31)).toInt32) &&& 1431655765) : Int32).toUInt32 >>> ((2 : Int32).toUInt32 &&& Int32.toUInt32 31)).toInt32) &&& 858993459) : Int32).toUInt32 >>> ((4 : Int32).toUInt32 &&& Int32.toUInt32 31)).toInt32)) &&& 252645135) + (((((((l0 - ((((l0 : Int32).toUInt32 >>> ((1 : Int32).toUInt32 &&& Int32.toUInt32 31)).toInt32) &&& 1431655765)) &&& 858993459) + ((((l0 - ((((l0 : Int32).toUInt32 >>> ((1 : Int32).toUInt32 &&& Int32.toUInt32 31)).toInt32) &&& 1431655765) : Int32).toUInt32 >>> ((2 : Int32).toUInt32 &&& Int32.toUInt32 31)).toInt32) &&& 858993459)) + (((((l0 - ((((l0 : Int32).toUInt32 >>> ((1 : Int32).toUInt32 &&& Int32.toUInt32 31)).toInt32) &&& 1431655765)) &&& 858993459) + ((((l0 - ((((l0 : Int32).toUInt32 >>> ((1 : Int32).toUInt32 &&& Int32.toUInt32 31)).toInt32) &&& 1431655765) : Int32).toUInt32 >>> ((2 : Int32).toUInt32 &&& Int32.toUInt32 31)).toInt32) &&& 858993459) : Int32).toUInt32 >>> ((4 : Int32).toUInt32 &&& Int32.toUInt32 31)).toInt32)) &&& 252645135 : Int32).toUInt32 >>> ((8 : Int32).toUInt32 &&& Int32.toUInt32 31)).toInt32)) + ((((((((l0 - ((((l0 : Int32).toUInt32 >>> ((1 : Int32).toUInt32 &&& Int32.toUInt32 31)).toInt32) &&& 1431655765)) &&& 858993459) + ((((l0 - ((((l0 : Int32).toUInt32 >>> ((1 : Int32).toUInt32 &&& Int32.toUInt32 31)).toInt32) &&& 1431655765) : Int32).toUInt32 >>> ((2 : Int32).toUInt32 &&& Int32.toUInt32 31)).toInt32) &&& 858993459)) + (((((l0 - ((((l0 : Int32).toUInt32 >>> ((1 : Int32).toUInt32 &&& Int32.toUInt32 31)).toInt32) &&& 1431655765)) &&& 858993459) + ((((l0 - ((((l0 : Int32).toUInt32 >>> ((1 : Int32).toUInt32 &&& Int32.toUInt32 31)).toInt32) &&& 1431655765) : Int32).toUInt32 >>> ((2 : Int32).toUInt32 &&& Int32.toUInt32 31)).toInt32) &&& 858993459) : Int32).toUInt32 >>> ((4 : Int32).toUInt32 &&& Int32.toUInt32 31)).toInt32)) &&& 252645135) + (((((((l0 - ((((l0 : Int32).toUInt32 >>> ((1 : Int32).toUInt32 &&& Int32.toUInt32 31)).toInt32) &&& 1431655765)) &&& 858993459) + ((((l0 - ((((l0 : Int32).toUInt32 >>> ((1 : Int32).toUInt32 &&& Int32.toUInt32 31)).toInt32) &&& 1431655765) : Int32).toUInt32 >>> ((2 : Int32).toUInt32 &&& Int32.toUInt32 31)).toInt32) &&& 858993459)) + (((((l0 - ((((l0 : Int32).toUInt32 >>> ((1 : Int32).toUInt32 &&& Int32.toUInt32 31)).toInt32) &&& 1431655765)) &&& 858993459) + ((((l0 - ((((l0 : Int32).toUInt32 >>> ((1 : Int32).toUInt32 &&& Int32.toUInt32 31)).toInt32) &&& 1431655765) : Int32).toUInt32 >>> ((2 : Int32).toUInt32 &&& Int32.toUInt32 31)).toInt32) &&& 858993459) : Int32).toUInt32 >>> ((4 : Int32).toUInt32 &&& Int32.toUInt32 31)).toInt32)) &&& 252645135 : Int32).toUInt32 >>> ((8 : Int32).toUInt32 &&& Int32.toUInt32 31)).toInt32) : Int32).toUInt32 >>> ((16 : Int32).toUInt32 &&& Int32.toUInt32 31)).toInt32)) &&& 63) σ) : zCI mJ6_bitCount_0f7a4 d [.int l0] g σ K := by
  refine c_of_x pn_mJ6_bitCount_0f7a4 rfl (Nat.le_of_ble_eq_true rfl) ?_
  change zX _ _ 0 0 0 [.int l0] [] g σ _
  refine x_iload_n dJ6_bitCount_0f7a4_0 rfl ?_
  refine x_iload_n dJ6_bitCount_0f7a4_1 rfl ?_
  refine x_iconst (v := 1) dJ6_bitCount_0f7a4_2 rfl ?_
  refine x_iushr dJ6_bitCount_0f7a4_3 ?_
  refine x_ldcw dJ6_bitCount_0f7a4_4 kc_J6_265 ?_
  refine x_iand dJ6_bitCount_0f7a4_7 ?_
  refine x_isub dJ6_bitCount_0f7a4_8 ?_
  refine x_istore_n dJ6_bitCount_0f7a4_9 rfl (Nat.le_of_ble_eq_true rfl) (L2 := [_]) rfl ?_
  refine x_iload_n dJ6_bitCount_0f7a4_10 rfl ?_
  refine x_ldcw dJ6_bitCount_0f7a4_11 kc_J6_266 ?_
  refine x_iand dJ6_bitCount_0f7a4_14 ?_
  refine x_iload_n dJ6_bitCount_0f7a4_15 rfl ?_
  refine x_iconst (v := 2) dJ6_bitCount_0f7a4_16 rfl ?_
  refine x_iushr dJ6_bitCount_0f7a4_17 ?_
  refine x_ldcw dJ6_bitCount_0f7a4_18 kc_J6_266 ?_
  refine x_iand dJ6_bitCount_0f7a4_21 ?_
  refine x_iadd dJ6_bitCount_0f7a4_22 ?_
  refine x_istore_n dJ6_bitCount_0f7a4_23 rfl (Nat.le_of_ble_eq_true rfl) (L2 := [_]) rfl ?_
  refine x_iload_n dJ6_bitCount_0f7a4_24 rfl ?_
  refine x_iload_n dJ6_bitCount_0f7a4_25 rfl ?_
  refine x_iconst (v := 4) dJ6_bitCount_0f7a4_26 rfl ?_
  refine x_iushr dJ6_bitCount_0f7a4_27 ?_
  refine x_iadd dJ6_bitCount_0f7a4_28 ?_
  refine x_ldcw dJ6_bitCount_0f7a4_29 kc_J6_267 ?_
  refine x_iand dJ6_bitCount_0f7a4_32 ?_
  refine x_istore_n dJ6_bitCount_0f7a4_33 rfl (Nat.le_of_ble_eq_true rfl) (L2 := [_]) rfl ?_
  refine x_iload_n dJ6_bitCount_0f7a4_34 rfl ?_
  refine x_iload_n dJ6_bitCount_0f7a4_35 rfl ?_
  refine x_bipush (v := 8) dJ6_bitCount_0f7a4_36 rfl ?_
  refine x_iushr dJ6_bitCount_0f7a4_38 ?_
  refine x_iadd dJ6_bitCount_0f7a4_39 ?_
  refine x_istore_n dJ6_bitCount_0f7a4_40 rfl (Nat.le_of_ble_eq_true rfl) (L2 := [_]) rfl ?_
  refine x_iload_n dJ6_bitCount_0f7a4_41 rfl ?_
  refine x_iload_n dJ6_bitCount_0f7a4_42 rfl ?_
  refine x_bipush (v := 16) dJ6_bitCount_0f7a4_43 rfl ?_
  refine x_iushr dJ6_bitCount_0f7a4_45 ?_
  refine x_iadd dJ6_bitCount_0f7a4_46 ?_
  refine x_istore_n dJ6_bitCount_0f7a4_47 rfl (Nat.le_of_ble_eq_true rfl) (L2 := [_]) rfl ?_
  refine x_iload_n dJ6_bitCount_0f7a4_48 rfl ?_
  refine x_bipush (v := 63) dJ6_bitCount_0f7a4_49 rfl ?_
  refine x_iand dJ6_bitCount_0f7a4_51 ?_
  exact x_iret (S := []) dJ6_bitCount_0f7a4_52 rfl rfl ⟨_, rfl, rfl, h⟩
