abbrev p_X8_one_17 (d : Nat) (g : zG) (K : Int32 → zI → Prop) (σ : zI) (l1 : Int32) (s0 : Int32) : Prop := zX mX8_one (d + 1) 0 0 17 [.ref 57, .int l1] [.int s0] g σ (zqI g K)
abbrev p_X8_one_32 (d : Nat) (g : zG) (K : Int32 → zI → Prop) (σ : zI) (l2 : Int32) : Prop := zX mX8_one (d + 1) 0 0 32 [.ref 57, .retAddr 0, .int l2] [] g σ (zqI g K)
abbrev p_X8_one_116 (d : Nat) (g : zG) (K : Int32 → zI → Prop) (σ : zI) (l3 : Int32) : Prop := zX mX8_one (d + 1) 0 0 116 [.ref 57, .retAddr 0, .retAddr 0, .int l3] [] g σ (zqI g K)
set_option maxRecDepth 20000 in
theorem s_X8_one {d : Nat} {g : zG} {σ : zI} {K : Int32 → zI → Prop} (hg : zGA g) {l1 : Int32} (h : (if ((σ 57 15) = 119 : Prop) then zCI mX8_named d [.ref 57] g σ (fun v1 σ1 => p_X8_one_17 d g K σ1 l1 v1) else p_X8_one_17 d g K σ l1 (-1))) : zCI mX8_one (d + 1) [.ref 57, .int l1] g σ K := by
  refine c_of_x pn_mX8_one rfl (Nat.le_of_ble_eq_true rfl) ?_
  change zX _ _ 0 0 0 [.ref 57, .int l1] [] g σ _
  refine x_aload_n dX8_one_0 rfl ?_
  refine x_getI dX8_one_1 fl_X8_133 (gA_57 hg) rfl ?_
  refine x_bipush (v := 119) dX8_one_4 rfl ?_
  refine x_icmp_ne (tgt := 16) dX8_one_6 rfl (fun q1 => ?_) (fun q1 => ?_)
  · replace h := itF q1 h
    refine x_iconst (v := (-1)) dX8_one_16 rfl ?_
    exact h
  · replace h := itT q1 h
    refine x_aload_n dX8_one_9 rfl ?_
    refine x_callV (Y2 := mX8_named) (as := []) (S := []) (kc2 := 0) (ks2 := 0) mv_mX8_named (Or.inl ⟨8, _, rfl, rfl, (gA_57 hg)⟩) dX8_one_10 lk_X8_139 mo_mX8_named rfl rfl (Nat.le_of_ble_eq_true rfl) (Or.inl rfl) rfl rfl h ?_
    rintro _ _ σ1 ⟨v1, rfl, rfl, h⟩
    change zX _ _ 0 0 13 _ [.int v1] _ _ _
    refine x_goto (tgt := 17) dX8_one_13 rfl ?_
    exact h
set_option maxRecDepth 20000 in
theorem s_X8_one_17 {d : Nat} {g : zG} {σ : zI} {K : Int32 → zI → Prop} (hg : zGA g) {l1 : Int32} {s0 : Int32} (h : (if ((σ 57 15) = 48 : Prop) then p_X8_one_32 d g K σ s0 else (if (s0 = (-1) : Prop) then (if (l1 = 0 : Prop) then (if ((σ 57 15) = 45 : Prop) then p_X8_one_116 d g K σ 0 else (if ((σ 57 15) = 40 : Prop) then p_X8_one_116 d g K σ 0 else K 0 σ)) else (if ((σ 57 15) = 119 : Prop) then (if ((σ 57 17) = 10631 : Prop) then p_X8_one_116 d g K σ 1 else (if ((σ 57 15) = 45 : Prop) then p_X8_one_116 d g K σ 0 else (if ((σ 57 15) = 40 : Prop) then p_X8_one_116 d g K σ 0 else K 0 σ))) else (if ((σ 57 15) = 45 : Prop) then p_X8_one_116 d g K σ 0 else (if ((σ 57 15) = 40 : Prop) then p_X8_one_116 d g K σ 0 else K 0 σ)))) else p_X8_one_32 d g K σ s0))) : p_X8_one_17 d g K σ l1 s0 := by
  refine x_istore_n dX8_one_17 rfl (Nat.le_of_ble_eq_true rfl) (L2 := [_, _, _]) rfl ?_
  refine x_aload_n dX8_one_18 rfl ?_
  refine x_getI dX8_one_19 fl_X8_133 (gA_57 hg) rfl ?_
  refine x_bipush (v := 48) dX8_one_22 rfl ?_
  refine x_icmp_eq (tgt := 32) dX8_one_24 rfl (fun q1 => ?_) (fun q1 => ?_)
  · replace h := itT q1 h
    exact x_wk (wC (wJ (wC (wN _)))) h
  · replace h := itF q1 h
    refine x_iload_n dX8_one_27 rfl ?_
    refine x_iconst (v := (-1)) dX8_one_28 rfl ?_
    refine x_icmp_eq (tgt := 65) dX8_one_29 rfl (fun q2 => ?_) (fun q2 => ?_)
    · replace h := itT q2 h
      refine x_iload_n dX8_one_65 rfl ?_
      refine x_if_eq (tgt := 92) dX8_one_66 rfl (fun q3 => ?_) (fun q3 => ?_)
      · replace h := itT q3 h
        refine x_iconst (v := 0) dX8_one_92 rfl ?_
        refine x_istore_n dX8_one_93 rfl (Nat.le_of_ble_eq_true rfl) (L2 := [_, _, _, _]) rfl ?_
        refine x_iload_n dX8_one_94 rfl ?_
        refine x_if_ne (tgt := 116) dX8_one_95 rfl (fun q => absurd (show ¬ (0 : Int32) = (0 : Int32) from q) (by decide)) (fun _ => ?_)
        refine x_aload_n dX8_one_98 rfl ?_
        refine x_getI dX8_one_99 fl_X8_133 (gA_57 hg) rfl ?_
        refine x_bipush (v := 45) dX8_one_102 rfl ?_
        refine x_icmp_eq (tgt := 116) dX8_one_104 rfl (fun q4 => ?_) (fun q4 => ?_)
        · replace h := itT q4 h
          exact x_wk (wC (wJ (wJ (wC (wN _))))) h
        · replace h := itF q4 h
          refine x_aload_n dX8_one_107 rfl ?_
          refine x_getI dX8_one_108 fl_X8_133 (gA_57 hg) rfl ?_
          refine x_bipush (v := 40) dX8_one_111 rfl ?_
          refine x_icmp_ne (tgt := 124) dX8_one_113 rfl (fun q5 => ?_) (fun q5 => ?_)
          · replace h := itF q5 h
            refine x_iconst (v := 0) dX8_one_124 rfl ?_
            exact x_iret (S := []) dX8_one_125 rfl rfl ⟨_, rfl, rfl, h⟩
          · replace h := itT q5 h
            exact x_wk (wC (wJ (wJ (wC (wN _))))) h
      · replace h := itF q3 h
        refine x_aload_n dX8_one_69 rfl ?_
        refine x_getI dX8_one_70 fl_X8_133 (gA_57 hg) rfl ?_
        refine x_bipush (v := 119) dX8_one_73 rfl ?_
        refine x_icmp_ne (tgt := 92) dX8_one_75 rfl (fun q4 => ?_) (fun q4 => ?_)
        · replace h := itF q4 h
          refine x_iconst (v := 0) dX8_one_92 rfl ?_
          refine x_istore_n dX8_one_93 rfl (Nat.le_of_ble_eq_true rfl) (L2 := [_, _, _, _]) rfl ?_
          refine x_iload_n dX8_one_94 rfl ?_
          refine x_if_ne (tgt := 116) dX8_one_95 rfl (fun q => absurd (show ¬ (0 : Int32) = (0 : Int32) from q) (by decide)) (fun _ => ?_)
          refine x_aload_n dX8_one_98 rfl ?_
          refine x_getI dX8_one_99 fl_X8_133 (gA_57 hg) rfl ?_
          refine x_bipush (v := 45) dX8_one_102 rfl ?_
          refine x_icmp_eq (tgt := 116) dX8_one_104 rfl (fun q5 => ?_) (fun q5 => ?_)
          · replace h := itT q5 h
            exact x_wk (wC (wJ (wJ (wC (wN _))))) h
          · replace h := itF q5 h
            refine x_aload_n dX8_one_107 rfl ?_
            refine x_getI dX8_one_108 fl_X8_133 (gA_57 hg) rfl ?_
            refine x_bipush (v := 40) dX8_one_111 rfl ?_
            refine x_icmp_ne (tgt := 124) dX8_one_113 rfl (fun q6 => ?_) (fun q6 => ?_)
            · replace h := itF q6 h
              refine x_iconst (v := 0) dX8_one_124 rfl ?_
              exact x_iret (S := []) dX8_one_125 rfl rfl ⟨_, rfl, rfl, h⟩
            · replace h := itT q6 h
              exact x_wk (wC (wJ (wJ (wC (wN _))))) h
        · replace h := itT q4 h
          refine x_aload_n dX8_one_78 rfl ?_
          refine x_getI dX8_one_79 fl_X8_124 (gA_57 hg) rfl ?_
          refine x_sipush (v := 10631) dX8_one_82 rfl ?_
          refine x_icmp_ne (tgt := 92) dX8_one_85 rfl (fun q5 => ?_) (fun q5 => ?_)
          · replace h := itF q5 h
            refine x_iconst (v := 0) dX8_one_92 rfl ?_
            refine x_istore_n dX8_one_93 rfl (Nat.le_of_ble_eq_true rfl) (L2 := [_, _, _, _]) rfl ?_
            refine x_iload_n dX8_one_94 rfl ?_
            refine x_if_ne (tgt := 116) dX8_one_95 rfl (fun q => absurd (show ¬ (0 : Int32) = (0 : Int32) from q) (by decide)) (fun _ => ?_)
            refine x_aload_n dX8_one_98 rfl ?_
            refine x_getI dX8_one_99 fl_X8_133 (gA_57 hg) rfl ?_
            refine x_bipush (v := 45) dX8_one_102 rfl ?_
            refine x_icmp_eq (tgt := 116) dX8_one_104 rfl (fun q6 => ?_) (fun q6 => ?_)
            · replace h := itT q6 h
              exact x_wk (wC (wJ (wJ (wC (wN _))))) h
            · replace h := itF q6 h
              refine x_aload_n dX8_one_107 rfl ?_
              refine x_getI dX8_one_108 fl_X8_133 (gA_57 hg) rfl ?_
              refine x_bipush (v := 40) dX8_one_111 rfl ?_
              refine x_icmp_ne (tgt := 124) dX8_one_113 rfl (fun q7 => ?_) (fun q7 => ?_)
              · replace h := itF q7 h
                refine x_iconst (v := 0) dX8_one_124 rfl ?_
                exact x_iret (S := []) dX8_one_125 rfl rfl ⟨_, rfl, rfl, h⟩
              · replace h := itT q7 h
                exact x_wk (wC (wJ (wJ (wC (wN _))))) h
          · replace h := itT q5 h
            refine x_iconst (v := 1) dX8_one_88 rfl ?_
            refine x_goto (tgt := 93) dX8_one_89 rfl ?_
            refine x_istore_n dX8_one_93 rfl (Nat.le_of_ble_eq_true rfl) (L2 := [_, _, _, _]) rfl ?_
            refine x_iload_n dX8_one_94 rfl ?_
            refine x_if_ne (tgt := 116) dX8_one_95 rfl (fun _ => ?_) (fun q => absurd (show (1 : Int32) = (0 : Int32) from q) (by decide))
            exact x_wk (wC (wJ (wJ (wC (wN _))))) h
    · replace h := itF q2 h
      exact x_wk (wC (wJ (wC (wN _)))) h
set_option maxRecDepth 20000 in
theorem s_X8_one_32 {d : Nat} {g : zG} {σ : zI} {K : Int32 → zI → Prop} (hg : zGA g) {l2 : Int32} (h : (if (l2 = (-1) : Prop) then zCV mX8_codes d [.ref 57, .int (15 + (σ 57 16))] g σ (fun σ1 => zCV mX8_lays d [.ref 57, .int 7] g σ1 (fun σ2 => K 1 (zsI σ2 57 22 1))) else zCV mX8_codes d [.ref 57, .int l2] g σ (fun σ1 => zCV mX8_lays d [.ref 57, .int 7] g σ1 (fun σ2 => K 1 (zsI σ2 57 22 1))))) : p_X8_one_32 d g K σ l2 := by
  refine x_aload_n dX8_one_32 rfl ?_
  refine x_iload_n dX8_one_33 rfl ?_
  refine x_iconst (v := (-1)) dX8_one_34 rfl ?_
  refine x_icmp_ne (tgt := 48) dX8_one_35 rfl (fun q1 => ?_) (fun q1 => ?_)
  · replace h := itF q1 h
    refine x_iload_n dX8_one_48 rfl ?_
    refine x_callV (Y2 := mX8_codes) (as := [.int l2]) (S := []) (kc2 := 0) (ks2 := 0) mv_mX8_codes (Or.inl ⟨8, _, rfl, rfl, (gA_57 hg)⟩) dX8_one_49 lk_X8_74 mo_mX8_codes rfl rfl (Nat.le_of_ble_eq_true rfl) (Or.inl rfl) rfl rfl h ?_
    rintro _ _ σ1 ⟨rfl, rfl, h⟩
    change zX _ _ 0 0 52 _ [] _ _ _
    refine x_aload_n dX8_one_52 rfl ?_
    refine x_bipush (v := 7) dX8_one_53 rfl ?_
    refine x_callV (Y2 := mX8_lays) (as := [.int 7]) (S := []) (kc2 := 0) (ks2 := 0) mv_mX8_lays (Or.inl ⟨8, _, rfl, rfl, (gA_57 hg)⟩) dX8_one_55 lk_X8_171 mo_mX8_lays rfl rfl (Nat.le_of_ble_eq_true rfl) (Or.inl rfl) rfl rfl h ?_
    rintro _ _ σ2 ⟨rfl, rfl, h⟩
    change zX _ _ 0 0 58 _ [] _ _ _
    refine x_aload_n dX8_one_58 rfl ?_
    refine x_iconst (v := 1) dX8_one_59 rfl ?_
    refine x_putZ dX8_one_60 fl_X8_174 (gA_57 hg) rfl rfl (Or.inr rfl) ?_
    refine x_iconst (v := 1) dX8_one_63 rfl ?_
    exact x_iret (S := []) dX8_one_64 rfl rfl ⟨_, rfl, rfl, h⟩
  · replace h := itT q1 h
    refine x_bipush (v := 15) dX8_one_38 rfl ?_
    refine x_aload_n dX8_one_40 rfl ?_
    refine x_getI dX8_one_41 fl_X8_150 (gA_57 hg) rfl ?_
    refine x_iadd dX8_one_44 ?_
    refine x_goto (tgt := 49) dX8_one_45 rfl ?_
    refine x_callV (Y2 := mX8_codes) (as := [.int (15 + (σ 57 16))]) (S := []) (kc2 := 0) (ks2 := 0) mv_mX8_codes (Or.inl ⟨8, _, rfl, rfl, (gA_57 hg)⟩) dX8_one_49 lk_X8_74 mo_mX8_codes rfl rfl (Nat.le_of_ble_eq_true rfl) (Or.inl rfl) rfl rfl h ?_
    rintro _ _ σ1 ⟨rfl, rfl, h⟩
    change zX _ _ 0 0 52 _ [] _ _ _
    refine x_aload_n dX8_one_52 rfl ?_
    refine x_bipush (v := 7) dX8_one_53 rfl ?_
    refine x_callV (Y2 := mX8_lays) (as := [.int 7]) (S := []) (kc2 := 0) (ks2 := 0) mv_mX8_lays (Or.inl ⟨8, _, rfl, rfl, (gA_57 hg)⟩) dX8_one_55 lk_X8_171 mo_mX8_lays rfl rfl (Nat.le_of_ble_eq_true rfl) (Or.inl rfl) rfl rfl h ?_
    rintro _ _ σ2 ⟨rfl, rfl, h⟩
    change zX _ _ 0 0 58 _ [] _ _ _
    refine x_aload_n dX8_one_58 rfl ?_
    refine x_iconst (v := 1) dX8_one_59 rfl ?_
    refine x_putZ dX8_one_60 fl_X8_174 (gA_57 hg) rfl rfl (Or.inr rfl) ?_
    refine x_iconst (v := 1) dX8_one_63 rfl ?_
    exact x_iret (S := []) dX8_one_64 rfl rfl ⟨_, rfl, rfl, h⟩
set_option maxRecDepth 20000 in
theorem s_X8_one_116 {d : Nat} {g : zG} {σ : zI} {K : Int32 → zI → Prop} (hg : zGA g) {l3 : Int32} (h : (if ((σ 57 20) = 5 : Prop) then K 0 σ else (if ((σ 57 15) = 40 : Prop) then (if ((σ 57 21) = 0 : Prop) then zCV mX8_push d [.ref 57, .int (-1)] g σ (fun σ1 => (if ((σ1 57 15) = 45 : Prop) then K 1 (zsI (zsI σ1 57 21 0) 57 23 0) else K 1 (zsI (zsI σ1 57 21 0) 57 23 1))) else zCV mX8_push d [.ref 57, .int (-2)] g σ (fun σ1 => (if ((σ1 57 15) = 45 : Prop) then K 1 (zsI (zsI σ1 57 21 0) 57 23 0) else K 1 (zsI (zsI σ1 57 21 0) 57 23 1)))) else (if (l3 = 0 : Prop) then zCV mX8_push d [.ref 57, .int 14] g σ (fun σ1 => (if ((σ1 57 15) = 45 : Prop) then K 1 (zsI σ1 57 23 0) else K 1 (zsI σ1 57 23 1))) else zCV mX8_push d [.ref 57, .int 13] g σ (fun σ1 => (if ((σ1 57 15) = 45 : Prop) then K 1 (zsI σ1 57 23 0) else K 1 (zsI σ1 57 23 1))))))) : p_X8_one_116 d g K σ l3 := by
  refine x_aload_n dX8_one_116 rfl ?_
  refine x_getI dX8_one_117 fl_X8_168 (gA_57 hg) rfl ?_
  refine x_iconst (v := 5) dX8_one_120 rfl ?_
  refine x_icmp_ne (tgt := 126) dX8_one_121 rfl (fun q1 => ?_) (fun q1 => ?_)
  · replace h := itF q1 h
    refine x_aload_n dX8_one_126 rfl ?_
    refine x_getI dX8_one_127 fl_X8_133 (gA_57 hg) rfl ?_
    refine x_bipush (v := 40) dX8_one_130 rfl ?_
    refine x_icmp_ne (tgt := 160) dX8_one_132 rfl (fun q2 => ?_) (fun q2 => ?_)
    · replace h := itF q2 h
      refine x_aload_n dX8_one_160 rfl ?_
      refine x_iload_n dX8_one_161 rfl ?_
      refine x_if_eq (tgt := 170) dX8_one_162 rfl (fun q3 => ?_) (fun q3 => ?_)
      · replace h := itT q3 h
        refine x_bipush (v := 14) dX8_one_170 rfl ?_
        refine x_callV (Y2 := mX8_push) (as := [.int 14]) (S := []) (kc2 := 0) (ks2 := 0) mv_mX8_push (Or.inl ⟨8, _, rfl, rfl, (gA_57 hg)⟩) dX8_one_172 lk_X8_181 mo_mX8_push rfl rfl (Nat.le_of_ble_eq_true rfl) (Or.inl rfl) rfl rfl h ?_
        rintro _ _ σ1 ⟨rfl, rfl, h⟩
        change zX _ _ 0 0 175 _ [] _ _ _
        refine x_aload_n dX8_one_175 rfl ?_
        refine x_aload_n dX8_one_176 rfl ?_
        refine x_getI dX8_one_177 fl_X8_133 (gA_57 hg) rfl ?_
        refine x_bipush (v := 45) dX8_one_180 rfl ?_
        refine x_icmp_eq (tgt := 189) dX8_one_182 rfl (fun q4 => ?_) (fun q4 => ?_)
        · replace h := itT q4 h
          refine x_iconst (v := 0) dX8_one_189 rfl ?_
          refine x_putZ dX8_one_190 fl_X8_184 (gA_57 hg) rfl rfl (Or.inl rfl) ?_
          refine x_iconst (v := 1) dX8_one_193 rfl ?_
          exact x_iret (S := []) dX8_one_194 rfl rfl ⟨_, rfl, rfl, h⟩
        · replace h := itF q4 h
          refine x_iconst (v := 1) dX8_one_185 rfl ?_
          refine x_goto (tgt := 190) dX8_one_186 rfl ?_
          refine x_putZ dX8_one_190 fl_X8_184 (gA_57 hg) rfl rfl (Or.inr rfl) ?_
          refine x_iconst (v := 1) dX8_one_193 rfl ?_
          exact x_iret (S := []) dX8_one_194 rfl rfl ⟨_, rfl, rfl, h⟩
      · replace h := itF q3 h
        refine x_bipush (v := 13) dX8_one_165 rfl ?_
        refine x_goto (tgt := 172) dX8_one_167 rfl ?_
        refine x_callV (Y2 := mX8_push) (as := [.int 13]) (S := []) (kc2 := 0) (ks2 := 0) mv_mX8_push (Or.inl ⟨8, _, rfl, rfl, (gA_57 hg)⟩) dX8_one_172 lk_X8_181 mo_mX8_push rfl rfl (Nat.le_of_ble_eq_true rfl) (Or.inl rfl) rfl rfl h ?_
        rintro _ _ σ1 ⟨rfl, rfl, h⟩
        change zX _ _ 0 0 175 _ [] _ _ _
        refine x_aload_n dX8_one_175 rfl ?_
        refine x_aload_n dX8_one_176 rfl ?_
        refine x_getI dX8_one_177 fl_X8_133 (gA_57 hg) rfl ?_
        refine x_bipush (v := 45) dX8_one_180 rfl ?_
        refine x_icmp_eq (tgt := 189) dX8_one_182 rfl (fun q4 => ?_) (fun q4 => ?_)
        · replace h := itT q4 h
          refine x_iconst (v := 0) dX8_one_189 rfl ?_
          refine x_putZ dX8_one_190 fl_X8_184 (gA_57 hg) rfl rfl (Or.inl rfl) ?_
          refine x_iconst (v := 1) dX8_one_193 rfl ?_
          exact x_iret (S := []) dX8_one_194 rfl rfl ⟨_, rfl, rfl, h⟩
        · replace h := itF q4 h
          refine x_iconst (v := 1) dX8_one_185 rfl ?_
          refine x_goto (tgt := 190) dX8_one_186 rfl ?_
          refine x_putZ dX8_one_190 fl_X8_184 (gA_57 hg) rfl rfl (Or.inr rfl) ?_
          refine x_iconst (v := 1) dX8_one_193 rfl ?_
          exact x_iret (S := []) dX8_one_194 rfl rfl ⟨_, rfl, rfl, h⟩
    · replace h := itT q2 h
      refine x_aload_n dX8_one_135 rfl ?_
      refine x_aload_n dX8_one_136 rfl ?_
      refine x_getI dX8_one_137 fl_X8_178 (gA_57 hg) rfl ?_
      refine x_if_eq (tgt := 148) dX8_one_140 rfl (fun q3 => ?_) (fun q3 => ?_)
      · replace h := itT q3 h
        refine x_iconst (v := (-1)) dX8_one_148 rfl ?_
        refine x_callV (Y2 := mX8_push) (as := [.int (-1)]) (S := []) (kc2 := 0) (ks2 := 0) mv_mX8_push (Or.inl ⟨8, _, rfl, rfl, (gA_57 hg)⟩) dX8_one_149 lk_X8_181 mo_mX8_push rfl rfl (Nat.le_of_ble_eq_true rfl) (Or.inl rfl) rfl rfl h ?_
        rintro _ _ σ1 ⟨rfl, rfl, h⟩
        change zX _ _ 0 0 152 _ [] _ _ _
        refine x_aload_n dX8_one_152 rfl ?_
        refine x_iconst (v := 0) dX8_one_153 rfl ?_
        refine x_putZ dX8_one_154 fl_X8_178 (gA_57 hg) rfl rfl (Or.inl rfl) ?_
        refine x_goto (tgt := 175) dX8_one_157 rfl ?_
        refine x_aload_n dX8_one_175 rfl ?_
        refine x_aload_n dX8_one_176 rfl ?_
        refine x_getI dX8_one_177 fl_X8_133 (gA_57 hg) rfl ?_
        refine x_bipush (v := 45) dX8_one_180 rfl ?_
        refine x_icmp_eq (tgt := 189) dX8_one_182 rfl (fun q4 => ?_) (fun q4 => ?_)
        · replace h := itT q4 h
          refine x_iconst (v := 0) dX8_one_189 rfl ?_
          refine x_putZ dX8_one_190 fl_X8_184 (gA_57 hg) rfl rfl (Or.inl rfl) ?_
          refine x_iconst (v := 1) dX8_one_193 rfl ?_
          exact x_iret (S := []) dX8_one_194 rfl rfl ⟨_, rfl, rfl, h⟩
        · replace h := itF q4 h
          refine x_iconst (v := 1) dX8_one_185 rfl ?_
          refine x_goto (tgt := 190) dX8_one_186 rfl ?_
          refine x_putZ dX8_one_190 fl_X8_184 (gA_57 hg) rfl rfl (Or.inr rfl) ?_
          refine x_iconst (v := 1) dX8_one_193 rfl ?_
          exact x_iret (S := []) dX8_one_194 rfl rfl ⟨_, rfl, rfl, h⟩
      · replace h := itF q3 h
        refine x_bipush (v := (-2)) dX8_one_143 rfl ?_
        refine x_goto (tgt := 149) dX8_one_145 rfl ?_
        refine x_callV (Y2 := mX8_push) (as := [.int (-2)]) (S := []) (kc2 := 0) (ks2 := 0) mv_mX8_push (Or.inl ⟨8, _, rfl, rfl, (gA_57 hg)⟩) dX8_one_149 lk_X8_181 mo_mX8_push rfl rfl (Nat.le_of_ble_eq_true rfl) (Or.inl rfl) rfl rfl h ?_
        rintro _ _ σ1 ⟨rfl, rfl, h⟩
        change zX _ _ 0 0 152 _ [] _ _ _
        refine x_aload_n dX8_one_152 rfl ?_
        refine x_iconst (v := 0) dX8_one_153 rfl ?_
        refine x_putZ dX8_one_154 fl_X8_178 (gA_57 hg) rfl rfl (Or.inl rfl) ?_
        refine x_goto (tgt := 175) dX8_one_157 rfl ?_
        refine x_aload_n dX8_one_175 rfl ?_
        refine x_aload_n dX8_one_176 rfl ?_
        refine x_getI dX8_one_177 fl_X8_133 (gA_57 hg) rfl ?_
        refine x_bipush (v := 45) dX8_one_180 rfl ?_
        refine x_icmp_eq (tgt := 189) dX8_one_182 rfl (fun q4 => ?_) (fun q4 => ?_)
        · replace h := itT q4 h
          refine x_iconst (v := 0) dX8_one_189 rfl ?_
          refine x_putZ dX8_one_190 fl_X8_184 (gA_57 hg) rfl rfl (Or.inl rfl) ?_
          refine x_iconst (v := 1) dX8_one_193 rfl ?_
          exact x_iret (S := []) dX8_one_194 rfl rfl ⟨_, rfl, rfl, h⟩
        · replace h := itF q4 h
          refine x_iconst (v := 1) dX8_one_185 rfl ?_
          refine x_goto (tgt := 190) dX8_one_186 rfl ?_
          refine x_putZ dX8_one_190 fl_X8_184 (gA_57 hg) rfl rfl (Or.inr rfl) ?_
          refine x_iconst (v := 1) dX8_one_193 rfl ?_
          exact x_iret (S := []) dX8_one_194 rfl rfl ⟨_, rfl, rfl, h⟩
  · replace h := itT q1 h
    refine x_iconst (v := 0) dX8_one_124 rfl ?_
    exact x_iret (S := []) dX8_one_125 rfl rfl ⟨_, rfl, rfl, h⟩
abbrev p_X8_lays_0 (d : Nat) (g : zG) (K : zI → Prop) (σ : zI) (l1 : Int32) : Prop := zX mX8_lays (d + 1) 0 0 0 [.ref 57, .int l1] [] g σ (zqV g K)
set_option maxRecDepth 20000 in
theorem s_X8_lays {d : Nat} {g : zG} {σ : zI} {K : zI → Prop} (hg : zGA g) {l1 : Int32} (h : (if ((σ 57 19) ≤ 0 : Prop) then K σ else vp_in ((σ 57 19) - 1) 200 ∧ zCI mX8_rank d [.int (σ 65 (((σ 57 19) - 1 : Int32).toNatClampNeg))] g σ (fun v1 σ1 => (if (v1 < l1 : Prop) then K σ1 else vp_in ((σ1 57 19) - 1) 200 ∧ zCV mX8_codes d [.ref 57, .int (σ1 65 (((σ1 57 19) - 1 : Int32).toNatClampNeg))] g (zsI σ1 57 19 ((σ1 57 19) - 1)) (fun σ2 => vp_in (σ2 57 19) 200 ∧ (if ((σ2 65 ((σ2 57 19 : Int32).toNatClampNeg)) = 13 : Prop) then p_X8_lays_0 d g K (zsI σ2 57 20 ((σ2 57 20) - 1)) l1 else vp_in (σ2 57 19) 200 ∧ (if ((σ2 65 ((σ2 57 19 : Int32).toNatClampNeg)) = 14 : Prop) then p_X8_lays_0 d g K (zsI σ2 57 20 ((σ2 57 20) - 1)) l1 else p_X8_lays_0 d g K σ2 l1))))))) : zCV mX8_lays (d + 1) [.ref 57, .int l1] g σ K := by
  refine c_of_x pn_mX8_lays rfl (Nat.le_of_ble_eq_true rfl) ?_
  change zX _ _ 0 0 0 [.ref 57, .int l1] [] g σ _
  refine x_aload_n dX8_lays_0 rfl ?_
  refine x_getI dX8_lays_1 fl_X8_162 (gA_57 hg) rfl ?_
  refine x_if_le (tgt := 89) dX8_lays_4 rfl (fun q1 => ?_) (fun q1 => ?_)
  · replace h := itT q1 h
    exact x_vret (S := []) dX8_lays_89 rfl ⟨rfl, rfl, h⟩
  · replace h := itF q1 h
    refine x_aload_n dX8_lays_7 rfl ?_
    refine x_getR dX8_lays_8 fl_X8_31 (gA_57 hg) rfl (gA_57_18 hg) ?_
    refine x_aload_n dX8_lays_11 rfl ?_
    refine x_getI dX8_lays_12 fl_X8_162 (gA_57 hg) rfl ?_
    refine x_iconst (v := 1) dX8_lays_15 rfl ?_
    refine x_isub dX8_lays_16 ?_
    obtain ⟨q2, h⟩ := h
    refine x_iald dX8_lays_17 (gA_65 hg) q2 ?_
    refine x_callS (Y2 := mX8_rank) (as := [.int (σ 65 (((σ 57 19) - 1 : Int32).toNatClampNeg))]) (S := []) (kc2 := 0) (ks2 := 0) st_mX8_rank dX8_lays_18 lk_X8_165 mo_mX8_rank rfl rfl (Nat.le_of_ble_eq_true rfl) (Or.inl rfl) rfl rfl h ?_
    rintro _ _ σ1 ⟨v1, rfl, rfl, h⟩
    change zX _ _ 0 0 21 _ [.int v1] _ _ _
    refine x_iload_n dX8_lays_21 rfl ?_
    refine x_icmp_lt (tgt := 89) dX8_lays_22 rfl (fun q3 => ?_) (fun q3 => ?_)
    · replace h := itT q3 h
      exact x_vret (S := []) dX8_lays_89 rfl ⟨rfl, rfl, h⟩
    · replace h := itF q3 h
      refine x_aload_n dX8_lays_25 rfl ?_
      refine x_dup dX8_lays_26 rfl ?_
      refine x_getI dX8_lays_27 fl_X8_162 (gA_57 hg) rfl ?_
      refine x_iconst (v := 1) dX8_lays_30 rfl ?_
      refine x_isub dX8_lays_31 ?_
      refine x_putI dX8_lays_32 fl_X8_162 (gA_57 hg) rfl rfl ?_
      refine x_aload_n dX8_lays_35 rfl ?_
      refine x_aload_n dX8_lays_36 rfl ?_
      refine x_getR dX8_lays_37 fl_X8_31 (gA_57 hg) rfl (gA_57_18 hg) ?_
      refine x_aload_n dX8_lays_40 rfl ?_
      refine x_getI dX8_lays_41 fl_X8_162 (gA_57 hg) rfl ?_
      obtain ⟨q4, h⟩ := h
      refine x_iald dX8_lays_44 (gA_65 hg) q4 ?_
      refine x_callV (Y2 := mX8_codes) (as := [.int (σ1 65 (((σ1 57 19) - 1 : Int32).toNatClampNeg))]) (S := []) (kc2 := 0) (ks2 := 0) mv_mX8_codes (Or.inl ⟨8, _, rfl, rfl, (gA_57 hg)⟩) dX8_lays_45 lk_X8_74 mo_mX8_codes rfl rfl (Nat.le_of_ble_eq_true rfl) (Or.inl rfl) rfl rfl h ?_
      rintro _ _ σ2 ⟨rfl, rfl, h⟩
      change zX _ _ 0 0 48 _ [] _ _ _
      refine x_aload_n dX8_lays_48 rfl ?_
      refine x_getR dX8_lays_49 fl_X8_31 (gA_57 hg) rfl (gA_57_18 hg) ?_
      refine x_aload_n dX8_lays_52 rfl ?_
      refine x_getI dX8_lays_53 fl_X8_162 (gA_57 hg) rfl ?_
      obtain ⟨q5, h⟩ := h
      refine x_iald dX8_lays_56 (gA_65 hg) q5 ?_
      refine x_bipush (v := 13) dX8_lays_57 rfl ?_
      refine x_icmp_eq (tgt := 76) dX8_lays_59 rfl (fun q6 => ?_) (fun q6 => ?_)
      · replace h := itT q6 h
        refine x_aload_n dX8_lays_76 rfl ?_
        refine x_dup dX8_lays_77 rfl ?_
        refine x_getI dX8_lays_78 fl_X8_168 (gA_57 hg) rfl ?_
        refine x_iconst (v := 1) dX8_lays_81 rfl ?_
        refine x_isub dX8_lays_82 ?_
        refine x_putI dX8_lays_83 fl_X8_168 (gA_57 hg) rfl rfl ?_
        refine x_goto (tgt := 0) dX8_lays_86 rfl ?_
        exact h
      · replace h := itF q6 h
        refine x_aload_n dX8_lays_62 rfl ?_
        refine x_getR dX8_lays_63 fl_X8_31 (gA_57 hg) rfl (gA_57_18 hg) ?_
        refine x_aload_n dX8_lays_66 rfl ?_
        refine x_getI dX8_lays_67 fl_X8_162 (gA_57 hg) rfl ?_
        obtain ⟨q7, h⟩ := h
        refine x_iald dX8_lays_70 (gA_65 hg) q7 ?_
        refine x_bipush (v := 14) dX8_lays_71 rfl ?_
        refine x_icmp_ne (tgt := 0) dX8_lays_73 rfl (fun q8 => ?_) (fun q8 => ?_)
        · replace h := itF q8 h
          exact h
        · replace h := itT q8 h
          refine x_aload_n dX8_lays_76 rfl ?_
          refine x_dup dX8_lays_77 rfl ?_
          refine x_getI dX8_lays_78 fl_X8_168 (gA_57 hg) rfl ?_
          refine x_iconst (v := 1) dX8_lays_81 rfl ?_
          refine x_isub dX8_lays_82 ?_
          refine x_putI dX8_lays_83 fl_X8_168 (gA_57 hg) rfl rfl ?_
          refine x_goto (tgt := 0) dX8_lays_86 rfl ?_
          exact h
set_option maxRecDepth 20000 in
theorem s_X8_lays_0 {d : Nat} {g : zG} {σ : zI} {K : zI → Prop} (hg : zGA g) {l1 : Int32} (h : (if ((σ 57 19) ≤ 0 : Prop) then K σ else vp_in ((σ 57 19) - 1) 200 ∧ zCI mX8_rank d [.int (σ 65 (((σ 57 19) - 1 : Int32).toNatClampNeg))] g σ (fun v1 σ1 => (if (v1 < l1 : Prop) then K σ1 else vp_in ((σ1 57 19) - 1) 200 ∧ zCV mX8_codes d [.ref 57, .int (σ1 65 (((σ1 57 19) - 1 : Int32).toNatClampNeg))] g (zsI σ1 57 19 ((σ1 57 19) - 1)) (fun σ2 => vp_in (σ2 57 19) 200 ∧ (if ((σ2 65 ((σ2 57 19 : Int32).toNatClampNeg)) = 13 : Prop) then p_X8_lays_0 d g K (zsI σ2 57 20 ((σ2 57 20) - 1)) l1 else vp_in (σ2 57 19) 200 ∧ (if ((σ2 65 ((σ2 57 19 : Int32).toNatClampNeg)) = 14 : Prop) then p_X8_lays_0 d g K (zsI σ2 57 20 ((σ2 57 20) - 1)) l1 else p_X8_lays_0 d g K σ2 l1))))))) : p_X8_lays_0 d g K σ l1 := by
  refine x_aload_n dX8_lays_0 rfl ?_
  refine x_getI dX8_lays_1 fl_X8_162 (gA_57 hg) rfl ?_
  refine x_if_le (tgt := 89) dX8_lays_4 rfl (fun q1 => ?_) (fun q1 => ?_)
  · replace h := itT q1 h
    exact x_vret (S := []) dX8_lays_89 rfl ⟨rfl, rfl, h⟩
  · replace h := itF q1 h
    refine x_aload_n dX8_lays_7 rfl ?_
    refine x_getR dX8_lays_8 fl_X8_31 (gA_57 hg) rfl (gA_57_18 hg) ?_
    refine x_aload_n dX8_lays_11 rfl ?_
    refine x_getI dX8_lays_12 fl_X8_162 (gA_57 hg) rfl ?_
    refine x_iconst (v := 1) dX8_lays_15 rfl ?_
    refine x_isub dX8_lays_16 ?_
    obtain ⟨q2, h⟩ := h
    refine x_iald dX8_lays_17 (gA_65 hg) q2 ?_
    refine x_callS (Y2 := mX8_rank) (as := [.int (σ 65 (((σ 57 19) - 1 : Int32).toNatClampNeg))]) (S := []) (kc2 := 0) (ks2 := 0) st_mX8_rank dX8_lays_18 lk_X8_165 mo_mX8_rank rfl rfl (Nat.le_of_ble_eq_true rfl) (Or.inl rfl) rfl rfl h ?_
    rintro _ _ σ1 ⟨v1, rfl, rfl, h⟩
    change zX _ _ 0 0 21 _ [.int v1] _ _ _
    refine x_iload_n dX8_lays_21 rfl ?_
    refine x_icmp_lt (tgt := 89) dX8_lays_22 rfl (fun q3 => ?_) (fun q3 => ?_)
    · replace h := itT q3 h
      exact x_vret (S := []) dX8_lays_89 rfl ⟨rfl, rfl, h⟩
    · replace h := itF q3 h
      refine x_aload_n dX8_lays_25 rfl ?_
      refine x_dup dX8_lays_26 rfl ?_
      refine x_getI dX8_lays_27 fl_X8_162 (gA_57 hg) rfl ?_
      refine x_iconst (v := 1) dX8_lays_30 rfl ?_
      refine x_isub dX8_lays_31 ?_
      refine x_putI dX8_lays_32 fl_X8_162 (gA_57 hg) rfl rfl ?_
      refine x_aload_n dX8_lays_35 rfl ?_
      refine x_aload_n dX8_lays_36 rfl ?_
      refine x_getR dX8_lays_37 fl_X8_31 (gA_57 hg) rfl (gA_57_18 hg) ?_
      refine x_aload_n dX8_lays_40 rfl ?_
      refine x_getI dX8_lays_41 fl_X8_162 (gA_57 hg) rfl ?_
      obtain ⟨q4, h⟩ := h
      refine x_iald dX8_lays_44 (gA_65 hg) q4 ?_
      refine x_callV (Y2 := mX8_codes) (as := [.int (σ1 65 (((σ1 57 19) - 1 : Int32).toNatClampNeg))]) (S := []) (kc2 := 0) (ks2 := 0) mv_mX8_codes (Or.inl ⟨8, _, rfl, rfl, (gA_57 hg)⟩) dX8_lays_45 lk_X8_74 mo_mX8_codes rfl rfl (Nat.le_of_ble_eq_true rfl) (Or.inl rfl) rfl rfl h ?_
      rintro _ _ σ2 ⟨rfl, rfl, h⟩
      change zX _ _ 0 0 48 _ [] _ _ _
      refine x_aload_n dX8_lays_48 rfl ?_
      refine x_getR dX8_lays_49 fl_X8_31 (gA_57 hg) rfl (gA_57_18 hg) ?_
      refine x_aload_n dX8_lays_52 rfl ?_
      refine x_getI dX8_lays_53 fl_X8_162 (gA_57 hg) rfl ?_
      obtain ⟨q5, h⟩ := h
      refine x_iald dX8_lays_56 (gA_65 hg) q5 ?_
      refine x_bipush (v := 13) dX8_lays_57 rfl ?_
      refine x_icmp_eq (tgt := 76) dX8_lays_59 rfl (fun q6 => ?_) (fun q6 => ?_)
      · replace h := itT q6 h
        refine x_aload_n dX8_lays_76 rfl ?_
        refine x_dup dX8_lays_77 rfl ?_
        refine x_getI dX8_lays_78 fl_X8_168 (gA_57 hg) rfl ?_
        refine x_iconst (v := 1) dX8_lays_81 rfl ?_
        refine x_isub dX8_lays_82 ?_
        refine x_putI dX8_lays_83 fl_X8_168 (gA_57 hg) rfl rfl ?_
        refine x_goto (tgt := 0) dX8_lays_86 rfl ?_
        exact h
      · replace h := itF q6 h
        refine x_aload_n dX8_lays_62 rfl ?_
        refine x_getR dX8_lays_63 fl_X8_31 (gA_57 hg) rfl (gA_57_18 hg) ?_
        refine x_aload_n dX8_lays_66 rfl ?_
        refine x_getI dX8_lays_67 fl_X8_162 (gA_57 hg) rfl ?_
        obtain ⟨q7, h⟩ := h
        refine x_iald dX8_lays_70 (gA_65 hg) q7 ?_
        refine x_bipush (v := 14) dX8_lays_71 rfl ?_
        refine x_icmp_ne (tgt := 0) dX8_lays_73 rfl (fun q8 => ?_) (fun q8 => ?_)
        · replace h := itF q8 h
          exact h
        · replace h := itT q8 h
          refine x_aload_n dX8_lays_76 rfl ?_
          refine x_dup dX8_lays_77 rfl ?_
          refine x_getI dX8_lays_78 fl_X8_168 (gA_57 hg) rfl ?_
          refine x_iconst (v := 1) dX8_lays_81 rfl ?_
          refine x_isub dX8_lays_82 ?_
          refine x_putI dX8_lays_83 fl_X8_168 (gA_57 hg) rfl rfl ?_
          refine x_goto (tgt := 0) dX8_lays_86 rfl ?_
          exact h
set_option maxRecDepth 20000 in
theorem s_X8_rank {d : Nat} {g : zG} {σ : zI} {K : Int32 → zI → Prop} (hg : zGA g) {l0 : Int32} (h : (if (l0 = 6 : Prop) then K 5 σ else (if (l0 = 7 : Prop) then K 5 σ else (if (l0 = 8 : Prop) then K 6 σ else (if (l0 = 9 : Prop) then K 4 σ else (if (l0 = 10 : Prop) then K 4 σ else (if (l0 = 11 : Prop) then K 2 σ else (if (l0 = 12 : Prop) then K 1 σ else (if (l0 = 13 : Prop) then K 3 σ else (if (l0 = 14 : Prop) then K 7 σ else K 0 σ)))))))))) : zCI mX8_rank d [.int l0] g σ K := by
  refine c_of_x pn_mX8_rank rfl (Nat.le_of_ble_eq_true rfl) ?_
  change zX _ _ 0 0 0 [.int l0] [] g σ _
  refine x_iload_n dX8_rank_0 rfl ?_
  by_cases q1 : l0 = 6
  · refine x_tsw (tgt := 60) dX8_rank_1 (by rw [q1]; decide) (by rw [q1]; decide) (by rw [q1]; rfl) rfl ?_
    replace h := itT q1 h
    refine x_iconst (v := 5) dX8_rank_60 rfl ?_
    exact x_iret (S := []) dX8_rank_61 rfl rfl ⟨_, rfl, rfl, h⟩
  · replace h := itF q1 h
    by_cases q2 : l0 = 7
    · refine x_tsw (tgt := 60) dX8_rank_1 (by rw [q2]; decide) (by rw [q2]; decide) (by rw [q2]; rfl) rfl ?_
      replace h := itT q2 h
      refine x_iconst (v := 5) dX8_rank_60 rfl ?_
      exact x_iret (S := []) dX8_rank_61 rfl rfl ⟨_, rfl, rfl, h⟩
    · replace h := itF q2 h
      by_cases q3 : l0 = 8
      · refine x_tsw (tgt := 62) dX8_rank_1 (by rw [q3]; decide) (by rw [q3]; decide) (by rw [q3]; rfl) rfl ?_
        replace h := itT q3 h
        refine x_bipush (v := 6) dX8_rank_62 rfl ?_
        exact x_iret (S := []) dX8_rank_64 rfl rfl ⟨_, rfl, rfl, h⟩
      · replace h := itF q3 h
        by_cases q4 : l0 = 9
        · refine x_tsw (tgt := 58) dX8_rank_1 (by rw [q4]; decide) (by rw [q4]; decide) (by rw [q4]; rfl) rfl ?_
          replace h := itT q4 h
          refine x_iconst (v := 4) dX8_rank_58 rfl ?_
          exact x_iret (S := []) dX8_rank_59 rfl rfl ⟨_, rfl, rfl, h⟩
        · replace h := itF q4 h
          by_cases q5 : l0 = 10
          · refine x_tsw (tgt := 58) dX8_rank_1 (by rw [q5]; decide) (by rw [q5]; decide) (by rw [q5]; rfl) rfl ?_
            replace h := itT q5 h
            refine x_iconst (v := 4) dX8_rank_58 rfl ?_
            exact x_iret (S := []) dX8_rank_59 rfl rfl ⟨_, rfl, rfl, h⟩
          · replace h := itF q5 h
            by_cases q6 : l0 = 11
            · refine x_tsw (tgt := 54) dX8_rank_1 (by rw [q6]; decide) (by rw [q6]; decide) (by rw [q6]; rfl) rfl ?_
              replace h := itT q6 h
              refine x_iconst (v := 2) dX8_rank_54 rfl ?_
              exact x_iret (S := []) dX8_rank_55 rfl rfl ⟨_, rfl, rfl, h⟩
            · replace h := itF q6 h
              by_cases q7 : l0 = 12
              · refine x_tsw (tgt := 52) dX8_rank_1 (by rw [q7]; decide) (by rw [q7]; decide) (by rw [q7]; rfl) rfl ?_
                replace h := itT q7 h
                refine x_iconst (v := 1) dX8_rank_52 rfl ?_
                exact x_iret (S := []) dX8_rank_53 rfl rfl ⟨_, rfl, rfl, h⟩
              · replace h := itF q7 h
                by_cases q8 : l0 = 13
                · refine x_tsw (tgt := 56) dX8_rank_1 (by rw [q8]; decide) (by rw [q8]; decide) (by rw [q8]; rfl) rfl ?_
                  replace h := itT q8 h
                  refine x_iconst (v := 3) dX8_rank_56 rfl ?_
                  exact x_iret (S := []) dX8_rank_57 rfl rfl ⟨_, rfl, rfl, h⟩
                · replace h := itF q8 h
                  by_cases q9 : l0 = 14
                  · refine x_tsw (tgt := 65) dX8_rank_1 (by rw [q9]; decide) (by rw [q9]; decide) (by rw [q9]; rfl) rfl ?_
                    replace h := itT q9 h
                    refine x_bipush (v := 7) dX8_rank_65 rfl ?_
                    exact x_iret (S := []) dX8_rank_67 rfl rfl ⟨_, rfl, rfl, h⟩
                  · replace h := itF q9 h
                    refine x_tswd (tgt := 68) dX8_rank_1 (by have z0 := lv_neT (a := 6) q1 rfl; have z1 := lv_neT (a := 7) q2 rfl; have z2 := lv_neT (a := 8) q3 rfl; have z3 := lv_neT (a := 9) q4 rfl; have z4 := lv_neT (a := 10) q5 rfl; have z5 := lv_neT (a := 11) q6 rfl; have z6 := lv_neT (a := 12) q7 rfl; have z7 := lv_neT (a := 13) q8 rfl; have z8 := lv_neT (a := 14) q9 rfl; omega) rfl ?_
                    refine x_iconst (v := 0) dX8_rank_68 rfl ?_
                    exact x_iret (S := []) dX8_rank_69 rfl rfl ⟨_, rfl, rfl, h⟩
set_option maxRecDepth 20000 in
theorem s_X8_push {d : Nat} {g : zG} {σ : zI} {K : zI → Prop} (hg : zGA g) {l1 : Int32} (h : vp_in (σ 57 19) 200 ∧ (if (l1 = 13 : Prop) then K (zsI (zsI (zsI σ 57 19 ((σ 57 19) + 1)) 65 ((σ 57 19 : Int32).toNatClampNeg) l1) 57 20 ((σ 57 20) + 1)) else (if (l1 = 14 : Prop) then K (zsI (zsI (zsI σ 57 19 ((σ 57 19) + 1)) 65 ((σ 57 19 : Int32).toNatClampNeg) l1) 57 20 ((σ 57 20) + 1)) else zCI mX8_rank d [.int l1] g (zsI (zsI σ 57 19 ((σ 57 19) + 1)) 65 ((σ 57 19 : Int32).toNatClampNeg) l1) (fun v1 σ1 => (if (v1 = 0 : Prop) then K (zsI σ1 57 20 ((σ1 57 20) + 1)) else K σ1))))) : zCV mX8_push (d + 1) [.ref 57, .int l1] g σ K := by
  refine c_of_x pn_mX8_push rfl (Nat.le_of_ble_eq_true rfl) ?_
  change zX _ _ 0 0 0 [.ref 57, .int l1] [] g σ _
  refine x_aload_n dX8_push_0 rfl ?_
  refine x_getR dX8_push_1 fl_X8_31 (gA_57 hg) rfl (gA_57_18 hg) ?_
  refine x_aload_n dX8_push_4 rfl ?_
  refine x_dup dX8_push_5 rfl ?_
  refine x_getI dX8_push_6 fl_X8_162 (gA_57 hg) rfl ?_
  refine x_dup_x1 dX8_push_9 rfl rfl ?_
  refine x_iconst (v := 1) dX8_push_10 rfl ?_
  refine x_iadd dX8_push_11 ?_
  refine x_putI dX8_push_12 fl_X8_162 (gA_57 hg) rfl rfl ?_
  refine x_iload_n dX8_push_15 rfl ?_
  obtain ⟨q1, h⟩ := h
  refine x_iast dX8_push_16 (gA_65 hg) q1 ?_
  refine x_iload_n dX8_push_17 rfl ?_
  refine x_bipush (v := 13) dX8_push_18 rfl ?_
  refine x_icmp_eq (tgt := 36) dX8_push_20 rfl (fun q2 => ?_) (fun q2 => ?_)
  · replace h := itT q2 h
    refine x_aload_n dX8_push_36 rfl ?_
    refine x_dup dX8_push_37 rfl ?_
    refine x_getI dX8_push_38 fl_X8_168 (gA_57 hg) rfl ?_
    refine x_iconst (v := 1) dX8_push_41 rfl ?_
    refine x_iadd dX8_push_42 ?_
    refine x_putI dX8_push_43 fl_X8_168 (gA_57 hg) rfl rfl ?_
    exact x_vret (S := []) dX8_push_46 rfl ⟨rfl, rfl, h⟩
  · replace h := itF q2 h
    refine x_iload_n dX8_push_23 rfl ?_
    refine x_bipush (v := 14) dX8_push_24 rfl ?_
    refine x_icmp_eq (tgt := 36) dX8_push_26 rfl (fun q3 => ?_) (fun q3 => ?_)
    · replace h := itT q3 h
      refine x_aload_n dX8_push_36 rfl ?_
      refine x_dup dX8_push_37 rfl ?_
      refine x_getI dX8_push_38 fl_X8_168 (gA_57 hg) rfl ?_
      refine x_iconst (v := 1) dX8_push_41 rfl ?_
      refine x_iadd dX8_push_42 ?_
      refine x_putI dX8_push_43 fl_X8_168 (gA_57 hg) rfl rfl ?_
      exact x_vret (S := []) dX8_push_46 rfl ⟨rfl, rfl, h⟩
    · replace h := itF q3 h
      refine x_iload_n dX8_push_29 rfl ?_
      refine x_callS (Y2 := mX8_rank) (as := [.int l1]) (S := []) (kc2 := 0) (ks2 := 0) st_mX8_rank dX8_push_30 lk_X8_165 mo_mX8_rank rfl rfl (Nat.le_of_ble_eq_true rfl) (Or.inl rfl) rfl rfl h ?_
      rintro _ _ σ1 ⟨v1, rfl, rfl, h⟩
      change zX _ _ 0 0 33 _ [.int v1] _ _ _
      refine x_if_ne (tgt := 46) dX8_push_33 rfl (fun q4 => ?_) (fun q4 => ?_)
      · replace h := itF q4 h
        exact x_vret (S := []) dX8_push_46 rfl ⟨rfl, rfl, h⟩
      · replace h := itT q4 h
        refine x_aload_n dX8_push_36 rfl ?_
        refine x_dup dX8_push_37 rfl ?_
        refine x_getI dX8_push_38 fl_X8_168 (gA_57 hg) rfl ?_
        refine x_iconst (v := 1) dX8_push_41 rfl ?_
        refine x_iadd dX8_push_42 ?_
        refine x_putI dX8_push_43 fl_X8_168 (gA_57 hg) rfl rfl ?_
        exact x_vret (S := []) dX8_push_46 rfl ⟨rfl, rfl, h⟩
set_option maxRecDepth 20000 in
theorem s_X8_closes {d : Nat} {g : zG} {σ : zI} {K : Int32 → zI → Prop} (hg : zGA g)  (h : zCV mX8_lays d [.ref 57, .int 1] g σ (fun σ1 => (if ((σ1 57 19) = 0 : Prop) then K 0 σ1 else vp_in ((σ1 57 19) - 1) 200 ∧ (if ((σ1 65 (((σ1 57 19) - 1 : Int32).toNatClampNeg)) = (-2) : Prop) then zCV mX8_lays d [.ref 57, .int 7] g (zsI (zsI (zsI σ1 57 19 ((σ1 57 19) - 1)) 57 21 1) 57 20 ((σ1 57 20) - 1)) (fun σ2 => K 1 σ2) else zCV mX8_lays d [.ref 57, .int 7] g (zsI (zsI (zsI σ1 57 19 ((σ1 57 19) - 1)) 57 21 0) 57 20 ((σ1 57 20) - 1)) (fun σ2 => K 1 σ2))))) : zCI mX8_closes (d + 1) [.ref 57] g σ K := by
  refine c_of_x pn_mX8_closes rfl (Nat.le_of_ble_eq_true rfl) ?_
  change zX _ _ 0 0 0 [.ref 57] [] g σ _
  refine x_aload_n dX8_closes_0 rfl ?_
  refine x_iconst (v := 1) dX8_closes_1 rfl ?_
  refine x_callV (Y2 := mX8_lays) (as := [.int 1]) (S := []) (kc2 := 0) (ks2 := 0) mv_mX8_lays (Or.inl ⟨8, _, rfl, rfl, (gA_57 hg)⟩) dX8_closes_2 lk_X8_171 mo_mX8_lays rfl rfl (Nat.le_of_ble_eq_true rfl) (Or.inl rfl) rfl rfl h ?_
  rintro _ _ σ1 ⟨rfl, rfl, h⟩
  change zX _ _ 0 0 5 _ [] _ _ _
  refine x_aload_n dX8_closes_5 rfl ?_
  refine x_getI dX8_closes_6 fl_X8_162 (gA_57 hg) rfl ?_
  refine x_if_ne (tgt := 14) dX8_closes_9 rfl (fun q1 => ?_) (fun q1 => ?_)
  · replace h := itF q1 h
    refine x_aload_n dX8_closes_14 rfl ?_
    refine x_dup dX8_closes_15 rfl ?_
    refine x_getI dX8_closes_16 fl_X8_162 (gA_57 hg) rfl ?_
    refine x_iconst (v := 1) dX8_closes_19 rfl ?_
    refine x_isub dX8_closes_20 ?_
    refine x_putI dX8_closes_21 fl_X8_162 (gA_57 hg) rfl rfl ?_
    refine x_aload_n dX8_closes_24 rfl ?_
    refine x_aload_n dX8_closes_25 rfl ?_
    refine x_getR dX8_closes_26 fl_X8_31 (gA_57 hg) rfl (gA_57_18 hg) ?_
    refine x_aload_n dX8_closes_29 rfl ?_
    refine x_getI dX8_closes_30 fl_X8_162 (gA_57 hg) rfl ?_
    obtain ⟨q2, h⟩ := h
    refine x_iald dX8_closes_33 (gA_65 hg) q2 ?_
    refine x_bipush (v := (-2)) dX8_closes_34 rfl ?_
    refine x_icmp_ne (tgt := 43) dX8_closes_36 rfl (fun q3 => ?_) (fun q3 => ?_)
    · replace h := itF q3 h
      refine x_iconst (v := 0) dX8_closes_43 rfl ?_
      refine x_putZ dX8_closes_44 fl_X8_178 (gA_57 hg) rfl rfl (Or.inl rfl) ?_
      refine x_aload_n dX8_closes_47 rfl ?_
      refine x_dup dX8_closes_48 rfl ?_
      refine x_getI dX8_closes_49 fl_X8_168 (gA_57 hg) rfl ?_
      refine x_iconst (v := 1) dX8_closes_52 rfl ?_
      refine x_isub dX8_closes_53 ?_
      refine x_putI dX8_closes_54 fl_X8_168 (gA_57 hg) rfl rfl ?_
      refine x_aload_n dX8_closes_57 rfl ?_
      refine x_bipush (v := 7) dX8_closes_58 rfl ?_
      refine x_callV (Y2 := mX8_lays) (as := [.int 7]) (S := []) (kc2 := 0) (ks2 := 0) mv_mX8_lays (Or.inl ⟨8, _, rfl, rfl, (gA_57 hg)⟩) dX8_closes_60 lk_X8_171 mo_mX8_lays rfl rfl (Nat.le_of_ble_eq_true rfl) (Or.inl rfl) rfl rfl h ?_
      rintro _ _ σ2 ⟨rfl, rfl, h⟩
      change zX _ _ 0 0 63 _ [] _ _ _
      refine x_iconst (v := 1) dX8_closes_63 rfl ?_
      exact x_iret (S := []) dX8_closes_64 rfl rfl ⟨_, rfl, rfl, h⟩
    · replace h := itT q3 h
      refine x_iconst (v := 1) dX8_closes_39 rfl ?_
      refine x_goto (tgt := 44) dX8_closes_40 rfl ?_
      refine x_putZ dX8_closes_44 fl_X8_178 (gA_57 hg) rfl rfl (Or.inr rfl) ?_
      refine x_aload_n dX8_closes_47 rfl ?_
      refine x_dup dX8_closes_48 rfl ?_
      refine x_getI dX8_closes_49 fl_X8_168 (gA_57 hg) rfl ?_
      refine x_iconst (v := 1) dX8_closes_52 rfl ?_
      refine x_isub dX8_closes_53 ?_
      refine x_putI dX8_closes_54 fl_X8_168 (gA_57 hg) rfl rfl ?_
      refine x_aload_n dX8_closes_57 rfl ?_
      refine x_bipush (v := 7) dX8_closes_58 rfl ?_
      refine x_callV (Y2 := mX8_lays) (as := [.int 7]) (S := []) (kc2 := 0) (ks2 := 0) mv_mX8_lays (Or.inl ⟨8, _, rfl, rfl, (gA_57 hg)⟩) dX8_closes_60 lk_X8_171 mo_mX8_lays rfl rfl (Nat.le_of_ble_eq_true rfl) (Or.inl rfl) rfl rfl h ?_
      rintro _ _ σ2 ⟨rfl, rfl, h⟩
      change zX _ _ 0 0 63 _ [] _ _ _
      refine x_iconst (v := 1) dX8_closes_63 rfl ?_
      exact x_iret (S := []) dX8_closes_64 rfl rfl ⟨_, rfl, rfl, h⟩
  · replace h := itT q1 h
    refine x_iconst (v := 0) dX8_closes_12 rfl ?_
    exact x_iret (S := []) dX8_closes_13 rfl rfl ⟨_, rfl, rfl, h⟩
set_option maxRecDepth 20000 in
theorem s_X8_force {d : Nat} {g : zG} {σ : zI} {K : Int32 → zI → Prop} (hg : zGA g) {l1 : Int32} (h : zCI mX8_within d [.int l1, .int 0, .int ((σ 57 8) - 1)] g σ (fun v1 σ1 => (if (v1 = 0 : Prop) then K (-2) σ1 else K (σ1 57 5) (zsI σ1 57 5 l1)))) : zCI mX8_force (d + 1) [.ref 57, .int l1] g σ K := by
  refine c_of_x pn_mX8_force rfl (Nat.le_of_ble_eq_true rfl) ?_
  change zX _ _ 0 0 0 [.ref 57, .int l1] [] g σ _
  refine x_iload_n dX8_force_0 rfl ?_
  refine x_iconst (v := 0) dX8_force_1 rfl ?_
  refine x_aload_n dX8_force_2 rfl ?_
  refine x_getI dX8_force_3 fl_X8_78 (gA_57 hg) rfl ?_
  refine x_iconst (v := 1) dX8_force_6 rfl ?_
  refine x_isub dX8_force_7 ?_
  refine x_callS (Y2 := mX8_within) (as := [.int l1, .int 0, .int ((σ 57 8) - 1)]) (S := []) (kc2 := 0) (ks2 := 0) st_mX8_within dX8_force_8 lk_X8_85 mo_mX8_within rfl rfl (Nat.le_of_ble_eq_true rfl) (Or.inl rfl) rfl rfl h ?_
  rintro _ _ σ1 ⟨v1, rfl, rfl, h⟩
  change zX _ _ 0 0 11 _ [.int v1] _ _ _
  refine x_if_ne (tgt := 17) dX8_force_11 rfl (fun q1 => ?_) (fun q1 => ?_)
  · replace h := itF q1 h
    refine x_aload_n dX8_force_17 rfl ?_
    refine x_getI dX8_force_18 fl_X8_209 (gA_57 hg) rfl ?_
    refine x_istore_n dX8_force_21 rfl (Nat.le_of_ble_eq_true rfl) (L2 := [_, _, _]) rfl ?_
    refine x_aload_n dX8_force_22 rfl ?_
    refine x_iload_n dX8_force_23 rfl ?_
    refine x_putI dX8_force_24 fl_X8_209 (gA_57 hg) rfl rfl ?_
    refine x_iload_n dX8_force_27 rfl ?_
    exact x_iret (S := []) dX8_force_28 rfl rfl ⟨_, rfl, rfl, h⟩
  · replace h := itT q1 h
    refine x_bipush (v := (-2)) dX8_force_14 rfl ?_
    exact x_iret (S := []) dX8_force_16 rfl rfl ⟨_, rfl, rfl, h⟩
abbrev p_X8_says_42 (d : Nat) (g : zG) (K : Int32 → zI → Prop) (σ : zI) (l1 : Int32) (l2 : Int32) (l3 : Int32) : Prop := zX mX8_says (d + 1) 0 0 42 [.ref 57, .int l1, .int l2, .int l3] [] g σ (zqI g K)
set_option maxRecDepth 20000 in
theorem s_X8_says {d : Nat} {g : zG} {σ : zI} {K : Int32 → zI → Prop} (hg : zGA g) {l1 : Int32} {l2 : Int32} {l3 : Int32} (h : zCI mX8_isHeir d [.ref 57, .int l1] g σ (fun v1 σ1 => (if (v1 = 0 : Prop) then K (-2) σ1 else zCI mX8_within d [.int l3, .int 0, .int 3] g σ1 (fun v2 σ2 => (if (v2 = 0 : Prop) then K (-2) σ2 else (if (2 ≤ l3 : Prop) then zCI mX8_isSum d [.int l2] g σ2 (fun v3 σ3 => (if (v3 = 0 : Prop) then K (-2) σ3 else p_X8_says_42 d g K σ3 l1 l2 l3)) else zCI mX8_isNumber d [.int l2] g σ2 (fun v3 σ3 => (if (v3 = 0 : Prop) then K (-2) σ3 else p_X8_says_42 d g K σ3 l1 l2 l3)))))))) : zCI mX8_says (d + 1) [.ref 57, .int l1, .int l2, .int l3] g σ K := by
  refine c_of_x pn_mX8_says rfl (Nat.le_of_ble_eq_true rfl) ?_
  change zX _ _ 0 0 0 [.ref 57, .int l1, .int l2, .int l3] [] g σ _
  refine x_aload_n dX8_says_0 rfl ?_
  refine x_iload_n dX8_says_1 rfl ?_
  refine x_callV (Y2 := mX8_isHeir) (as := [.int l1]) (S := []) (kc2 := 0) (ks2 := 0) mv_mX8_isHeir (Or.inl ⟨8, _, rfl, rfl, (gA_57 hg)⟩) dX8_says_2 lk_X8_89 mo_mX8_isHeir rfl rfl (Nat.le_of_ble_eq_true rfl) (Or.inl rfl) rfl rfl h ?_
  rintro _ _ σ1 ⟨v1, rfl, rfl, h⟩
  change zX _ _ 0 0 5 _ [.int v1] _ _ _
  refine x_if_eq (tgt := 39) dX8_says_5 rfl (fun q1 => ?_) (fun q1 => ?_)
  · replace h := itT q1 h
    refine x_bipush (v := (-2)) dX8_says_39 rfl ?_
    exact x_iret (S := []) dX8_says_41 rfl rfl ⟨_, rfl, rfl, h⟩
  · replace h := itF q1 h
    refine x_iload_n dX8_says_8 rfl ?_
    refine x_iconst (v := 0) dX8_says_9 rfl ?_
    refine x_iconst (v := 3) dX8_says_10 rfl ?_
    refine x_callS (Y2 := mX8_within) (as := [.int l3, .int 0, .int 3]) (S := []) (kc2 := 0) (ks2 := 0) st_mX8_within dX8_says_11 lk_X8_85 mo_mX8_within rfl rfl (Nat.le_of_ble_eq_true rfl) (Or.inl rfl) rfl rfl h ?_
    rintro _ _ σ2 ⟨v2, rfl, rfl, h⟩
    change zX _ _ 0 0 14 _ [.int v2] _ _ _
    refine x_if_eq (tgt := 39) dX8_says_14 rfl (fun q2 => ?_) (fun q2 => ?_)
    · replace h := itT q2 h
      refine x_bipush (v := (-2)) dX8_says_39 rfl ?_
      exact x_iret (S := []) dX8_says_41 rfl rfl ⟨_, rfl, rfl, h⟩
    · replace h := itF q2 h
      refine x_iload_n dX8_says_17 rfl ?_
      refine x_iconst (v := 2) dX8_says_18 rfl ?_
      refine x_icmp_ge (tgt := 32) dX8_says_19 rfl (fun q3 => ?_) (fun q3 => ?_)
      · replace h := itT q3 h
        refine x_iload_n dX8_says_32 rfl ?_
        refine x_callS (Y2 := mX8_isSum) (as := [.int l2]) (S := []) (kc2 := 0) (ks2 := 0) st_mX8_isSum dX8_says_33 lk_X8_233 mo_mX8_isSum rfl rfl (Nat.le_of_ble_eq_true rfl) (Or.inl rfl) rfl rfl h ?_
        rintro _ _ σ3 ⟨v3, rfl, rfl, h⟩
        change zX _ _ 0 0 36 _ [.int v3] _ _ _
        refine x_if_ne (tgt := 42) dX8_says_36 rfl (fun q4 => ?_) (fun q4 => ?_)
        · replace h := itF q4 h
          exact h
        · replace h := itT q4 h
          refine x_bipush (v := (-2)) dX8_says_39 rfl ?_
          exact x_iret (S := []) dX8_says_41 rfl rfl ⟨_, rfl, rfl, h⟩
      · replace h := itF q3 h
        refine x_iload_n dX8_says_22 rfl ?_
        refine x_callS (Y2 := mX8_isNumber) (as := [.int l2]) (S := []) (kc2 := 0) (ks2 := 0) st_mX8_isNumber dX8_says_23 lk_X8_115 mo_mX8_isNumber rfl rfl (Nat.le_of_ble_eq_true rfl) (Or.inl rfl) rfl rfl h ?_
        rintro _ _ σ3 ⟨v3, rfl, rfl, h⟩
        change zX _ _ 0 0 26 _ [.int v3] _ _ _
        refine x_if_ne (tgt := 42) dX8_says_26 rfl (fun q4 => ?_) (fun q4 => ?_)
        · replace h := itF q4 h
          exact h
        · replace h := itT q4 h
          refine x_goto (tgt := 39) dX8_says_29 rfl ?_
          refine x_bipush (v := (-2)) dX8_says_39 rfl ?_
          exact x_iret (S := []) dX8_says_41 rfl rfl ⟨_, rfl, rfl, h⟩
set_option maxRecDepth 20000 in
theorem s_X8_says_42 {d : Nat} {g : zG} {σ : zI} {K : Int32 → zI → Prop} (hg : zGA g) {l1 : Int32} {l2 : Int32} {l3 : Int32} (h : (if (l3 = 0 : Prop) then zCI mX8_isSaid d [.ref 57, .int l1, .int l2] g σ (fun v1 σ1 => (if (v1 = 0 : Prop) then K 0 σ1 else K 1 σ1)) else (if (l3 = 1 : Prop) then zCI mX8_costs d [.ref 57, .int l1, .int l2] g σ (fun v1 σ1 => K v1 σ1) else (if (l3 = 2 : Prop) then zCI mX8_isMeant d [.ref 57, .int l1, .int l2] g σ (fun v1 σ1 => (if (v1 = 0 : Prop) then K 0 σ1 else K 1 σ1)) else zCI mX8_worthOf d [.ref 57, .int l1, .int l2] g σ (fun v1 σ1 => K v1 σ1))))) : p_X8_says_42 d g K σ l1 l2 l3 := by
  refine x_iload_n dX8_says_42 rfl ?_
  by_cases q1 : l3 = 0
  · refine x_tsw (tgt := 68) dX8_says_43 (by rw [q1]; decide) (by rw [q1]; decide) (by rw [q1]; rfl) rfl ?_
    replace h := itT q1 h
    refine x_aload_n dX8_says_68 rfl ?_
    refine x_iload_n dX8_says_69 rfl ?_
    refine x_iload_n dX8_says_70 rfl ?_
    refine x_callV (Y2 := mX8_isSaid) (as := [.int l1, .int l2]) (S := []) (kc2 := 0) (ks2 := 0) mv_mX8_isSaid (Or.inl ⟨8, _, rfl, rfl, (gA_57 hg)⟩) dX8_says_71 lk_X8_222 mo_mX8_isSaid rfl rfl (Nat.le_of_ble_eq_true rfl) (Or.inl rfl) rfl rfl h ?_
    rintro _ _ σ1 ⟨v1, rfl, rfl, h⟩
    change zX _ _ 0 0 74 _ [.int v1] _ _ _
    refine x_if_eq (tgt := 81) dX8_says_74 rfl (fun q2 => ?_) (fun q2 => ?_)
    · replace h := itT q2 h
      refine x_iconst (v := 0) dX8_says_81 rfl ?_
      exact x_iret (S := []) dX8_says_82 rfl rfl ⟨_, rfl, rfl, h⟩
    · replace h := itF q2 h
      refine x_iconst (v := 1) dX8_says_77 rfl ?_
      refine x_goto (tgt := 82) dX8_says_78 rfl ?_
      exact x_iret (S := []) dX8_says_82 rfl rfl ⟨_, rfl, rfl, h⟩
  · replace h := itF q1 h
    by_cases q2 : l3 = 1
    · refine x_tsw (tgt := 83) dX8_says_43 (by rw [q2]; decide) (by rw [q2]; decide) (by rw [q2]; rfl) rfl ?_
      replace h := itT q2 h
      refine x_aload_n dX8_says_83 rfl ?_
      refine x_iload_n dX8_says_84 rfl ?_
      refine x_iload_n dX8_says_85 rfl ?_
      refine x_callV (Y2 := mX8_costs) (as := [.int l1, .int l2]) (S := []) (kc2 := 0) (ks2 := 0) mv_mX8_costs (Or.inl ⟨8, _, rfl, rfl, (gA_57 hg)⟩) dX8_says_86 lk_X8_236 mo_mX8_costs rfl rfl (Nat.le_of_ble_eq_true rfl) (Or.inl rfl) rfl rfl h ?_
      rintro _ _ σ1 ⟨v1, rfl, rfl, h⟩
      change zX _ _ 0 0 89 _ [.int v1] _ _ _
      exact x_iret (S := []) dX8_says_89 rfl rfl ⟨_, rfl, rfl, h⟩
    · replace h := itF q2 h
      by_cases q3 : l3 = 2
      · refine x_tsw (tgt := 90) dX8_says_43 (by rw [q3]; decide) (by rw [q3]; decide) (by rw [q3]; rfl) rfl ?_
        replace h := itT q3 h
        refine x_aload_n dX8_says_90 rfl ?_
        refine x_iload_n dX8_says_91 rfl ?_
        refine x_iload_n dX8_says_92 rfl ?_
        refine x_callV (Y2 := mX8_isMeant) (as := [.int l1, .int l2]) (S := []) (kc2 := 0) (ks2 := 0) mv_mX8_isMeant (Or.inl ⟨8, _, rfl, rfl, (gA_57 hg)⟩) dX8_says_93 lk_X8_239 mo_mX8_isMeant rfl rfl (Nat.le_of_ble_eq_true rfl) (Or.inl rfl) rfl rfl h ?_
        rintro _ _ σ1 ⟨v1, rfl, rfl, h⟩
        change zX _ _ 0 0 96 _ [.int v1] _ _ _
        refine x_if_eq (tgt := 103) dX8_says_96 rfl (fun q4 => ?_) (fun q4 => ?_)
        · replace h := itT q4 h
          refine x_iconst (v := 0) dX8_says_103 rfl ?_
          exact x_iret (S := []) dX8_says_104 rfl rfl ⟨_, rfl, rfl, h⟩
        · replace h := itF q4 h
          refine x_iconst (v := 1) dX8_says_99 rfl ?_
          refine x_goto (tgt := 104) dX8_says_100 rfl ?_
          exact x_iret (S := []) dX8_says_104 rfl rfl ⟨_, rfl, rfl, h⟩
      · replace h := itF q3 h
        refine x_tswd (tgt := 105) dX8_says_43 (by have z0 := lv_neT (a := 0) q1 rfl; have z1 := lv_neT (a := 1) q2 rfl; have z2 := lv_neT (a := 2) q3 rfl; omega) rfl ?_
        refine x_aload_n dX8_says_105 rfl ?_
        refine x_iload_n dX8_says_106 rfl ?_
        refine x_iload_n dX8_says_107 rfl ?_
        refine x_callV (Y2 := mX8_worthOf) (as := [.int l1, .int l2]) (S := []) (kc2 := 0) (ks2 := 0) mv_mX8_worthOf (Or.inl ⟨8, _, rfl, rfl, (gA_57 hg)⟩) dX8_says_108 lk_X8_242 mo_mX8_worthOf rfl rfl (Nat.le_of_ble_eq_true rfl) (Or.inl rfl) rfl rfl h ?_
        rintro _ _ σ1 ⟨v1, rfl, rfl, h⟩
        change zX _ _ 0 0 111 _ [.int v1] _ _ _
        exact x_iret (S := []) dX8_says_111 rfl rfl ⟨_, rfl, rfl, h⟩
set_option maxRecDepth 20000 in
theorem s_X8_isSum {d : Nat} {g : zG} {σ : zI} {K : Int32 → zI → Prop} (hg : zGA g) {l0 : Int32} (h : zCI mX8_within d [.int l0, .int 0, .int 99] g σ (fun v1 σ1 => (v1 = 0 ∨ v1 = 1) ∧ K v1 σ1)) : zCI mX8_isSum (d + 1) [.int l0] g σ K := by
  refine c_of_x pn_mX8_isSum rfl (Nat.le_of_ble_eq_true rfl) ?_
  change zX _ _ 0 0 0 [.int l0] [] g σ _
  refine x_iload_n dX8_isSum_0 rfl ?_
  refine x_iconst (v := 0) dX8_isSum_1 rfl ?_
  refine x_bipush (v := 99) dX8_isSum_2 rfl ?_
  refine x_callS (Y2 := mX8_within) (as := [.int l0, .int 0, .int 99]) (S := []) (kc2 := 0) (ks2 := 0) st_mX8_within dX8_isSum_4 lk_X8_85 mo_mX8_within rfl rfl (Nat.le_of_ble_eq_true rfl) (Or.inl rfl) rfl rfl h ?_
  rintro _ _ σ1 ⟨v1, rfl, rfl, h⟩
  change zX _ _ 0 0 7 _ [.int v1] _ _ _
  obtain ⟨q1, h⟩ := h
  exact x_iret (S := []) dX8_isSum_7 rfl (zbz q1) ⟨_, rfl, rfl, h⟩
set_option maxRecDepth 20000 in
theorem s_X8_costs {d : Nat} {g : zG} {σ : zI} {K : Int32 → zI → Prop} (hg : zGA g) {l1 : Int32} {l2 : Int32} (h : zCI mX8_tells d [.ref 57, .int 0, .int l1, .int l2] g σ (fun v1 σ1 => zCI mX8_bound d [.int v1] g σ1 (fun v2 σ2 => vp_in l1 6 ∧ (if ((σ2 58 l1.toNatClampNeg) = 1 : Prop) then K (v2 + 1) σ2 else (if ((σ2 58 l1.toNatClampNeg) = 2 : Prop) then vp_in l1 6 ∧ zCI mX8_one_ d [.int (v2 + (σ2 59 l1.toNatClampNeg))] g σ2 (fun v3 σ3 => K v3 σ3) else (if ((σ2 58 l1.toNatClampNeg) = 3 : Prop) then zCI mX8_one_ d [.int ((v2 + 1) / 2)] g σ2 (fun v3 σ3 => K v3 σ3) else (if ((σ2 58 l1.toNatClampNeg) = 4 : Prop) then vp_in l1 6 ∧ zCI mX8_one_ d [.int (v2 + (σ2 59 l1.toNatClampNeg))] g σ2 (fun v3 σ3 => K v3 σ3) else (if ((σ2 58 l1.toNatClampNeg) = 5 : Prop) then zCI mX8_one_ d [.int (2 * v2)] g σ2 (fun v3 σ3 => K v3 σ3) else zCI mX8_one_ d [.int v2] g σ2 (fun v3 σ3 => K v3 σ3))))))))) : zCI mX8_costs (d + 1) [.ref 57, .int l1, .int l2] g σ K := by
  refine c_of_x pn_mX8_costs rfl (Nat.le_of_ble_eq_true rfl) ?_
  change zX _ _ 0 0 0 [.ref 57, .int l1, .int l2] [] g σ _
  refine x_aload_n dX8_costs_0 rfl ?_
  refine x_iconst (v := 0) dX8_costs_1 rfl ?_
  refine x_iload_n dX8_costs_2 rfl ?_
  refine x_iload_n dX8_costs_3 rfl ?_
  refine x_callV (Y2 := mX8_tells) (as := [.int 0, .int l1, .int l2]) (S := []) (kc2 := 0) (ks2 := 0) mv_mX8_tells (Or.inl ⟨8, _, rfl, rfl, (gA_57 hg)⟩) dX8_costs_4 lk_X8_225 mo_mX8_tells rfl rfl (Nat.le_of_ble_eq_true rfl) (Or.inl rfl) rfl rfl h ?_
  rintro _ _ σ1 ⟨v1, rfl, rfl, h⟩
  change zX _ _ 0 0 7 _ [.int v1] _ _ _
  refine x_callS (Y2 := mX8_bound) (as := [.int v1]) (S := []) (kc2 := 0) (ks2 := 0) st_mX8_bound dX8_costs_7 lk_X8_228 mo_mX8_bound rfl rfl (Nat.le_of_ble_eq_true rfl) (Or.inl rfl) rfl rfl h ?_
  rintro _ _ σ2 ⟨v2, rfl, rfl, h⟩
  change zX _ _ 0 0 10 _ [.int v2] _ _ _
  refine x_istore_n dX8_costs_10 rfl (Nat.le_of_ble_eq_true rfl) (L2 := [_, _, _, _]) rfl ?_
  refine x_aload_n dX8_costs_11 rfl ?_
  refine x_getR dX8_costs_12 fl_X8_7 (gA_57 hg) rfl (gA_57_2 hg) ?_
  refine x_iload_n dX8_costs_15 rfl ?_
  obtain ⟨q1, h⟩ := h
  refine x_iald dX8_costs_16 (gA_58 hg) q1 ?_
  by_cases q2 : (σ2 58 l1.toNatClampNeg) = 1
  · refine x_tsw (tgt := 52) dX8_costs_17 (by rw [q2]; decide) (by rw [q2]; decide) (by rw [q2]; rfl) rfl ?_
    replace h := itT q2 h
    refine x_iload_n dX8_costs_52 rfl ?_
    refine x_iconst (v := 1) dX8_costs_53 rfl ?_
    refine x_iadd dX8_costs_54 ?_
    exact x_iret (S := []) dX8_costs_55 rfl rfl ⟨_, rfl, rfl, h⟩
  · replace h := itF q2 h
    by_cases q3 : (σ2 58 l1.toNatClampNeg) = 2
    · refine x_tsw (tgt := 56) dX8_costs_17 (by rw [q3]; decide) (by rw [q3]; decide) (by rw [q3]; rfl) rfl ?_
      replace h := itT q3 h
      refine x_iload_n dX8_costs_56 rfl ?_
      refine x_aload_n dX8_costs_57 rfl ?_
      refine x_getR dX8_costs_58 fl_X8_13 (gA_57 hg) rfl (gA_57_3 hg) ?_
      refine x_iload_n dX8_costs_61 rfl ?_
      obtain ⟨q4, h⟩ := h
      refine x_iald dX8_costs_62 (gA_59 hg) q4 ?_
      refine x_iadd dX8_costs_63 ?_
      refine x_callS (Y2 := mX8_one_) (as := [.int (v2 + (σ2 59 l1.toNatClampNeg))]) (S := []) (kc2 := 0) (ks2 := 0) st_mX8_one_ dX8_costs_64 lk_X8_231 mo_mX8_one_ rfl rfl (Nat.le_of_ble_eq_true rfl) (Or.inl rfl) rfl rfl h ?_
      rintro _ _ σ3 ⟨v3, rfl, rfl, h⟩
      change zX _ _ 0 0 67 _ [.int v3] _ _ _
      exact x_iret (S := []) dX8_costs_67 rfl rfl ⟨_, rfl, rfl, h⟩
    · replace h := itF q3 h
      by_cases q4 : (σ2 58 l1.toNatClampNeg) = 3
      · refine x_tsw (tgt := 68) dX8_costs_17 (by rw [q4]; decide) (by rw [q4]; decide) (by rw [q4]; rfl) rfl ?_
        replace h := itT q4 h
        refine x_iload_n dX8_costs_68 rfl ?_
        refine x_iconst (v := 1) dX8_costs_69 rfl ?_
        refine x_iadd dX8_costs_70 ?_
        refine x_iconst (v := 2) dX8_costs_71 rfl ?_
        refine x_idiv dX8_costs_72 (by decide) ?_
        refine x_callS (Y2 := mX8_one_) (as := [.int ((v2 + 1) / 2)]) (S := []) (kc2 := 0) (ks2 := 0) st_mX8_one_ dX8_costs_73 lk_X8_231 mo_mX8_one_ rfl rfl (Nat.le_of_ble_eq_true rfl) (Or.inl rfl) rfl rfl h ?_
        rintro _ _ σ3 ⟨v3, rfl, rfl, h⟩
        change zX _ _ 0 0 76 _ [.int v3] _ _ _
        exact x_iret (S := []) dX8_costs_76 rfl rfl ⟨_, rfl, rfl, h⟩
      · replace h := itF q4 h
        by_cases q5 : (σ2 58 l1.toNatClampNeg) = 4
        · refine x_tsw (tgt := 56) dX8_costs_17 (by rw [q5]; decide) (by rw [q5]; decide) (by rw [q5]; rfl) rfl ?_
          replace h := itT q5 h
          refine x_iload_n dX8_costs_56 rfl ?_
          refine x_aload_n dX8_costs_57 rfl ?_
          refine x_getR dX8_costs_58 fl_X8_13 (gA_57 hg) rfl (gA_57_3 hg) ?_
          refine x_iload_n dX8_costs_61 rfl ?_
          obtain ⟨q6, h⟩ := h
          refine x_iald dX8_costs_62 (gA_59 hg) q6 ?_
          refine x_iadd dX8_costs_63 ?_
          refine x_callS (Y2 := mX8_one_) (as := [.int (v2 + (σ2 59 l1.toNatClampNeg))]) (S := []) (kc2 := 0) (ks2 := 0) st_mX8_one_ dX8_costs_64 lk_X8_231 mo_mX8_one_ rfl rfl (Nat.le_of_ble_eq_true rfl) (Or.inl rfl) rfl rfl h ?_
          rintro _ _ σ3 ⟨v3, rfl, rfl, h⟩
          change zX _ _ 0 0 67 _ [.int v3] _ _ _
          exact x_iret (S := []) dX8_costs_67 rfl rfl ⟨_, rfl, rfl, h⟩
        · replace h := itF q5 h
          by_cases q6 : (σ2 58 l1.toNatClampNeg) = 5
          · refine x_tsw (tgt := 77) dX8_costs_17 (by rw [q6]; decide) (by rw [q6]; decide) (by rw [q6]; rfl) rfl ?_
            replace h := itT q6 h
            refine x_iconst (v := 2) dX8_costs_77 rfl ?_
            refine x_iload_n dX8_costs_78 rfl ?_
            refine x_imul dX8_costs_79 ?_
            refine x_callS (Y2 := mX8_one_) (as := [.int (2 * v2)]) (S := []) (kc2 := 0) (ks2 := 0) st_mX8_one_ dX8_costs_80 lk_X8_231 mo_mX8_one_ rfl rfl (Nat.le_of_ble_eq_true rfl) (Or.inl rfl) rfl rfl h ?_
            rintro _ _ σ3 ⟨v3, rfl, rfl, h⟩
            change zX _ _ 0 0 83 _ [.int v3] _ _ _
            exact x_iret (S := []) dX8_costs_83 rfl rfl ⟨_, rfl, rfl, h⟩
          · replace h := itF q6 h
            refine x_tswd (tgt := 84) dX8_costs_17 (by have z0 := lv_neT (a := 1) q2 rfl; have z1 := lv_neT (a := 2) q3 rfl; have z2 := lv_neT (a := 3) q4 rfl; have z3 := lv_neT (a := 4) q5 rfl; have z4 := lv_neT (a := 5) q6 rfl; omega) rfl ?_
            refine x_iload_n dX8_costs_84 rfl ?_
            refine x_callS (Y2 := mX8_one_) (as := [.int v2]) (S := []) (kc2 := 0) (ks2 := 0) st_mX8_one_ dX8_costs_85 lk_X8_231 mo_mX8_one_ rfl rfl (Nat.le_of_ble_eq_true rfl) (Or.inl rfl) rfl rfl h ?_
            rintro _ _ σ3 ⟨v3, rfl, rfl, h⟩
            change zX _ _ 0 0 88 _ [.int v3] _ _ _
            exact x_iret (S := []) dX8_costs_88 rfl rfl ⟨_, rfl, rfl, h⟩
abbrev p_X8_tells_48 (d : Nat) (g : zG) (K : Int32 → zI → Prop) (σ : zI) (l1 : Int32) (l2 : Int32) (l3 : Int32) (l4 : Int32) (l5 : Int32) (l6 : Int32) (l7 : Int32) : Prop := zX mX8_tells (d + 1) 0 0 48 [.ref 57, .int l1, .int l2, .int l3, .int l4, .int l5, .int l6, .int l7] [] g σ (zqI g K)
abbrev p_X8_tells_91 (d : Nat) (g : zG) (K : Int32 → zI → Prop) (σ : zI) (l1 : Int32) (l2 : Int32) (l3 : Int32) (l4 : Int32) (l5 : Int32) (l6 : Int32) (l7 : Int32) (l8 : Int32) : Prop := zX mX8_tells (d + 1) 0 0 91 [.ref 57, .int l1, .int l2, .int l3, .int l4, .int l5, .int l6, .int l7, .int l8] [] g σ (zqI g K)
abbrev p_X8_tells_208 (d : Nat) (g : zG) (K : Int32 → zI → Prop) (σ : zI) (l1 : Int32) (l2 : Int32) (l3 : Int32) (l4 : Int32) (l5 : Int32) (l6 : Int32) (l7 : Int32) (l8 : Int32) : Prop := zX mX8_tells (d + 1) 0 0 208 [.ref 57, .int l1, .int l2, .int l3, .int l4, .int l5, .int l6, .int l7, .int l8] [] g σ (zqI g K)
set_option maxRecDepth 20000 in
theorem s_X8_tells {d : Nat} {g : zG} {σ : zI} {K : Int32 → zI → Prop} (hg : zGA g) {l1 : Int32} {l2 : Int32} {l3 : Int32} (h : vp_in ((3 * (σ 57 5)) + l1) 18 ∧ (if (l1 = 0 : Prop) then vp_in l2 6 ∧ zCI mX8_has d [.int (σ 60 l2.toNatClampNeg), .int (l3 - 1)] g σ (fun v1 σ1 => (if (v1 = 0 : Prop) then p_X8_tells_48 d g K σ1 l1 l2 l3 0 (σ 62 (((3 * (σ 57 5)) + l1 : Int32).toNatClampNeg)) 0 (σ 62 (((3 * (σ 57 5)) + l1 : Int32).toNatClampNeg)) else p_X8_tells_48 d g K σ1 l1 l2 l3 0 (σ 62 (((3 * (σ 57 5)) + l1 : Int32).toNatClampNeg)) 1 (σ 62 (((3 * (σ 57 5)) + l1 : Int32).toNatClampNeg)))) else p_X8_tells_48 d g K σ l1 l2 l3 0 (σ 62 (((3 * (σ 57 5)) + l1 : Int32).toNatClampNeg)) 0 (σ 62 (((3 * (σ 57 5)) + l1 : Int32).toNatClampNeg)))) : zCI mX8_tells (d + 1) [.ref 57, .int l1, .int l2, .int l3] g σ K := by
  refine c_of_x pn_mX8_tells rfl (Nat.le_of_ble_eq_true rfl) ?_
  change zX _ _ 0 0 0 [.ref 57, .int l1, .int l2, .int l3] [] g σ _
  refine x_iconst (v := 0) dX8_tells_0 rfl ?_
  refine x_istore dX8_tells_1 rfl (Nat.le_of_ble_eq_true rfl) (L2 := [_, _, _, _, _]) rfl ?_
  refine x_aload_n dX8_tells_3 rfl ?_
  refine x_getR dX8_tells_4 fl_X8_22 (gA_57 hg) rfl (gA_57_9 hg) ?_
  refine x_iconst (v := 3) dX8_tells_7 rfl ?_
  refine x_aload_n dX8_tells_8 rfl ?_
  refine x_getI dX8_tells_9 fl_X8_209 (gA_57 hg) rfl ?_
  refine x_imul dX8_tells_12 ?_
  refine x_iload_n dX8_tells_13 rfl ?_
  refine x_iadd dX8_tells_14 ?_
  obtain ⟨q1, h⟩ := h
  refine x_iald dX8_tells_15 (gA_62 hg) q1 ?_
  refine x_istore dX8_tells_16 rfl (Nat.le_of_ble_eq_true rfl) (L2 := [_, _, _, _, _, _]) rfl ?_
  refine x_iload_n dX8_tells_18 rfl ?_
  refine x_if_ne (tgt := 41) dX8_tells_19 rfl (fun q2 => ?_) (fun q2 => ?_)
  · replace h := itF q2 h
    refine x_iconst (v := 0) dX8_tells_41 rfl ?_
    refine x_istore dX8_tells_42 rfl (Nat.le_of_ble_eq_true rfl) (L2 := [_, _, _, _, _, _, _]) rfl ?_
    refine x_iload dX8_tells_44 rfl ?_
    refine x_istore dX8_tells_46 rfl (Nat.le_of_ble_eq_true rfl) (L2 := [_, _, _, _, _, _, _, _]) rfl ?_
    exact h
  · replace h := itT q2 h
    refine x_aload_n dX8_tells_22 rfl ?_
    refine x_getR dX8_tells_23 fl_X8_16 (gA_57 hg) rfl (gA_57_4 hg) ?_
    refine x_iload_n dX8_tells_26 rfl ?_
    obtain ⟨q3, h⟩ := h
    refine x_iald dX8_tells_27 (gA_60 hg) q3 ?_
    refine x_iload_n dX8_tells_28 rfl ?_
    refine x_iconst (v := 1) dX8_tells_29 rfl ?_
    refine x_isub dX8_tells_30 ?_
    refine x_callS (Y2 := mX8_has) (as := [.int (σ 60 l2.toNatClampNeg), .int (l3 - 1)]) (S := []) (kc2 := 0) (ks2 := 0) st_mX8_has dX8_tells_31 lk_X8_118 mo_mX8_has rfl rfl (Nat.le_of_ble_eq_true rfl) (Or.inl rfl) rfl rfl h ?_
    rintro _ _ σ1 ⟨v1, rfl, rfl, h⟩
    change zX _ _ 0 0 34 _ [.int v1] _ _ _
    refine x_if_eq (tgt := 41) dX8_tells_34 rfl (fun q4 => ?_) (fun q4 => ?_)
    · replace h := itT q4 h
      refine x_iconst (v := 0) dX8_tells_41 rfl ?_
      refine x_istore dX8_tells_42 rfl (Nat.le_of_ble_eq_true rfl) (L2 := [_, _, _, _, _, _, _]) rfl ?_
      refine x_iload dX8_tells_44 rfl ?_
      refine x_istore dX8_tells_46 rfl (Nat.le_of_ble_eq_true rfl) (L2 := [_, _, _, _, _, _, _, _]) rfl ?_
      exact h
    · replace h := itF q4 h
      refine x_iconst (v := 1) dX8_tells_37 rfl ?_
      refine x_goto (tgt := 42) dX8_tells_38 rfl ?_
      refine x_istore dX8_tells_42 rfl (Nat.le_of_ble_eq_true rfl) (L2 := [_, _, _, _, _, _, _]) rfl ?_
      refine x_iload dX8_tells_44 rfl ?_
      refine x_istore dX8_tells_46 rfl (Nat.le_of_ble_eq_true rfl) (L2 := [_, _, _, _, _, _, _, _]) rfl ?_
      exact h
set_option maxRecDepth 20000 in
theorem s_X8_tells_48 {d : Nat} {g : zG} {σ : zI} {K : Int32 → zI → Prop} (hg : zGA g) {l1 : Int32} {l2 : Int32} {l3 : Int32} {l4 : Int32} {l5 : Int32} {l6 : Int32} {l7 : Int32} (h : vp_in ((3 * (σ 57 5)) + l1) 18 ∧ (if ((l5 + (σ 63 (((3 * (σ 57 5)) + l1 : Int32).toNatClampNeg))) ≤ l7 : Prop) then K (σ 66 0) σ else vp_in l7 3000 ∧ (if (15 ≤ (σ 64 l7.toNatClampNeg) : Prop) then p_X8_tells_91 d g K σ l1 l2 l3 l4 l5 l6 l7 (σ 64 l7.toNatClampNeg) else (if (5 < (σ 64 l7.toNatClampNeg) : Prop) then (if ((σ 64 l7.toNatClampNeg) = 13 : Prop) then p_X8_tells_208 d g K σ l1 l2 l3 l4 l5 l6 l7 (σ 64 l7.toNatClampNeg) else (if ((σ 64 l7.toNatClampNeg) = 14 : Prop) then p_X8_tells_208 d g K σ l1 l2 l3 l4 l5 l6 l7 (σ 64 l7.toNatClampNeg) else vp_in ((l4 + (-1)) - 1) 200 ∧ vp_in (l4 + (-1)) 200 ∧ zCI mX8_both d [.int (σ 64 l7.toNatClampNeg), .int (σ 66 (((l4 + (-1)) - 1 : Int32).toNatClampNeg)), .int (σ 66 ((l4 + (-1) : Int32).toNatClampNeg))] g σ (fun v1 σ1 => vp_in ((l4 + (-1)) - 1) 200 ∧ p_X8_tells_48 d g K (zsI σ1 66 (((l4 + (-1)) - 1 : Int32).toNatClampNeg) v1) l1 l2 l3 (l4 + (-1)) l5 l6 (l7 + 1)))) else p_X8_tells_91 d g K σ l1 l2 l3 l4 l5 l6 l7 (σ 64 l7.toNatClampNeg))))) : p_X8_tells_48 d g K σ l1 l2 l3 l4 l5 l6 l7 := by
  refine x_iload dX8_tells_48 rfl ?_
  refine x_iload dX8_tells_50 rfl ?_
  refine x_aload_n dX8_tells_52 rfl ?_
  refine x_getR dX8_tells_53 fl_X8_25 (gA_57 hg) rfl (gA_57_10 hg) ?_
  refine x_iconst (v := 3) dX8_tells_56 rfl ?_
  refine x_aload_n dX8_tells_57 rfl ?_
  refine x_getI dX8_tells_58 fl_X8_209 (gA_57 hg) rfl ?_
  refine x_imul dX8_tells_61 ?_
  refine x_iload_n dX8_tells_62 rfl ?_
  refine x_iadd dX8_tells_63 ?_
  obtain ⟨q1, h⟩ := h
  refine x_iald dX8_tells_64 (gA_63 hg) q1 ?_
  refine x_iadd dX8_tells_65 ?_
  refine x_icmp_ge (tgt := 296) dX8_tells_66 rfl (fun q2 => ?_) (fun q2 => ?_)
  · replace h := itT q2 h
    refine x_aload_n dX8_tells_296 rfl ?_
    refine x_getR dX8_tells_297 fl_X8_34 (gA_57 hg) rfl (gA_57_24 hg) ?_
    refine x_iconst (v := 0) dX8_tells_300 rfl ?_
    refine x_iald dX8_tells_301 (gA_66 hg) (zvp rfl) ?_
    exact x_iret (S := []) dX8_tells_302 rfl rfl ⟨_, rfl, rfl, h⟩
  · replace h := itF q2 h
    refine x_aload_n dX8_tells_69 rfl ?_
    refine x_getR dX8_tells_70 fl_X8_28 (gA_57 hg) rfl (gA_57_11 hg) ?_
    refine x_iload dX8_tells_73 rfl ?_
    obtain ⟨q3, h⟩ := h
    refine x_iald dX8_tells_75 (gA_64 hg) q3 ?_
    refine x_istore dX8_tells_76 rfl (Nat.le_of_ble_eq_true rfl) (L2 := [_, _, _, _, _, _, _, _, _]) rfl ?_
    refine x_iload dX8_tells_78 rfl ?_
    refine x_bipush (v := 15) dX8_tells_80 rfl ?_
    refine x_icmp_ge (tgt := 91) dX8_tells_82 rfl (fun q4 => ?_) (fun q4 => ?_)
    · replace h := itT q4 h
      exact h
    · replace h := itF q4 h
      refine x_iload dX8_tells_85 rfl ?_
      refine x_iconst (v := 5) dX8_tells_87 rfl ?_
      refine x_icmp_gt (tgt := 194) dX8_tells_88 rfl (fun q5 => ?_) (fun q5 => ?_)
      · replace h := itT q5 h
        refine x_iload dX8_tells_194 rfl ?_
        refine x_bipush (v := 13) dX8_tells_196 rfl ?_
        refine x_icmp_eq (tgt := 208) dX8_tells_198 rfl (fun q6 => ?_) (fun q6 => ?_)
        · replace h := itT q6 h
          exact h
        · replace h := itF q6 h
          refine x_iload dX8_tells_201 rfl ?_
          refine x_bipush (v := 14) dX8_tells_203 rfl ?_
          refine x_icmp_ne (tgt := 257) dX8_tells_205 rfl (fun q7 => ?_) (fun q7 => ?_)
          · replace h := itF q7 h
            refine x_iinc dX8_tells_257 rfl (v := l4 + (-1)) rfl rfl (Nat.le_of_ble_eq_true rfl) (L2 := [_, _, _, _, _, _, _, _, _]) rfl ?_
            refine x_aload_n dX8_tells_260 rfl ?_
            refine x_getR dX8_tells_261 fl_X8_34 (gA_57 hg) rfl (gA_57_24 hg) ?_
            refine x_iload dX8_tells_264 rfl ?_
            refine x_iconst (v := 1) dX8_tells_266 rfl ?_
            refine x_isub dX8_tells_267 ?_
            refine x_iload dX8_tells_268 rfl ?_
            refine x_aload_n dX8_tells_270 rfl ?_
            refine x_getR dX8_tells_271 fl_X8_34 (gA_57 hg) rfl (gA_57_24 hg) ?_
            refine x_iload dX8_tells_274 rfl ?_
            refine x_iconst (v := 1) dX8_tells_276 rfl ?_
            refine x_isub dX8_tells_277 ?_
            obtain ⟨q8, h⟩ := h
            refine x_iald dX8_tells_278 (gA_66 hg) q8 ?_
            refine x_aload_n dX8_tells_279 rfl ?_
            refine x_getR dX8_tells_280 fl_X8_34 (gA_57 hg) rfl (gA_57_24 hg) ?_
            refine x_iload dX8_tells_283 rfl ?_
            obtain ⟨q9, h⟩ := h
            refine x_iald dX8_tells_285 (gA_66 hg) q9 ?_
            refine x_callS (Y2 := mX8_both) (as := [.int (σ 64 l7.toNatClampNeg), .int (σ 66 (((l4 + (-1)) - 1 : Int32).toNatClampNeg)), .int (σ 66 ((l4 + (-1) : Int32).toNatClampNeg))]) (S := [.int ((l4 + (-1)) - 1), .ref 66]) (kc2 := 0) (ks2 := 0) st_mX8_both dX8_tells_286 lk_X8_212 mo_mX8_both rfl rfl (Nat.le_of_ble_eq_true rfl) (Or.inl rfl) rfl rfl h ?_
            rintro _ _ σ1 ⟨v1, rfl, rfl, h⟩
            change zX _ _ 0 0 289 _ [.int v1, .int ((l4 + (-1)) - 1), .ref 66] _ _ _
            obtain ⟨q10, h⟩ := h
            refine x_iast dX8_tells_289 (gA_66 hg) q10 ?_
            refine x_iinc dX8_tells_290 rfl (v := l7 + 1) rfl rfl (Nat.le_of_ble_eq_true rfl) (L2 := [_, _, _, _, _, _, _, _, _]) rfl ?_
            refine x_goto (tgt := 48) dX8_tells_293 rfl ?_
            exact x_wk (wC (wC (wC (wC (wC (wC (wC (wC (wN _))))))))) h
          · replace h := itT q7 h
            exact h
      · replace h := itF q5 h
        exact h
set_option maxRecDepth 20000 in
theorem s_X8_tells_91 {d : Nat} {g : zG} {σ : zI} {K : Int32 → zI → Prop} (hg : zGA g) {l1 : Int32} {l2 : Int32} {l3 : Int32} {l4 : Int32} {l5 : Int32} {l6 : Int32} {l7 : Int32} {l8 : Int32} (h : (if (l8 < 15 : Prop) then (if (l8 = 0 : Prop) then vp_in l4 200 ∧ p_X8_tells_48 d g K (zsI σ 66 l4.toNatClampNeg l3) l1 l2 l3 (l4 + 1) l5 l6 (l7 + 1) else (if (l8 = 1 : Prop) then (if (l6 = 0 : Prop) then vp_in l4 200 ∧ p_X8_tells_48 d g K (zsI σ 66 l4.toNatClampNeg 0) l1 l2 l3 (l4 + 1) l5 l6 (l7 + 1) else vp_in l4 200 ∧ p_X8_tells_48 d g K (zsI σ 66 l4.toNatClampNeg 1) l1 l2 l3 (l4 + 1) l5 l6 (l7 + 1)) else (if (l8 = 2 : Prop) then vp_in l2 6 ∧ vp_in l4 200 ∧ p_X8_tells_48 d g K (zsI σ 66 l4.toNatClampNeg (σ 59 l2.toNatClampNeg)) l1 l2 l3 (l4 + 1) l5 l6 (l7 + 1) else (if (l8 = 3 : Prop) then vp_in l2 6 ∧ zCI mX8_bitsOf d [.int (σ 60 l2.toNatClampNeg)] g σ (fun v1 σ1 => vp_in l4 200 ∧ p_X8_tells_48 d g K (zsI σ1 66 l4.toNatClampNeg v1) l1 l2 l3 (l4 + 1) l5 l6 (l7 + 1)) else (if (l8 = 4 : Prop) then vp_in l4 200 ∧ p_X8_tells_48 d g K (zsI σ 66 l4.toNatClampNeg l2) l1 l2 l3 (l4 + 1) l5 l6 (l7 + 1) else vp_in l4 200 ∧ p_X8_tells_48 d g K (zsI σ 66 l4.toNatClampNeg (σ 57 0)) l1 l2 l3 (l4 + 1) l5 l6 (l7 + 1)))))) else vp_in l4 200 ∧ p_X8_tells_48 d g K (zsI σ 66 l4.toNatClampNeg (l8 - 15)) l1 l2 l3 (l4 + 1) l5 l6 (l7 + 1))) : p_X8_tells_91 d g K σ l1 l2 l3 l4 l5 l6 l7 l8 := by
  refine x_aload_n dX8_tells_91 rfl ?_
  refine x_getR dX8_tells_92 fl_X8_34 (gA_57 hg) rfl (gA_57_24 hg) ?_
  refine x_iload dX8_tells_95 rfl ?_
  refine x_iinc dX8_tells_97 rfl (v := l4 + 1) rfl rfl (Nat.le_of_ble_eq_true rfl) (L2 := [_, _, _, _, _, _, _, _, _]) rfl ?_
  refine x_iload dX8_tells_100 rfl ?_
  refine x_bipush (v := 15) dX8_tells_102 rfl ?_
  refine x_icmp_lt (tgt := 115) dX8_tells_104 rfl (fun q1 => ?_) (fun q1 => ?_)
  · replace h := itT q1 h
    refine x_iload dX8_tells_115 rfl ?_
    refine x_if_ne (tgt := 124) dX8_tells_117 rfl (fun q2 => ?_) (fun q2 => ?_)
    · replace h := itF q2 h
      refine x_iload dX8_tells_124 rfl ?_
      refine x_iconst (v := 1) dX8_tells_126 rfl ?_
      refine x_icmp_ne (tgt := 143) dX8_tells_127 rfl (fun q3 => ?_) (fun q3 => ?_)
      · replace h := itF q3 h
        refine x_iload dX8_tells_143 rfl ?_
        refine x_iconst (v := 2) dX8_tells_145 rfl ?_
        refine x_icmp_ne (tgt := 158) dX8_tells_146 rfl (fun q4 => ?_) (fun q4 => ?_)
        · replace h := itF q4 h
          refine x_iload dX8_tells_158 rfl ?_
          refine x_iconst (v := 3) dX8_tells_160 rfl ?_
          refine x_icmp_ne (tgt := 176) dX8_tells_161 rfl (fun q5 => ?_) (fun q5 => ?_)
          · replace h := itF q5 h
            refine x_iload dX8_tells_176 rfl ?_
            refine x_iconst (v := 4) dX8_tells_178 rfl ?_
            refine x_icmp_ne (tgt := 186) dX8_tells_179 rfl (fun q6 => ?_) (fun q6 => ?_)
            · replace h := itF q6 h
              refine x_aload_n dX8_tells_186 rfl ?_
              refine x_getI dX8_tells_187 fl_X8_94 (gA_57 hg) rfl ?_
              obtain ⟨q7, h⟩ := h
              refine x_iast dX8_tells_190 (gA_66 hg) q7 ?_
              refine x_goto (tgt := 290) dX8_tells_191 rfl ?_
              refine x_iinc dX8_tells_290 rfl (v := l7 + 1) rfl rfl (Nat.le_of_ble_eq_true rfl) (L2 := [_, _, _, _, _, _, _, _, _]) rfl ?_
              refine x_goto (tgt := 48) dX8_tells_293 rfl ?_
              exact x_wk (wC (wC (wC (wC (wC (wC (wC (wC (wN _))))))))) h
            · replace h := itT q6 h
              refine x_iload_n dX8_tells_182 rfl ?_
              refine x_goto (tgt := 190) dX8_tells_183 rfl ?_
              obtain ⟨q7, h⟩ := h
              refine x_iast dX8_tells_190 (gA_66 hg) q7 ?_
              refine x_goto (tgt := 290) dX8_tells_191 rfl ?_
              refine x_iinc dX8_tells_290 rfl (v := l7 + 1) rfl rfl (Nat.le_of_ble_eq_true rfl) (L2 := [_, _, _, _, _, _, _, _, _]) rfl ?_
              refine x_goto (tgt := 48) dX8_tells_293 rfl ?_
              exact x_wk (wC (wC (wC (wC (wC (wC (wC (wC (wN _))))))))) h
          · replace h := itT q5 h
            refine x_aload_n dX8_tells_164 rfl ?_
            refine x_getR dX8_tells_165 fl_X8_16 (gA_57 hg) rfl (gA_57_4 hg) ?_
            refine x_iload_n dX8_tells_168 rfl ?_
            obtain ⟨q6, h⟩ := h
            refine x_iald dX8_tells_169 (gA_60 hg) q6 ?_
            refine x_callS (Y2 := mX8_bitsOf) (as := [.int (σ 60 l2.toNatClampNeg)]) (S := [.int l4, .ref 66]) (kc2 := 0) (ks2 := 0) st_mX8_bitsOf dX8_tells_170 lk_X8_97 mo_mX8_bitsOf rfl rfl (Nat.le_of_ble_eq_true rfl) (Or.inl rfl) rfl rfl h ?_
            rintro _ _ σ1 ⟨v1, rfl, rfl, h⟩
            change zX _ _ 0 0 173 _ [.int v1, .int l4, .ref 66] _ _ _
            refine x_goto (tgt := 190) dX8_tells_173 rfl ?_
            obtain ⟨q7, h⟩ := h
            refine x_iast dX8_tells_190 (gA_66 hg) q7 ?_
            refine x_goto (tgt := 290) dX8_tells_191 rfl ?_
            refine x_iinc dX8_tells_290 rfl (v := l7 + 1) rfl rfl (Nat.le_of_ble_eq_true rfl) (L2 := [_, _, _, _, _, _, _, _, _]) rfl ?_
            refine x_goto (tgt := 48) dX8_tells_293 rfl ?_
            exact x_wk (wC (wC (wC (wC (wC (wC (wC (wC (wN _))))))))) h
        · replace h := itT q4 h
          refine x_aload_n dX8_tells_149 rfl ?_
          refine x_getR dX8_tells_150 fl_X8_13 (gA_57 hg) rfl (gA_57_3 hg) ?_
          refine x_iload_n dX8_tells_153 rfl ?_
          obtain ⟨q5, h⟩ := h
          refine x_iald dX8_tells_154 (gA_59 hg) q5 ?_
          refine x_goto (tgt := 190) dX8_tells_155 rfl ?_
          obtain ⟨q6, h⟩ := h
          refine x_iast dX8_tells_190 (gA_66 hg) q6 ?_
          refine x_goto (tgt := 290) dX8_tells_191 rfl ?_
          refine x_iinc dX8_tells_290 rfl (v := l7 + 1) rfl rfl (Nat.le_of_ble_eq_true rfl) (L2 := [_, _, _, _, _, _, _, _, _]) rfl ?_
          refine x_goto (tgt := 48) dX8_tells_293 rfl ?_
          exact x_wk (wC (wC (wC (wC (wC (wC (wC (wC (wN _))))))))) h
      · replace h := itT q3 h
        refine x_iload dX8_tells_130 rfl ?_
        refine x_if_eq (tgt := 139) dX8_tells_132 rfl (fun q4 => ?_) (fun q4 => ?_)
        · replace h := itT q4 h
          refine x_iconst (v := 0) dX8_tells_139 rfl ?_
          refine x_goto (tgt := 190) dX8_tells_140 rfl ?_
          obtain ⟨q5, h⟩ := h
          refine x_iast dX8_tells_190 (gA_66 hg) q5 ?_
          refine x_goto (tgt := 290) dX8_tells_191 rfl ?_
          refine x_iinc dX8_tells_290 rfl (v := l7 + 1) rfl rfl (Nat.le_of_ble_eq_true rfl) (L2 := [_, _, _, _, _, _, _, _, _]) rfl ?_
          refine x_goto (tgt := 48) dX8_tells_293 rfl ?_
          exact x_wk (wC (wC (wC (wC (wC (wC (wC (wC (wN _))))))))) h
        · replace h := itF q4 h
          refine x_iconst (v := 1) dX8_tells_135 rfl ?_
          refine x_goto (tgt := 190) dX8_tells_136 rfl ?_
          obtain ⟨q5, h⟩ := h
          refine x_iast dX8_tells_190 (gA_66 hg) q5 ?_
          refine x_goto (tgt := 290) dX8_tells_191 rfl ?_
          refine x_iinc dX8_tells_290 rfl (v := l7 + 1) rfl rfl (Nat.le_of_ble_eq_true rfl) (L2 := [_, _, _, _, _, _, _, _, _]) rfl ?_
          refine x_goto (tgt := 48) dX8_tells_293 rfl ?_
          exact x_wk (wC (wC (wC (wC (wC (wC (wC (wC (wN _))))))))) h
    · replace h := itT q2 h
      refine x_iload_n dX8_tells_120 rfl ?_
      refine x_goto (tgt := 190) dX8_tells_121 rfl ?_
      obtain ⟨q3, h⟩ := h
      refine x_iast dX8_tells_190 (gA_66 hg) q3 ?_
      refine x_goto (tgt := 290) dX8_tells_191 rfl ?_
      refine x_iinc dX8_tells_290 rfl (v := l7 + 1) rfl rfl (Nat.le_of_ble_eq_true rfl) (L2 := [_, _, _, _, _, _, _, _, _]) rfl ?_
      refine x_goto (tgt := 48) dX8_tells_293 rfl ?_
      exact x_wk (wC (wC (wC (wC (wC (wC (wC (wC (wN _))))))))) h
  · replace h := itF q1 h
    refine x_iload dX8_tells_107 rfl ?_
    refine x_bipush (v := 15) dX8_tells_109 rfl ?_
    refine x_isub dX8_tells_111 ?_
    refine x_goto (tgt := 190) dX8_tells_112 rfl ?_
    obtain ⟨q2, h⟩ := h
    refine x_iast dX8_tells_190 (gA_66 hg) q2 ?_
    refine x_goto (tgt := 290) dX8_tells_191 rfl ?_
    refine x_iinc dX8_tells_290 rfl (v := l7 + 1) rfl rfl (Nat.le_of_ble_eq_true rfl) (L2 := [_, _, _, _, _, _, _, _, _]) rfl ?_
    refine x_goto (tgt := 48) dX8_tells_293 rfl ?_
    exact x_wk (wC (wC (wC (wC (wC (wC (wC (wC (wN _))))))))) h
set_option maxRecDepth 20000 in
theorem s_X8_tells_208 {d : Nat} {g : zG} {σ : zI} {K : Int32 → zI → Prop} (hg : zGA g) {l1 : Int32} {l2 : Int32} {l3 : Int32} {l4 : Int32} {l5 : Int32} {l6 : Int32} {l7 : Int32} {l8 : Int32} (h : (if (l8 = 14 : Prop) then vp_in (l4 - 1) 200 ∧ vp_in (l4 - 1) 200 ∧ p_X8_tells_48 d g K (zsI σ 66 ((l4 - 1 : Int32).toNatClampNeg) (-(σ 66 ((l4 - 1 : Int32).toNatClampNeg)))) l1 l2 l3 l4 l5 l6 (l7 + 1) else vp_in (l4 - 1) 200 ∧ (if ((σ 66 ((l4 - 1 : Int32).toNatClampNeg)) = 0 : Prop) then vp_in (l4 - 1) 200 ∧ p_X8_tells_48 d g K (zsI σ 66 ((l4 - 1 : Int32).toNatClampNeg) 1) l1 l2 l3 l4 l5 l6 (l7 + 1) else vp_in (l4 - 1) 200 ∧ p_X8_tells_48 d g K (zsI σ 66 ((l4 - 1 : Int32).toNatClampNeg) 0) l1 l2 l3 l4 l5 l6 (l7 + 1)))) : p_X8_tells_208 d g K σ l1 l2 l3 l4 l5 l6 l7 l8 := by
  refine x_aload_n dX8_tells_208 rfl ?_
  refine x_getR dX8_tells_209 fl_X8_34 (gA_57 hg) rfl (gA_57_24 hg) ?_
  refine x_iload dX8_tells_212 rfl ?_
  refine x_iconst (v := 1) dX8_tells_214 rfl ?_
  refine x_isub dX8_tells_215 ?_
  refine x_iload dX8_tells_216 rfl ?_
  refine x_bipush (v := 14) dX8_tells_218 rfl ?_
  refine x_icmp_ne (tgt := 236) dX8_tells_220 rfl (fun q1 => ?_) (fun q1 => ?_)
  · replace h := itF q1 h
    refine x_aload_n dX8_tells_236 rfl ?_
    refine x_getR dX8_tells_237 fl_X8_34 (gA_57 hg) rfl (gA_57_24 hg) ?_
    refine x_iload dX8_tells_240 rfl ?_
    refine x_iconst (v := 1) dX8_tells_242 rfl ?_
    refine x_isub dX8_tells_243 ?_
    obtain ⟨q2, h⟩ := h
    refine x_iald dX8_tells_244 (gA_66 hg) q2 ?_
    refine x_if_ne (tgt := 252) dX8_tells_245 rfl (fun q3 => ?_) (fun q3 => ?_)
    · replace h := itF q3 h
      refine x_iconst (v := 0) dX8_tells_252 rfl ?_
      obtain ⟨q4, h⟩ := h
      refine x_iast dX8_tells_253 (gA_66 hg) q4 ?_
      refine x_goto (tgt := 290) dX8_tells_254 rfl ?_
      refine x_iinc dX8_tells_290 rfl (v := l7 + 1) rfl rfl (Nat.le_of_ble_eq_true rfl) (L2 := [_, _, _, _, _, _, _, _, _]) rfl ?_
      refine x_goto (tgt := 48) dX8_tells_293 rfl ?_
      exact x_wk (wC (wC (wC (wC (wC (wC (wC (wC (wN _))))))))) h
    · replace h := itT q3 h
      refine x_iconst (v := 1) dX8_tells_248 rfl ?_
      refine x_goto (tgt := 253) dX8_tells_249 rfl ?_
      obtain ⟨q4, h⟩ := h
      refine x_iast dX8_tells_253 (gA_66 hg) q4 ?_
      refine x_goto (tgt := 290) dX8_tells_254 rfl ?_
      refine x_iinc dX8_tells_290 rfl (v := l7 + 1) rfl rfl (Nat.le_of_ble_eq_true rfl) (L2 := [_, _, _, _, _, _, _, _, _]) rfl ?_
      refine x_goto (tgt := 48) dX8_tells_293 rfl ?_
      exact x_wk (wC (wC (wC (wC (wC (wC (wC (wC (wN _))))))))) h
  · replace h := itT q1 h
    refine x_aload_n dX8_tells_223 rfl ?_
    refine x_getR dX8_tells_224 fl_X8_34 (gA_57 hg) rfl (gA_57_24 hg) ?_
    refine x_iload dX8_tells_227 rfl ?_
    refine x_iconst (v := 1) dX8_tells_229 rfl ?_
    refine x_isub dX8_tells_230 ?_
    obtain ⟨q2, h⟩ := h
    refine x_iald dX8_tells_231 (gA_66 hg) q2 ?_
    refine x_ineg dX8_tells_232 ?_
    refine x_goto (tgt := 253) dX8_tells_233 rfl ?_
    obtain ⟨q3, h⟩ := h
    refine x_iast dX8_tells_253 (gA_66 hg) q3 ?_
    refine x_goto (tgt := 290) dX8_tells_254 rfl ?_
    refine x_iinc dX8_tells_290 rfl (v := l7 + 1) rfl rfl (Nat.le_of_ble_eq_true rfl) (L2 := [_, _, _, _, _, _, _, _, _]) rfl ?_
    refine x_goto (tgt := 48) dX8_tells_293 rfl ?_
    exact x_wk (wC (wC (wC (wC (wC (wC (wC (wC (wN _))))))))) h
set_option maxRecDepth 20000 in
theorem s_X8_both {d : Nat} {g : zG} {σ : zI} {K : Int32 → zI → Prop} (hg : zGA g) {l0 : Int32} {l1 : Int32} {l2 : Int32} (h : (if (l0 = 6 : Prop) then K (l1 + l2) σ else (if (l0 = 7 : Prop) then K (l1 - l2) σ else (if (l0 = 8 : Prop) then K (l1 * l2) σ else (if (l0 = 9 : Prop) then (if (l2 ≤ l1 : Prop) then K 0 σ else K 1 σ) else (if (l0 = 10 : Prop) then (if (l1 = l2 : Prop) then K 1 σ else K 0 σ) else (if (l0 = 11 : Prop) then (if (l1 = 0 : Prop) then K 0 σ else (if (l2 = 0 : Prop) then K 0 σ else K 1 σ)) else (if (l1 = 0 : Prop) then (if (l2 = 0 : Prop) then K 0 σ else K 1 σ) else K 1 σ)))))))) : zCI mX8_both d [.int l0, .int l1, .int l2] g σ K := by
  refine c_of_x pn_mX8_both rfl (Nat.le_of_ble_eq_true rfl) ?_
  change zX _ _ 0 0 0 [.int l0, .int l1, .int l2] [] g σ _
  refine x_iload_n dX8_both_0 rfl ?_
  by_cases q1 : l0 = 6
  · refine x_tsw (tgt := 40) dX8_both_1 (by rw [q1]; decide) (by rw [q1]; decide) (by rw [q1]; rfl) rfl ?_
    replace h := itT q1 h
    refine x_iload_n dX8_both_40 rfl ?_
    refine x_iload_n dX8_both_41 rfl ?_
    refine x_iadd dX8_both_42 ?_
    exact x_iret (S := []) dX8_both_43 rfl rfl ⟨_, rfl, rfl, h⟩
  · replace h := itF q1 h
    by_cases q2 : l0 = 7
    · refine x_tsw (tgt := 44) dX8_both_1 (by rw [q2]; decide) (by rw [q2]; decide) (by rw [q2]; rfl) rfl ?_
      replace h := itT q2 h
      refine x_iload_n dX8_both_44 rfl ?_
      refine x_iload_n dX8_both_45 rfl ?_
      refine x_isub dX8_both_46 ?_
      exact x_iret (S := []) dX8_both_47 rfl rfl ⟨_, rfl, rfl, h⟩
    · replace h := itF q2 h
      by_cases q3 : l0 = 8
      · refine x_tsw (tgt := 48) dX8_both_1 (by rw [q3]; decide) (by rw [q3]; decide) (by rw [q3]; rfl) rfl ?_
        replace h := itT q3 h
        refine x_iload_n dX8_both_48 rfl ?_
        refine x_iload_n dX8_both_49 rfl ?_
        refine x_imul dX8_both_50 ?_
        exact x_iret (S := []) dX8_both_51 rfl rfl ⟨_, rfl, rfl, h⟩
      · replace h := itF q3 h
        by_cases q4 : l0 = 9
        · refine x_tsw (tgt := 52) dX8_both_1 (by rw [q4]; decide) (by rw [q4]; decide) (by rw [q4]; rfl) rfl ?_
          replace h := itT q4 h
          refine x_iload_n dX8_both_52 rfl ?_
          refine x_iload_n dX8_both_53 rfl ?_
          refine x_icmp_ge (tgt := 61) dX8_both_54 rfl (fun q5 => ?_) (fun q5 => ?_)
          · replace h := itT q5 h
            refine x_iconst (v := 0) dX8_both_61 rfl ?_
            exact x_iret (S := []) dX8_both_62 rfl rfl ⟨_, rfl, rfl, h⟩
          · replace h := itF q5 h
            refine x_iconst (v := 1) dX8_both_57 rfl ?_
            refine x_goto (tgt := 62) dX8_both_58 rfl ?_
            exact x_iret (S := []) dX8_both_62 rfl rfl ⟨_, rfl, rfl, h⟩
        · replace h := itF q4 h
          by_cases q5 : l0 = 10
          · refine x_tsw (tgt := 63) dX8_both_1 (by rw [q5]; decide) (by rw [q5]; decide) (by rw [q5]; rfl) rfl ?_
            replace h := itT q5 h
            refine x_iload_n dX8_both_63 rfl ?_
            refine x_iload_n dX8_both_64 rfl ?_
            refine x_icmp_ne (tgt := 72) dX8_both_65 rfl (fun q6 => ?_) (fun q6 => ?_)
            · replace h := itF q6 h
              refine x_iconst (v := 0) dX8_both_72 rfl ?_
              exact x_iret (S := []) dX8_both_73 rfl rfl ⟨_, rfl, rfl, h⟩
            · replace h := itT q6 h
              refine x_iconst (v := 1) dX8_both_68 rfl ?_
              refine x_goto (tgt := 73) dX8_both_69 rfl ?_
              exact x_iret (S := []) dX8_both_73 rfl rfl ⟨_, rfl, rfl, h⟩
          · replace h := itF q5 h
            by_cases q6 : l0 = 11
            · refine x_tsw (tgt := 74) dX8_both_1 (by rw [q6]; decide) (by rw [q6]; decide) (by rw [q6]; rfl) rfl ?_
              replace h := itT q6 h
              refine x_iload_n dX8_both_74 rfl ?_
              refine x_if_eq (tgt := 86) dX8_both_75 rfl (fun q7 => ?_) (fun q7 => ?_)
              · replace h := itT q7 h
                refine x_iconst (v := 0) dX8_both_86 rfl ?_
                exact x_iret (S := []) dX8_both_87 rfl rfl ⟨_, rfl, rfl, h⟩
              · replace h := itF q7 h
                refine x_iload_n dX8_both_78 rfl ?_
                refine x_if_eq (tgt := 86) dX8_both_79 rfl (fun q8 => ?_) (fun q8 => ?_)
                · replace h := itT q8 h
                  refine x_iconst (v := 0) dX8_both_86 rfl ?_
                  exact x_iret (S := []) dX8_both_87 rfl rfl ⟨_, rfl, rfl, h⟩
                · replace h := itF q8 h
                  refine x_iconst (v := 1) dX8_both_82 rfl ?_
                  refine x_goto (tgt := 87) dX8_both_83 rfl ?_
                  exact x_iret (S := []) dX8_both_87 rfl rfl ⟨_, rfl, rfl, h⟩
            · replace h := itF q6 h
              refine x_tswd (tgt := 88) dX8_both_1 (by have z0 := lv_neT (a := 6) q1 rfl; have z1 := lv_neT (a := 7) q2 rfl; have z2 := lv_neT (a := 8) q3 rfl; have z3 := lv_neT (a := 9) q4 rfl; have z4 := lv_neT (a := 10) q5 rfl; have z5 := lv_neT (a := 11) q6 rfl; omega) rfl ?_
              refine x_iload_n dX8_both_88 rfl ?_
              refine x_if_ne (tgt := 96) dX8_both_89 rfl (fun q7 => ?_) (fun q7 => ?_)
              · replace h := itF q7 h
                refine x_iconst (v := 1) dX8_both_96 rfl ?_
                refine x_goto (tgt := 101) dX8_both_97 rfl ?_
                exact x_iret (S := []) dX8_both_101 rfl rfl ⟨_, rfl, rfl, h⟩
              · replace h := itT q7 h
                refine x_iload_n dX8_both_92 rfl ?_
                refine x_if_eq (tgt := 100) dX8_both_93 rfl (fun q8 => ?_) (fun q8 => ?_)
                · replace h := itT q8 h
                  refine x_iconst (v := 0) dX8_both_100 rfl ?_
                  exact x_iret (S := []) dX8_both_101 rfl rfl ⟨_, rfl, rfl, h⟩
                · replace h := itF q8 h
                  refine x_iconst (v := 1) dX8_both_96 rfl ?_
                  refine x_goto (tgt := 101) dX8_both_97 rfl ?_
                  exact x_iret (S := []) dX8_both_101 rfl rfl ⟨_, rfl, rfl, h⟩
set_option maxRecDepth 20000 in
theorem s_X8_bound {d : Nat} {g : zG} {σ : zI} {K : Int32 → zI → Prop} (hg : zGA g) {l0 : Int32} (h : (if (0 ≤ l0 : Prop) then (if (l0 ≤ 99 : Prop) then K l0 σ else K 99 σ) else K 0 σ)) : zCI mX8_bound d [.int l0] g σ K := by
  refine c_of_x pn_mX8_bound rfl (Nat.le_of_ble_eq_true rfl) ?_
  change zX _ _ 0 0 0 [.int l0] [] g σ _
  refine x_iload_n dX8_bound_0 rfl ?_
  refine x_if_ge (tgt := 8) dX8_bound_1 rfl (fun q1 => ?_) (fun q1 => ?_)
  · replace h := itT q1 h
    refine x_iload_n dX8_bound_8 rfl ?_
    refine x_bipush (v := 99) dX8_bound_9 rfl ?_
    refine x_icmp_le (tgt := 19) dX8_bound_11 rfl (fun q2 => ?_) (fun q2 => ?_)
    · replace h := itT q2 h
      refine x_iload_n dX8_bound_19 rfl ?_
      exact x_iret (S := []) dX8_bound_20 rfl rfl ⟨_, rfl, rfl, h⟩
    · replace h := itF q2 h
      refine x_bipush (v := 99) dX8_bound_14 rfl ?_
      refine x_goto (tgt := 20) dX8_bound_16 rfl ?_
      exact x_iret (S := []) dX8_bound_20 rfl rfl ⟨_, rfl, rfl, h⟩
  · replace h := itF q1 h
    refine x_iconst (v := 0) dX8_bound_4 rfl ?_
    refine x_goto (tgt := 20) dX8_bound_5 rfl ?_
    exact x_iret (S := []) dX8_bound_20 rfl rfl ⟨_, rfl, rfl, h⟩
set_option maxRecDepth 20000 in
theorem s_X8_one_ {d : Nat} {g : zG} {σ : zI} {K : Int32 → zI → Prop} (hg : zGA g) {l0 : Int32} (h : (if (1 ≤ l0 : Prop) then K l0 σ else K 1 σ)) : zCI mX8_one_ d [.int l0] g σ K := by
  refine c_of_x pn_mX8_one_ rfl (Nat.le_of_ble_eq_true rfl) ?_
  change zX _ _ 0 0 0 [.int l0] [] g σ _
  refine x_iload_n dX8_one__0 rfl ?_
  refine x_iconst (v := 1) dX8_one__1 rfl ?_
  refine x_icmp_ge (tgt := 9) dX8_one__2 rfl (fun q1 => ?_) (fun q1 => ?_)
  · replace h := itT q1 h
    refine x_iload_n dX8_one__9 rfl ?_
    exact x_iret (S := []) dX8_one__10 rfl rfl ⟨_, rfl, rfl, h⟩
  · replace h := itF q1 h
    refine x_iconst (v := 1) dX8_one__5 rfl ?_
    refine x_goto (tgt := 10) dX8_one__6 rfl ?_
    exact x_iret (S := []) dX8_one__10 rfl rfl ⟨_, rfl, rfl, h⟩
set_option maxRecDepth 20000 in
theorem s_X8_isMeant {d : Nat} {g : zG} {σ : zI} {K : Int32 → zI → Prop} (hg : zGA g) {l1 : Int32} {l2 : Int32} (h : zCI mX8_tells d [.ref 57, .int 1, .int l1, .int l2] g σ (fun v1 σ1 => (if (v1 = 0 : Prop) then K 0 σ1 else K 1 σ1))) : zCI mX8_isMeant (d + 1) [.ref 57, .int l1, .int l2] g σ K := by
  refine c_of_x pn_mX8_isMeant rfl (Nat.le_of_ble_eq_true rfl) ?_
  change zX _ _ 0 0 0 [.ref 57, .int l1, .int l2] [] g σ _
  refine x_aload_n dX8_isMeant_0 rfl ?_
  refine x_iconst (v := 1) dX8_isMeant_1 rfl ?_
  refine x_iload_n dX8_isMeant_2 rfl ?_
  refine x_iload_n dX8_isMeant_3 rfl ?_
  refine x_callV (Y2 := mX8_tells) (as := [.int 1, .int l1, .int l2]) (S := []) (kc2 := 0) (ks2 := 0) mv_mX8_tells (Or.inl ⟨8, _, rfl, rfl, (gA_57 hg)⟩) dX8_isMeant_4 lk_X8_225 mo_mX8_tells rfl rfl (Nat.le_of_ble_eq_true rfl) (Or.inl rfl) rfl rfl h ?_
  rintro _ _ σ1 ⟨v1, rfl, rfl, h⟩
  change zX _ _ 0 0 7 _ [.int v1] _ _ _
  refine x_if_eq (tgt := 14) dX8_isMeant_7 rfl (fun q1 => ?_) (fun q1 => ?_)
  · replace h := itT q1 h
    refine x_iconst (v := 0) dX8_isMeant_14 rfl ?_
    exact x_iret (S := []) dX8_isMeant_15 rfl rfl ⟨_, rfl, rfl, h⟩
  · replace h := itF q1 h
    refine x_iconst (v := 1) dX8_isMeant_10 rfl ?_
    refine x_goto (tgt := 15) dX8_isMeant_11 rfl ?_
    exact x_iret (S := []) dX8_isMeant_15 rfl rfl ⟨_, rfl, rfl, h⟩
set_option maxRecDepth 20000 in
theorem s_X8_worthOf {d : Nat} {g : zG} {σ : zI} {K : Int32 → zI → Prop} (hg : zGA g) {l1 : Int32} {l2 : Int32} (h : zCI mX8_tells d [.ref 57, .int 2, .int l1, .int l2] g σ (fun v1 σ1 => zCI mX8_bound d [.int v1] g σ1 (fun v2 σ2 => K v2 σ2))) : zCI mX8_worthOf (d + 1) [.ref 57, .int l1, .int l2] g σ K := by
  refine c_of_x pn_mX8_worthOf rfl (Nat.le_of_ble_eq_true rfl) ?_
  change zX _ _ 0 0 0 [.ref 57, .int l1, .int l2] [] g σ _
  refine x_aload_n dX8_worthOf_0 rfl ?_
  refine x_iconst (v := 2) dX8_worthOf_1 rfl ?_
  refine x_iload_n dX8_worthOf_2 rfl ?_
  refine x_iload_n dX8_worthOf_3 rfl ?_
  refine x_callV (Y2 := mX8_tells) (as := [.int 2, .int l1, .int l2]) (S := []) (kc2 := 0) (ks2 := 0) mv_mX8_tells (Or.inl ⟨8, _, rfl, rfl, (gA_57 hg)⟩) dX8_worthOf_4 lk_X8_225 mo_mX8_tells rfl rfl (Nat.le_of_ble_eq_true rfl) (Or.inl rfl) rfl rfl h ?_
  rintro _ _ σ1 ⟨v1, rfl, rfl, h⟩
  change zX _ _ 0 0 7 _ [.int v1] _ _ _
  refine x_callS (Y2 := mX8_bound) (as := [.int v1]) (S := []) (kc2 := 0) (ks2 := 0) st_mX8_bound dX8_worthOf_7 lk_X8_228 mo_mX8_bound rfl rfl (Nat.le_of_ble_eq_true rfl) (Or.inl rfl) rfl rfl h ?_
  rintro _ _ σ2 ⟨v2, rfl, rfl, h⟩
  change zX _ _ 0 0 10 _ [.int v2] _ _ _
  exact x_iret (S := []) dX8_worthOf_10 rfl rfl ⟨_, rfl, rfl, h⟩
set_option maxRecDepth 20000 in
theorem s_X8_common {d : Nat} {g : zG} {σ : zI} {K : Int32 → zI → Prop} (hg : zGA g) {l1 : Int32} {l2 : Int32} (h : zCI mX8_areTwo d [.ref 57, .int l1, .int l2] g σ (fun v1 σ1 => (if (v1 = 0 : Prop) then K (-2) σ1 else zCI mX8_sayable d [.ref 57, .int l1] g σ1 (fun v2 σ2 => zCI mX8_sayable d [.ref 57, .int l2] g σ2 (fun v3 σ3 => K (v2 &&& v3) σ3))))) : zCI mX8_common (d + 1) [.ref 57, .int l1, .int l2] g σ K := by
  refine c_of_x pn_mX8_common rfl (Nat.le_of_ble_eq_true rfl) ?_
  change zX _ _ 0 0 0 [.ref 57, .int l1, .int l2] [] g σ _
  refine x_aload_n dX8_common_0 rfl ?_
  refine x_iload_n dX8_common_1 rfl ?_
  refine x_iload_n dX8_common_2 rfl ?_
  refine x_callV (Y2 := mX8_areTwo) (as := [.int l1, .int l2]) (S := []) (kc2 := 0) (ks2 := 0) mv_mX8_areTwo (Or.inl ⟨8, _, rfl, rfl, (gA_57 hg)⟩) dX8_common_3 lk_X8_112 mo_mX8_areTwo rfl rfl (Nat.le_of_ble_eq_true rfl) (Or.inl rfl) rfl rfl h ?_
  rintro _ _ σ1 ⟨v1, rfl, rfl, h⟩
  change zX _ _ 0 0 6 _ [.int v1] _ _ _
  refine x_if_eq (tgt := 23) dX8_common_6 rfl (fun q1 => ?_) (fun q1 => ?_)
  · replace h := itT q1 h
    refine x_bipush (v := (-2)) dX8_common_23 rfl ?_
    exact x_iret (S := []) dX8_common_25 rfl rfl ⟨_, rfl, rfl, h⟩
  · replace h := itF q1 h
    refine x_aload_n dX8_common_9 rfl ?_
    refine x_iload_n dX8_common_10 rfl ?_
    refine x_callV (Y2 := mX8_sayable) (as := [.int l1]) (S := []) (kc2 := 0) (ks2 := 0) mv_mX8_sayable (Or.inl ⟨8, _, rfl, rfl, (gA_57 hg)⟩) dX8_common_11 lk_X8_101 mo_mX8_sayable rfl rfl (Nat.le_of_ble_eq_true rfl) (Or.inl rfl) rfl rfl h ?_
    rintro _ _ σ2 ⟨v2, rfl, rfl, h⟩
    change zX _ _ 0 0 14 _ [.int v2] _ _ _
    refine x_aload_n dX8_common_14 rfl ?_
    refine x_iload_n dX8_common_15 rfl ?_
    refine x_callV (Y2 := mX8_sayable) (as := [.int l2]) (S := [.int v2]) (kc2 := 0) (ks2 := 0) mv_mX8_sayable (Or.inl ⟨8, _, rfl, rfl, (gA_57 hg)⟩) dX8_common_16 lk_X8_101 mo_mX8_sayable rfl rfl (Nat.le_of_ble_eq_true rfl) (Or.inl rfl) rfl rfl h ?_
    rintro _ _ σ3 ⟨v3, rfl, rfl, h⟩
    change zX _ _ 0 0 19 _ [.int v3, .int v2] _ _ _
    refine x_iand dX8_common_19 ?_
    refine x_goto (tgt := 25) dX8_common_20 rfl ?_
    exact x_iret (S := []) dX8_common_25 rfl rfl ⟨_, rfl, rfl, h⟩
set_option maxRecDepth 20000 in
theorem s_X8_pays {d : Nat} {g : zG} {σ : zI} {K : Int32 → zI → Prop} (hg : zGA g) {l1 : Int32} {l2 : Int32} {l3 : Int32} {l4 : Int32} (h : zCI mX8_areTwo d [.ref 57, .int l1, .int l2] g σ (fun v1 σ1 => (if (v1 = 0 : Prop) then K (-2) σ1 else zCI mX8_isSum d [.int l3] g σ1 (fun v2 σ2 => (if (v2 = 0 : Prop) then K (-2) σ2 else zCI mX8_within d [.int l4, .int 0, .int 3] g σ2 (fun v3 σ3 => (if (v3 = 0 : Prop) then K (-2) σ3 else (if (2 ≤ l4 : Prop) then zCV mX8_legs d [.ref 57, .int l3] g σ3 (fun σ4 => zCV mX8_ways d [.ref 57, .int l1] g σ4 (fun σ5 => vp_in l2 6 ∧ (if ((σ5 72 l2.toNatClampNeg) = (-1) : Prop) then K (-1) σ5 else (if (l4 = 2 : Prop) then vp_in l2 6 ∧ K (σ5 72 l2.toNatClampNeg) σ5 else vp_in l2 6 ∧ K (σ5 73 l2.toNatClampNeg) σ5)))) else zCV mX8_sums d [.ref 57, .int l1, .int l2] g σ3 (fun σ4 => (if (l4 = 0 : Prop) then vp_in l3 100 ∧ K (σ4 68 l3.toNatClampNeg) σ4 else vp_in l3 100 ∧ K (σ4 69 l3.toNatClampNeg) σ4)))))))))) : zCI mX8_pays (d + 1) [.ref 57, .int l1, .int l2, .int l3, .int l4] g σ K := by
  refine c_of_x pn_mX8_pays rfl (Nat.le_of_ble_eq_true rfl) ?_
  change zX _ _ 0 0 0 [.ref 57, .int l1, .int l2, .int l3, .int l4] [] g σ _
  refine x_aload_n dX8_pays_0 rfl ?_
  refine x_iload_n dX8_pays_1 rfl ?_
  refine x_iload_n dX8_pays_2 rfl ?_
  refine x_callV (Y2 := mX8_areTwo) (as := [.int l1, .int l2]) (S := []) (kc2 := 0) (ks2 := 0) mv_mX8_areTwo (Or.inl ⟨8, _, rfl, rfl, (gA_57 hg)⟩) dX8_pays_3 lk_X8_112 mo_mX8_areTwo rfl rfl (Nat.le_of_ble_eq_true rfl) (Or.inl rfl) rfl rfl h ?_
  rintro _ _ σ1 ⟨v1, rfl, rfl, h⟩
  change zX _ _ 0 0 6 _ [.int v1] _ _ _
  refine x_if_eq (tgt := 26) dX8_pays_6 rfl (fun q1 => ?_) (fun q1 => ?_)
  · replace h := itT q1 h
    refine x_bipush (v := (-2)) dX8_pays_26 rfl ?_
    exact x_iret (S := []) dX8_pays_28 rfl rfl ⟨_, rfl, rfl, h⟩
  · replace h := itF q1 h
    refine x_iload_n dX8_pays_9 rfl ?_
    refine x_callS (Y2 := mX8_isSum) (as := [.int l3]) (S := []) (kc2 := 0) (ks2 := 0) st_mX8_isSum dX8_pays_10 lk_X8_233 mo_mX8_isSum rfl rfl (Nat.le_of_ble_eq_true rfl) (Or.inl rfl) rfl rfl h ?_
    rintro _ _ σ2 ⟨v2, rfl, rfl, h⟩
    change zX _ _ 0 0 13 _ [.int v2] _ _ _
    refine x_if_eq (tgt := 26) dX8_pays_13 rfl (fun q2 => ?_) (fun q2 => ?_)
    · replace h := itT q2 h
      refine x_bipush (v := (-2)) dX8_pays_26 rfl ?_
      exact x_iret (S := []) dX8_pays_28 rfl rfl ⟨_, rfl, rfl, h⟩
    · replace h := itF q2 h
      refine x_iload dX8_pays_16 rfl ?_
      refine x_iconst (v := 0) dX8_pays_18 rfl ?_
      refine x_iconst (v := 3) dX8_pays_19 rfl ?_
      refine x_callS (Y2 := mX8_within) (as := [.int l4, .int 0, .int 3]) (S := []) (kc2 := 0) (ks2 := 0) st_mX8_within dX8_pays_20 lk_X8_85 mo_mX8_within rfl rfl (Nat.le_of_ble_eq_true rfl) (Or.inl rfl) rfl rfl h ?_
      rintro _ _ σ3 ⟨v3, rfl, rfl, h⟩
      change zX _ _ 0 0 23 _ [.int v3] _ _ _
      refine x_if_ne (tgt := 29) dX8_pays_23 rfl (fun q3 => ?_) (fun q3 => ?_)
      · replace h := itF q3 h
        refine x_iload dX8_pays_29 rfl ?_
        refine x_iconst (v := 2) dX8_pays_31 rfl ?_
        refine x_icmp_ge (tgt := 62) dX8_pays_32 rfl (fun q4 => ?_) (fun q4 => ?_)
        · replace h := itT q4 h
          refine x_aload_n dX8_pays_62 rfl ?_
          refine x_iload_n dX8_pays_63 rfl ?_
          refine x_callV (Y2 := mX8_legs) (as := [.int l3]) (S := []) (kc2 := 0) (ks2 := 0) mv_mX8_legs (Or.inl ⟨8, _, rfl, rfl, (gA_57 hg)⟩) dX8_pays_64 lk_X8_249 mo_mX8_legs rfl rfl (Nat.le_of_ble_eq_true rfl) (Or.inl rfl) rfl rfl h ?_
          rintro _ _ σ4 ⟨rfl, rfl, h⟩
          change zX _ _ 0 0 67 _ [] _ _ _
          refine x_aload_n dX8_pays_67 rfl ?_
          refine x_iload_n dX8_pays_68 rfl ?_
          refine x_callV (Y2 := mX8_ways) (as := [.int l1]) (S := []) (kc2 := 0) (ks2 := 0) mv_mX8_ways (Or.inl ⟨8, _, rfl, rfl, (gA_57 hg)⟩) dX8_pays_69 lk_X8_252 mo_mX8_ways rfl rfl (Nat.le_of_ble_eq_true rfl) (Or.inl rfl) rfl rfl h ?_
          rintro _ _ σ5 ⟨rfl, rfl, h⟩
          change zX _ _ 0 0 72 _ [] _ _ _
          refine x_aload_n dX8_pays_72 rfl ?_
          refine x_getR dX8_pays_73 fl_X8_53 (gA_57 hg) rfl (gA_57_30 hg) ?_
          refine x_iload_n dX8_pays_76 rfl ?_
          obtain ⟨q5, h⟩ := h
          refine x_iald dX8_pays_77 (gA_72 hg) q5 ?_
          refine x_iconst (v := (-1)) dX8_pays_78 rfl ?_
          refine x_icmp_ne (tgt := 86) dX8_pays_79 rfl (fun q6 => ?_) (fun q6 => ?_)
          · replace h := itF q6 h
            refine x_iload dX8_pays_86 rfl ?_
            refine x_iconst (v := 2) dX8_pays_88 rfl ?_
            refine x_icmp_ne (tgt := 101) dX8_pays_89 rfl (fun q7 => ?_) (fun q7 => ?_)
            · replace h := itF q7 h
              refine x_aload_n dX8_pays_101 rfl ?_
              refine x_getR dX8_pays_102 fl_X8_56 (gA_57 hg) rfl (gA_57_31 hg) ?_
              refine x_iload_n dX8_pays_105 rfl ?_
              obtain ⟨q8, h⟩ := h
              refine x_iald dX8_pays_106 (gA_73 hg) q8 ?_
              exact x_iret (S := []) dX8_pays_107 rfl rfl ⟨_, rfl, rfl, h⟩
            · replace h := itT q7 h
              refine x_aload_n dX8_pays_92 rfl ?_
              refine x_getR dX8_pays_93 fl_X8_53 (gA_57 hg) rfl (gA_57_30 hg) ?_
              refine x_iload_n dX8_pays_96 rfl ?_
              obtain ⟨q8, h⟩ := h
              refine x_iald dX8_pays_97 (gA_72 hg) q8 ?_
              refine x_goto (tgt := 107) dX8_pays_98 rfl ?_
              exact x_iret (S := []) dX8_pays_107 rfl rfl ⟨_, rfl, rfl, h⟩
          · replace h := itT q6 h
            refine x_iconst (v := (-1)) dX8_pays_82 rfl ?_
            refine x_goto (tgt := 107) dX8_pays_83 rfl ?_
            exact x_iret (S := []) dX8_pays_107 rfl rfl ⟨_, rfl, rfl, h⟩
        · replace h := itF q4 h
          refine x_aload_n dX8_pays_35 rfl ?_
          refine x_iload_n dX8_pays_36 rfl ?_
          refine x_iload_n dX8_pays_37 rfl ?_
          refine x_callV (Y2 := mX8_sums) (as := [.int l1, .int l2]) (S := []) (kc2 := 0) (ks2 := 0) mv_mX8_sums (Or.inl ⟨8, _, rfl, rfl, (gA_57 hg)⟩) dX8_pays_38 lk_X8_245 mo_mX8_sums rfl rfl (Nat.le_of_ble_eq_true rfl) (Or.inl rfl) rfl rfl h ?_
          rintro _ _ σ4 ⟨rfl, rfl, h⟩
          change zX _ _ 0 0 41 _ [] _ _ _
          refine x_iload dX8_pays_41 rfl ?_
          refine x_if_ne (tgt := 55) dX8_pays_43 rfl (fun q5 => ?_) (fun q5 => ?_)
          · replace h := itF q5 h
            refine x_aload_n dX8_pays_55 rfl ?_
            refine x_getR dX8_pays_56 fl_X8_43 (gA_57 hg) rfl (gA_57_27 hg) ?_
            refine x_iload_n dX8_pays_59 rfl ?_
            obtain ⟨q6, h⟩ := h
            refine x_iald dX8_pays_60 (gA_69 hg) q6 ?_
            exact x_iret (S := []) dX8_pays_61 rfl rfl ⟨_, rfl, rfl, h⟩
          · replace h := itT q5 h
            refine x_aload_n dX8_pays_46 rfl ?_
            refine x_getR dX8_pays_47 fl_X8_40 (gA_57 hg) rfl (gA_57_26 hg) ?_
            refine x_iload_n dX8_pays_50 rfl ?_
            obtain ⟨q6, h⟩ := h
            refine x_iald dX8_pays_51 (gA_68 hg) q6 ?_
            refine x_goto (tgt := 61) dX8_pays_52 rfl ?_
            exact x_iret (S := []) dX8_pays_61 rfl rfl ⟨_, rfl, rfl, h⟩
      · replace h := itT q3 h
        refine x_bipush (v := (-2)) dX8_pays_26 rfl ?_
        exact x_iret (S := []) dX8_pays_28 rfl rfl ⟨_, rfl, rfl, h⟩
abbrev p_X8_sums_2 (d : Nat) (g : zG) (K : zI → Prop) (σ : zI) (l1 : Int32) (l2 : Int32) (l3 : Int32) : Prop := zX mX8_sums (d + 1) 0 0 2 [.ref 57, .int l1, .int l2, .int l3] [] g σ (zqV g K)
abbrev p_X8_sums_57 (d : Nat) (g : zG) (K : zI → Prop) (σ : zI) (l3 : Int32) : Prop := zX mX8_sums (d + 1) 0 0 57 [.ref 57, .retAddr 0, .retAddr 0, .int l3] [] g σ (zqV g K)
abbrev p_X8_sums_80 (d : Nat) (g : zG) (K : zI → Prop) (σ : zI) (l3 : Int32) (l4 : Int32) : Prop := zX mX8_sums (d + 1) 0 0 80 [.ref 57, .retAddr 0, .retAddr 0, .int l3, .int l4] [] g σ (zqV g K)
abbrev p_X8_sums_179 (d : Nat) (g : zG) (K : zI → Prop) (σ : zI) (l3 : Int32) (l4 : Int32) (l5 : Int32) : Prop := zX mX8_sums (d + 1) 0 0 179 [.ref 57, .retAddr 0, .retAddr 0, .int l3, .int l4, .int l5] [] g σ (zqV g K)
set_option maxRecDepth 20000 in
theorem s_X8_sums {d : Nat} {g : zG} {σ : zI} {K : zI → Prop} (hg : zGA g) {l1 : Int32} {l2 : Int32} (h : p_X8_sums_2 d g K σ l1 l2 1) : zCV mX8_sums (d + 1) [.ref 57, .int l1, .int l2] g σ K := by
  refine c_of_x pn_mX8_sums rfl (Nat.le_of_ble_eq_true rfl) ?_
  change zX _ _ 0 0 0 [.ref 57, .int l1, .int l2] [] g σ _
  refine x_iconst (v := 1) dX8_sums_0 rfl ?_
  refine x_istore_n dX8_sums_1 rfl (Nat.le_of_ble_eq_true rfl) (L2 := [_, _, _, _]) rfl ?_
  exact h
set_option maxRecDepth 20000 in
theorem s_X8_sums_2 {d : Nat} {g : zG} {σ : zI} {K : zI → Prop} (hg : zGA g) {l1 : Int32} {l2 : Int32} {l3 : Int32} (h : (if (31 ≤ l3 : Prop) then p_X8_sums_57 d g K σ 1 else zCI mX8_isSaid d [.ref 57, .int l1, .int l3] g σ (fun v1 σ1 => (if (v1 = 0 : Prop) then vp_in l3 31 ∧ p_X8_sums_2 d g K (zsI σ1 67 l3.toNatClampNeg (-1)) l1 l2 (l3 + 1) else zCI mX8_isSaid d [.ref 57, .int l2, .int l3] g σ1 (fun v2 σ2 => (if (v2 = 0 : Prop) then vp_in l3 31 ∧ p_X8_sums_2 d g K (zsI σ2 67 l3.toNatClampNeg (-1)) l1 l2 (l3 + 1) else zCI mX8_costs d [.ref 57, .int l1, .int l3] g σ2 (fun v3 σ3 => zCI mX8_costs d [.ref 57, .int l2, .int l3] g σ3 (fun v4 σ4 => vp_in l3 31 ∧ p_X8_sums_2 d g K (zsI σ4 67 l3.toNatClampNeg (v3 + v4)) l1 l2 (l3 + 1))))))))) : p_X8_sums_2 d g K σ l1 l2 l3 := by
  refine x_iload_n dX8_sums_2 rfl ?_
  refine x_bipush (v := 31) dX8_sums_3 rfl ?_
  refine x_icmp_ge (tgt := 55) dX8_sums_5 rfl (fun q1 => ?_) (fun q1 => ?_)
  · replace h := itT q1 h
    refine x_iconst (v := 1) dX8_sums_55 rfl ?_
    refine x_istore_n dX8_sums_56 rfl (Nat.le_of_ble_eq_true rfl) (L2 := [_, _, _, _]) rfl ?_
    exact x_wk (wC (wJ (wJ (wC (wN _))))) h
  · replace h := itF q1 h
    refine x_aload_n dX8_sums_8 rfl ?_
    refine x_getR dX8_sums_9 fl_X8_37 (gA_57 hg) rfl (gA_57_25 hg) ?_
    refine x_iload_n dX8_sums_12 rfl ?_
    refine x_aload_n dX8_sums_13 rfl ?_
    refine x_iload_n dX8_sums_14 rfl ?_
    refine x_iload_n dX8_sums_15 rfl ?_
    refine x_callV (Y2 := mX8_isSaid) (as := [.int l1, .int l3]) (S := [.int l3, .ref 67]) (kc2 := 0) (ks2 := 0) mv_mX8_isSaid (Or.inl ⟨8, _, rfl, rfl, (gA_57 hg)⟩) dX8_sums_16 lk_X8_222 mo_mX8_isSaid rfl rfl (Nat.le_of_ble_eq_true rfl) (Or.inl rfl) rfl rfl h ?_
    rintro _ _ σ1 ⟨v1, rfl, rfl, h⟩
    change zX _ _ 0 0 19 _ [.int v1, .int l3, .ref 67] _ _ _
    refine x_if_eq (tgt := 47) dX8_sums_19 rfl (fun q2 => ?_) (fun q2 => ?_)
    · replace h := itT q2 h
      refine x_iconst (v := (-1)) dX8_sums_47 rfl ?_
      obtain ⟨q3, h⟩ := h
      refine x_iast dX8_sums_48 (gA_67 hg) q3 ?_
      refine x_iinc dX8_sums_49 rfl (v := l3 + 1) rfl rfl (Nat.le_of_ble_eq_true rfl) (L2 := [_, _, _, _]) rfl ?_
      refine x_goto (tgt := 2) dX8_sums_52 rfl ?_
      exact h
    · replace h := itF q2 h
      refine x_aload_n dX8_sums_22 rfl ?_
      refine x_iload_n dX8_sums_23 rfl ?_
      refine x_iload_n dX8_sums_24 rfl ?_
      refine x_callV (Y2 := mX8_isSaid) (as := [.int l2, .int l3]) (S := [.int l3, .ref 67]) (kc2 := 0) (ks2 := 0) mv_mX8_isSaid (Or.inl ⟨8, _, rfl, rfl, (gA_57 hg)⟩) dX8_sums_25 lk_X8_222 mo_mX8_isSaid rfl rfl (Nat.le_of_ble_eq_true rfl) (Or.inl rfl) rfl rfl h ?_
      rintro _ _ σ2 ⟨v2, rfl, rfl, h⟩
      change zX _ _ 0 0 28 _ [.int v2, .int l3, .ref 67] _ _ _
      refine x_if_eq (tgt := 47) dX8_sums_28 rfl (fun q3 => ?_) (fun q3 => ?_)
      · replace h := itT q3 h
        refine x_iconst (v := (-1)) dX8_sums_47 rfl ?_
        obtain ⟨q4, h⟩ := h
        refine x_iast dX8_sums_48 (gA_67 hg) q4 ?_
        refine x_iinc dX8_sums_49 rfl (v := l3 + 1) rfl rfl (Nat.le_of_ble_eq_true rfl) (L2 := [_, _, _, _]) rfl ?_
        refine x_goto (tgt := 2) dX8_sums_52 rfl ?_
        exact h
      · replace h := itF q3 h
        refine x_aload_n dX8_sums_31 rfl ?_
        refine x_iload_n dX8_sums_32 rfl ?_
        refine x_iload_n dX8_sums_33 rfl ?_
        refine x_callV (Y2 := mX8_costs) (as := [.int l1, .int l3]) (S := [.int l3, .ref 67]) (kc2 := 0) (ks2 := 0) mv_mX8_costs (Or.inl ⟨8, _, rfl, rfl, (gA_57 hg)⟩) dX8_sums_34 lk_X8_236 mo_mX8_costs rfl rfl (Nat.le_of_ble_eq_true rfl) (Or.inl rfl) rfl rfl h ?_
        rintro _ _ σ3 ⟨v3, rfl, rfl, h⟩
        change zX _ _ 0 0 37 _ [.int v3, .int l3, .ref 67] _ _ _
        refine x_aload_n dX8_sums_37 rfl ?_
        refine x_iload_n dX8_sums_38 rfl ?_
        refine x_iload_n dX8_sums_39 rfl ?_
        refine x_callV (Y2 := mX8_costs) (as := [.int l2, .int l3]) (S := [.int v3, .int l3, .ref 67]) (kc2 := 0) (ks2 := 0) mv_mX8_costs (Or.inl ⟨8, _, rfl, rfl, (gA_57 hg)⟩) dX8_sums_40 lk_X8_236 mo_mX8_costs rfl rfl (Nat.le_of_ble_eq_true rfl) (Or.inl rfl) rfl rfl h ?_
        rintro _ _ σ4 ⟨v4, rfl, rfl, h⟩
        change zX _ _ 0 0 43 _ [.int v4, .int v3, .int l3, .ref 67] _ _ _
        refine x_iadd dX8_sums_43 ?_
        refine x_goto (tgt := 48) dX8_sums_44 rfl ?_
        obtain ⟨q4, h⟩ := h
        refine x_iast dX8_sums_48 (gA_67 hg) q4 ?_
        refine x_iinc dX8_sums_49 rfl (v := l3 + 1) rfl rfl (Nat.le_of_ble_eq_true rfl) (L2 := [_, _, _, _]) rfl ?_
        refine x_goto (tgt := 2) dX8_sums_52 rfl ?_
        exact h
set_option maxRecDepth 20000 in
theorem s_X8_sums_57 {d : Nat} {g : zG} {σ : zI} {K : zI → Prop} (hg : zGA g) {l3 : Int32} (h : (if (100 ≤ l3 : Prop) then K σ else vp_in l3 100 ∧ vp_in l3 100 ∧ p_X8_sums_80 d g K (zsI (zsI σ 68 l3.toNatClampNeg (-1)) 69 l3.toNatClampNeg (-1)) l3 1)) : p_X8_sums_57 d g K σ l3 := by
  refine x_iload_n dX8_sums_57 rfl ?_
  refine x_bipush (v := 100) dX8_sums_58 rfl ?_
  refine x_icmp_ge (tgt := 234) dX8_sums_60 rfl (fun q1 => ?_) (fun q1 => ?_)
  · replace h := itT q1 h
    exact x_vret (S := []) dX8_sums_234 rfl ⟨rfl, rfl, h⟩
  · replace h := itF q1 h
    refine x_aload_n dX8_sums_63 rfl ?_
    refine x_getR dX8_sums_64 fl_X8_40 (gA_57 hg) rfl (gA_57_26 hg) ?_
    refine x_iload_n dX8_sums_67 rfl ?_
    refine x_iconst (v := (-1)) dX8_sums_68 rfl ?_
    obtain ⟨q2, h⟩ := h
    refine x_iast dX8_sums_69 (gA_68 hg) q2 ?_
    refine x_aload_n dX8_sums_70 rfl ?_
    refine x_getR dX8_sums_71 fl_X8_43 (gA_57 hg) rfl (gA_57_27 hg) ?_
    refine x_iload_n dX8_sums_74 rfl ?_
    refine x_iconst (v := (-1)) dX8_sums_75 rfl ?_
    obtain ⟨q3, h⟩ := h
    refine x_iast dX8_sums_76 (gA_69 hg) q3 ?_
    refine x_iconst (v := 1) dX8_sums_77 rfl ?_
    refine x_istore dX8_sums_78 rfl (Nat.le_of_ble_eq_true rfl) (L2 := [_, _, _, _, _]) rfl ?_
    exact h
set_option maxRecDepth 20000 in
theorem s_X8_sums_80 {d : Nat} {g : zG} {σ : zI} {K : zI → Prop} (hg : zGA g) {l3 : Int32} {l4 : Int32} (h : (if (31 ≤ l4 : Prop) then p_X8_sums_57 d g K σ (l3 + 1) else (if (l3 < l4 : Prop) then p_X8_sums_57 d g K σ (l3 + 1) else vp_in l4 31 ∧ (if ((σ 67 l4.toNatClampNeg) = (-1) : Prop) then p_X8_sums_80 d g K σ l3 (l4 + 1) else vp_in (l3 - l4) 100 ∧ (if ((σ 68 ((l3 - l4 : Int32).toNatClampNeg)) = (-1) : Prop) then p_X8_sums_80 d g K σ l3 (l4 + 1) else vp_in l3 100 ∧ (if ((σ 68 l3.toNatClampNeg) = (-1) : Prop) then vp_in (l3 - l4) 100 ∧ vp_in l4 31 ∧ vp_in l3 100 ∧ p_X8_sums_179 d g K (zsI σ 68 l3.toNatClampNeg ((σ 68 ((l3 - l4 : Int32).toNatClampNeg)) + (σ 67 l4.toNatClampNeg))) l3 l4 (l3 - l4) else vp_in (l3 - l4) 100 ∧ vp_in l4 31 ∧ vp_in l3 100 ∧ (if ((σ 68 l3.toNatClampNeg) ≤ ((σ 68 ((l3 - l4 : Int32).toNatClampNeg)) + (σ 67 l4.toNatClampNeg)) : Prop) then p_X8_sums_179 d g K σ l3 l4 (l3 - l4) else vp_in (l3 - l4) 100 ∧ vp_in l4 31 ∧ vp_in l3 100 ∧ p_X8_sums_179 d g K (zsI σ 68 l3.toNatClampNeg ((σ 68 ((l3 - l4 : Int32).toNatClampNeg)) + (σ 67 l4.toNatClampNeg))) l3 l4 (l3 - l4)))))))) : p_X8_sums_80 d g K σ l3 l4 := by
  refine x_iload dX8_sums_80 rfl ?_
  refine x_bipush (v := 31) dX8_sums_82 rfl ?_
  refine x_icmp_ge (tgt := 228) dX8_sums_84 rfl (fun q1 => ?_) (fun q1 => ?_)
  · replace h := itT q1 h
    refine x_iinc dX8_sums_228 rfl (v := l3 + 1) rfl rfl (Nat.le_of_ble_eq_true rfl) (L2 := [_, _, _, _, _]) rfl ?_
    refine x_goto (tgt := 57) dX8_sums_231 rfl ?_
    exact x_wk (wC (wJ (wJ (wC (wN _))))) h
  · replace h := itF q1 h
    refine x_iload dX8_sums_87 rfl ?_
    refine x_iload_n dX8_sums_89 rfl ?_
    refine x_icmp_gt (tgt := 228) dX8_sums_90 rfl (fun q2 => ?_) (fun q2 => ?_)
    · replace h := itT q2 h
      refine x_iinc dX8_sums_228 rfl (v := l3 + 1) rfl rfl (Nat.le_of_ble_eq_true rfl) (L2 := [_, _, _, _, _]) rfl ?_
      refine x_goto (tgt := 57) dX8_sums_231 rfl ?_
      exact x_wk (wC (wJ (wJ (wC (wN _))))) h
    · replace h := itF q2 h
      refine x_iload_n dX8_sums_93 rfl ?_
      refine x_iload dX8_sums_94 rfl ?_
      refine x_isub dX8_sums_96 ?_
      refine x_istore dX8_sums_97 rfl (Nat.le_of_ble_eq_true rfl) (L2 := [_, _, _, _, _, _]) rfl ?_
      refine x_aload_n dX8_sums_99 rfl ?_
      refine x_getR dX8_sums_100 fl_X8_37 (gA_57 hg) rfl (gA_57_25 hg) ?_
      refine x_iload dX8_sums_103 rfl ?_
      obtain ⟨q3, h⟩ := h
      refine x_iald dX8_sums_105 (gA_67 hg) q3 ?_
      refine x_iconst (v := (-1)) dX8_sums_106 rfl ?_
      refine x_icmp_eq (tgt := 222) dX8_sums_107 rfl (fun q4 => ?_) (fun q4 => ?_)
      · replace h := itT q4 h
        refine x_iinc dX8_sums_222 rfl (v := l4 + 1) rfl rfl (Nat.le_of_ble_eq_true rfl) (L2 := [_, _, _, _, _, _]) rfl ?_
        refine x_goto (tgt := 80) dX8_sums_225 rfl ?_
        exact x_wk (wC (wJ (wJ (wC (wC (wN _)))))) h
      · replace h := itF q4 h
        refine x_aload_n dX8_sums_110 rfl ?_
        refine x_getR dX8_sums_111 fl_X8_40 (gA_57 hg) rfl (gA_57_26 hg) ?_
        refine x_iload dX8_sums_114 rfl ?_
        obtain ⟨q5, h⟩ := h
        refine x_iald dX8_sums_116 (gA_68 hg) q5 ?_
        refine x_iconst (v := (-1)) dX8_sums_117 rfl ?_
        refine x_icmp_ne (tgt := 124) dX8_sums_118 rfl (fun q6 => ?_) (fun q6 => ?_)
        · replace h := itF q6 h
          refine x_aload_n dX8_sums_124 rfl ?_
          refine x_getR dX8_sums_125 fl_X8_40 (gA_57 hg) rfl (gA_57_26 hg) ?_
          refine x_iload_n dX8_sums_128 rfl ?_
          obtain ⟨q7, h⟩ := h
          refine x_iald dX8_sums_129 (gA_68 hg) q7 ?_
          refine x_iconst (v := (-1)) dX8_sums_130 rfl ?_
          refine x_icmp_eq (tgt := 158) dX8_sums_131 rfl (fun q8 => ?_) (fun q8 => ?_)
          · replace h := itT q8 h
            refine x_aload_n dX8_sums_158 rfl ?_
            refine x_getR dX8_sums_159 fl_X8_40 (gA_57 hg) rfl (gA_57_26 hg) ?_
            refine x_iload_n dX8_sums_162 rfl ?_
            refine x_aload_n dX8_sums_163 rfl ?_
            refine x_getR dX8_sums_164 fl_X8_40 (gA_57 hg) rfl (gA_57_26 hg) ?_
            refine x_iload dX8_sums_167 rfl ?_
            obtain ⟨q9, h⟩ := h
            refine x_iald dX8_sums_169 (gA_68 hg) q9 ?_
            refine x_aload_n dX8_sums_170 rfl ?_
            refine x_getR dX8_sums_171 fl_X8_37 (gA_57 hg) rfl (gA_57_25 hg) ?_
            refine x_iload dX8_sums_174 rfl ?_
            obtain ⟨q10, h⟩ := h
            refine x_iald dX8_sums_176 (gA_67 hg) q10 ?_
            refine x_iadd dX8_sums_177 ?_
            obtain ⟨q11, h⟩ := h
            refine x_iast dX8_sums_178 (gA_68 hg) q11 ?_
            exact h
          · replace h := itF q8 h
            refine x_aload_n dX8_sums_134 rfl ?_
            refine x_getR dX8_sums_135 fl_X8_40 (gA_57 hg) rfl (gA_57_26 hg) ?_
            refine x_iload dX8_sums_138 rfl ?_
            obtain ⟨q9, h⟩ := h
            refine x_iald dX8_sums_140 (gA_68 hg) q9 ?_
            refine x_aload_n dX8_sums_141 rfl ?_
            refine x_getR dX8_sums_142 fl_X8_37 (gA_57 hg) rfl (gA_57_25 hg) ?_
            refine x_iload dX8_sums_145 rfl ?_
            obtain ⟨q10, h⟩ := h
            refine x_iald dX8_sums_147 (gA_67 hg) q10 ?_
            refine x_iadd dX8_sums_148 ?_
            refine x_aload_n dX8_sums_149 rfl ?_
            refine x_getR dX8_sums_150 fl_X8_40 (gA_57 hg) rfl (gA_57_26 hg) ?_
            refine x_iload_n dX8_sums_153 rfl ?_
            obtain ⟨q11, h⟩ := h
            refine x_iald dX8_sums_154 (gA_68 hg) q11 ?_
            refine x_icmp_ge (tgt := 179) dX8_sums_155 rfl (fun q12 => ?_) (fun q12 => ?_)
            · replace h := itT q12 h
              exact h
            · replace h := itF q12 h
              refine x_aload_n dX8_sums_158 rfl ?_
              refine x_getR dX8_sums_159 fl_X8_40 (gA_57 hg) rfl (gA_57_26 hg) ?_
              refine x_iload_n dX8_sums_162 rfl ?_
              refine x_aload_n dX8_sums_163 rfl ?_
              refine x_getR dX8_sums_164 fl_X8_40 (gA_57 hg) rfl (gA_57_26 hg) ?_
              refine x_iload dX8_sums_167 rfl ?_
              obtain ⟨q13, h⟩ := h
              refine x_iald dX8_sums_169 (gA_68 hg) q13 ?_
              refine x_aload_n dX8_sums_170 rfl ?_
              refine x_getR dX8_sums_171 fl_X8_37 (gA_57 hg) rfl (gA_57_25 hg) ?_
              refine x_iload dX8_sums_174 rfl ?_
              obtain ⟨q14, h⟩ := h
              refine x_iald dX8_sums_176 (gA_67 hg) q14 ?_
              refine x_iadd dX8_sums_177 ?_
              obtain ⟨q15, h⟩ := h
              refine x_iast dX8_sums_178 (gA_68 hg) q15 ?_
              exact h
        · replace h := itT q6 h
          refine x_goto (tgt := 222) dX8_sums_121 rfl ?_
          refine x_iinc dX8_sums_222 rfl (v := l4 + 1) rfl rfl (Nat.le_of_ble_eq_true rfl) (L2 := [_, _, _, _, _, _]) rfl ?_
          refine x_goto (tgt := 80) dX8_sums_225 rfl ?_
          exact x_wk (wC (wJ (wJ (wC (wC (wN _)))))) h
set_option maxRecDepth 20000 in
theorem s_X8_sums_179 {d : Nat} {g : zG} {σ : zI} {K : zI → Prop} (hg : zGA g) {l3 : Int32} {l4 : Int32} {l5 : Int32} (h : vp_in l3 100 ∧ (if ((σ 69 l3.toNatClampNeg) = (-1) : Prop) then vp_in l5 100 ∧ vp_in l3 100 ∧ p_X8_sums_80 d g K (zsI σ 69 l3.toNatClampNeg ((σ 69 l5.toNatClampNeg) + 1)) l3 (l4 + 1) else vp_in l5 100 ∧ vp_in l3 100 ∧ (if ((σ 69 l3.toNatClampNeg) ≤ ((σ 69 l5.toNatClampNeg) + 1) : Prop) then p_X8_sums_80 d g K σ l3 (l4 + 1) else vp_in l5 100 ∧ vp_in l3 100 ∧ p_X8_sums_80 d g K (zsI σ 69 l3.toNatClampNeg ((σ 69 l5.toNatClampNeg) + 1)) l3 (l4 + 1)))) : p_X8_sums_179 d g K σ l3 l4 l5 := by
  refine x_aload_n dX8_sums_179 rfl ?_
  refine x_getR dX8_sums_180 fl_X8_43 (gA_57 hg) rfl (gA_57_27 hg) ?_
  refine x_iload_n dX8_sums_183 rfl ?_
  obtain ⟨q1, h⟩ := h
  refine x_iald dX8_sums_184 (gA_69 hg) q1 ?_
  refine x_iconst (v := (-1)) dX8_sums_185 rfl ?_
  refine x_icmp_eq (tgt := 207) dX8_sums_186 rfl (fun q2 => ?_) (fun q2 => ?_)
  · replace h := itT q2 h
    refine x_aload_n dX8_sums_207 rfl ?_
    refine x_getR dX8_sums_208 fl_X8_43 (gA_57 hg) rfl (gA_57_27 hg) ?_
    refine x_iload_n dX8_sums_211 rfl ?_
    refine x_aload_n dX8_sums_212 rfl ?_
    refine x_getR dX8_sums_213 fl_X8_43 (gA_57 hg) rfl (gA_57_27 hg) ?_
    refine x_iload dX8_sums_216 rfl ?_
    obtain ⟨q3, h⟩ := h
    refine x_iald dX8_sums_218 (gA_69 hg) q3 ?_
    refine x_iconst (v := 1) dX8_sums_219 rfl ?_
    refine x_iadd dX8_sums_220 ?_
    obtain ⟨q4, h⟩ := h
    refine x_iast dX8_sums_221 (gA_69 hg) q4 ?_
    refine x_iinc dX8_sums_222 rfl (v := l4 + 1) rfl rfl (Nat.le_of_ble_eq_true rfl) (L2 := [_, _, _, _, _, _]) rfl ?_
    refine x_goto (tgt := 80) dX8_sums_225 rfl ?_
    exact x_wk (wC (wJ (wJ (wC (wC (wN _)))))) h
  · replace h := itF q2 h
    refine x_aload_n dX8_sums_189 rfl ?_
    refine x_getR dX8_sums_190 fl_X8_43 (gA_57 hg) rfl (gA_57_27 hg) ?_
    refine x_iload dX8_sums_193 rfl ?_
    obtain ⟨q3, h⟩ := h
    refine x_iald dX8_sums_195 (gA_69 hg) q3 ?_
    refine x_iconst (v := 1) dX8_sums_196 rfl ?_
    refine x_iadd dX8_sums_197 ?_
    refine x_aload_n dX8_sums_198 rfl ?_
    refine x_getR dX8_sums_199 fl_X8_43 (gA_57 hg) rfl (gA_57_27 hg) ?_
    refine x_iload_n dX8_sums_202 rfl ?_
    obtain ⟨q4, h⟩ := h
    refine x_iald dX8_sums_203 (gA_69 hg) q4 ?_
    refine x_icmp_ge (tgt := 222) dX8_sums_204 rfl (fun q5 => ?_) (fun q5 => ?_)
    · replace h := itT q5 h
      refine x_iinc dX8_sums_222 rfl (v := l4 + 1) rfl rfl (Nat.le_of_ble_eq_true rfl) (L2 := [_, _, _, _, _, _]) rfl ?_
      refine x_goto (tgt := 80) dX8_sums_225 rfl ?_
      exact x_wk (wC (wJ (wJ (wC (wC (wN _)))))) h
    · replace h := itF q5 h
      refine x_aload_n dX8_sums_207 rfl ?_
      refine x_getR dX8_sums_208 fl_X8_43 (gA_57 hg) rfl (gA_57_27 hg) ?_
      refine x_iload_n dX8_sums_211 rfl ?_
      refine x_aload_n dX8_sums_212 rfl ?_
      refine x_getR dX8_sums_213 fl_X8_43 (gA_57 hg) rfl (gA_57_27 hg) ?_
      refine x_iload dX8_sums_216 rfl ?_
      obtain ⟨q6, h⟩ := h
      refine x_iald dX8_sums_218 (gA_69 hg) q6 ?_
      refine x_iconst (v := 1) dX8_sums_219 rfl ?_
      refine x_iadd dX8_sums_220 ?_
      obtain ⟨q7, h⟩ := h
      refine x_iast dX8_sums_221 (gA_69 hg) q7 ?_
      refine x_iinc dX8_sums_222 rfl (v := l4 + 1) rfl rfl (Nat.le_of_ble_eq_true rfl) (L2 := [_, _, _, _, _, _]) rfl ?_
      refine x_goto (tgt := 80) dX8_sums_225 rfl ?_
      exact x_wk (wC (wJ (wJ (wC (wC (wN _)))))) h
abbrev p_X8_legs_2 (d : Nat) (g : zG) (K : zI → Prop) (σ : zI) (l1 : Int32) (l2 : Int32) : Prop := zX mX8_legs (d + 1) 0 0 2 [.ref 57, .int l1, .int l2] [] g σ (zqV g K)
abbrev p_X8_legs_12 (d : Nat) (g : zG) (K : zI → Prop) (σ : zI) (l1 : Int32) (l2 : Int32) (l3 : Int32) : Prop := zX mX8_legs (d + 1) 0 0 12 [.ref 57, .int l1, .int l2, .int l3] [] g σ (zqV g K)
set_option maxRecDepth 20000 in
theorem s_X8_legs {d : Nat} {g : zG} {σ : zI} {K : zI → Prop} (hg : zGA g) {l1 : Int32} (h : p_X8_legs_2 d g K σ l1 0) : zCV mX8_legs (d + 1) [.ref 57, .int l1] g σ K := by
  refine c_of_x pn_mX8_legs rfl (Nat.le_of_ble_eq_true rfl) ?_
  change zX _ _ 0 0 0 [.ref 57, .int l1] [] g σ _
  refine x_iconst (v := 0) dX8_legs_0 rfl ?_
  refine x_istore_n dX8_legs_1 rfl (Nat.le_of_ble_eq_true rfl) (L2 := [_, _, _]) rfl ?_
  exact h
set_option maxRecDepth 20000 in
theorem s_X8_legs_2 {d : Nat} {g : zG} {σ : zI} {K : zI → Prop} (hg : zGA g) {l1 : Int32} {l2 : Int32} (h : (if ((σ 57 1) ≤ l2 : Prop) then K σ else p_X8_legs_12 d g K σ l1 l2 0)) : p_X8_legs_2 d g K σ l1 l2 := by
  refine x_iload_n dX8_legs_2 rfl ?_
  refine x_aload_n dX8_legs_3 rfl ?_
  refine x_getI dX8_legs_4 fl_X8_82 (gA_57 hg) rfl ?_
  refine x_icmp_ge (tgt := 69) dX8_legs_7 rfl (fun q1 => ?_) (fun q1 => ?_)
  · replace h := itT q1 h
    exact x_vret (S := []) dX8_legs_69 rfl ⟨rfl, rfl, h⟩
  · replace h := itF q1 h
    refine x_iconst (v := 0) dX8_legs_10 rfl ?_
    refine x_istore_n dX8_legs_11 rfl (Nat.le_of_ble_eq_true rfl) (L2 := [_, _, _, _]) rfl ?_
    exact h
set_option maxRecDepth 20000 in
theorem s_X8_legs_12 {d : Nat} {g : zG} {σ : zI} {K : zI → Prop} (hg : zGA g) {l1 : Int32} {l2 : Int32} {l3 : Int32} (h : (if (l2 ≤ l3 : Prop) then p_X8_legs_2 d g K σ l1 (l2 + 1) else zCV mX8_sums d [.ref 57, .int l2, .int l3] g σ (fun σ1 => vp_in l1 100 ∧ vp_in ((6 * l2) + l3) 36 ∧ vp_in l1 100 ∧ vp_in ((6 * l3) + l2) 36 ∧ p_X8_legs_12 d g K (zsI (zsI σ1 71 (((6 * l2) + l3 : Int32).toNatClampNeg) (σ1 68 l1.toNatClampNeg)) 71 (((6 * l3) + l2 : Int32).toNatClampNeg) (σ1 68 l1.toNatClampNeg)) l1 l2 (l3 + 1)))) : p_X8_legs_12 d g K σ l1 l2 l3 := by
  refine x_iload_n dX8_legs_12 rfl ?_
  refine x_iload_n dX8_legs_13 rfl ?_
  refine x_icmp_ge (tgt := 63) dX8_legs_14 rfl (fun q1 => ?_) (fun q1 => ?_)
  · replace h := itT q1 h
    refine x_iinc dX8_legs_63 rfl (v := l2 + 1) rfl rfl (Nat.le_of_ble_eq_true rfl) (L2 := [_, _, _, _]) rfl ?_
    refine x_goto (tgt := 2) dX8_legs_66 rfl ?_
    exact x_wk (wC (wC (wC (wN _)))) h
  · replace h := itF q1 h
    refine x_aload_n dX8_legs_17 rfl ?_
    refine x_iload_n dX8_legs_18 rfl ?_
    refine x_iload_n dX8_legs_19 rfl ?_
    refine x_callV (Y2 := mX8_sums) (as := [.int l2, .int l3]) (S := []) (kc2 := 0) (ks2 := 0) mv_mX8_sums (Or.inl ⟨8, _, rfl, rfl, (gA_57 hg)⟩) dX8_legs_20 lk_X8_245 mo_mX8_sums rfl rfl (Nat.le_of_ble_eq_true rfl) (Or.inl rfl) rfl rfl h ?_
    rintro _ _ σ1 ⟨rfl, rfl, h⟩
    change zX _ _ 0 0 23 _ [] _ _ _
    refine x_aload_n dX8_legs_23 rfl ?_
    refine x_getR dX8_legs_24 fl_X8_50 (gA_57 hg) rfl (gA_57_29 hg) ?_
    refine x_bipush (v := 6) dX8_legs_27 rfl ?_
    refine x_iload_n dX8_legs_29 rfl ?_
    refine x_imul dX8_legs_30 ?_
    refine x_iload_n dX8_legs_31 rfl ?_
    refine x_iadd dX8_legs_32 ?_
    refine x_aload_n dX8_legs_33 rfl ?_
    refine x_getR dX8_legs_34 fl_X8_40 (gA_57 hg) rfl (gA_57_26 hg) ?_
    refine x_iload_n dX8_legs_37 rfl ?_
    obtain ⟨q2, h⟩ := h
    refine x_iald dX8_legs_38 (gA_68 hg) q2 ?_
    obtain ⟨q3, h⟩ := h
    refine x_iast dX8_legs_39 (gA_71 hg) q3 ?_
    refine x_aload_n dX8_legs_40 rfl ?_
    refine x_getR dX8_legs_41 fl_X8_50 (gA_57 hg) rfl (gA_57_29 hg) ?_
    refine x_bipush (v := 6) dX8_legs_44 rfl ?_
    refine x_iload_n dX8_legs_46 rfl ?_
    refine x_imul dX8_legs_47 ?_
    refine x_iload_n dX8_legs_48 rfl ?_
    refine x_iadd dX8_legs_49 ?_
    refine x_aload_n dX8_legs_50 rfl ?_
    refine x_getR dX8_legs_51 fl_X8_40 (gA_57 hg) rfl (gA_57_26 hg) ?_
    refine x_iload_n dX8_legs_54 rfl ?_
    obtain ⟨q4, h⟩ := h
    refine x_iald dX8_legs_55 (gA_68 hg) q4 ?_
    obtain ⟨q5, h⟩ := h
    refine x_iast dX8_legs_56 (gA_71 hg) q5 ?_
    refine x_iinc dX8_legs_57 rfl (v := l3 + 1) rfl rfl (Nat.le_of_ble_eq_true rfl) (L2 := [_, _, _, _]) rfl ?_
    refine x_goto (tgt := 12) dX8_legs_60 rfl ?_
    exact h
abbrev p_X8_ways_2 (d : Nat) (g : zG) (K : zI → Prop) (σ : zI) (l1 : Int32) (l2 : Int32) : Prop := zX mX8_ways d 0 0 2 [.ref 57, .int l1, .int l2] [] g σ (zqV g K)
abbrev p_X8_ways_41 (d : Nat) (g : zG) (K : zI → Prop) (σ : zI) (l2 : Int32) : Prop := zX mX8_ways d 0 0 41 [.ref 57, .retAddr 0, .int l2] [] g σ (zqV g K)
abbrev p_X8_ways_49 (d : Nat) (g : zG) (K : zI → Prop) (σ : zI) (l2 : Int32) (l3 : Int32) : Prop := zX mX8_ways d 0 0 49 [.ref 57, .retAddr 0, .int l2, .int l3] [] g σ (zqV g K)
abbrev p_X8_ways_60 (d : Nat) (g : zG) (K : zI → Prop) (σ : zI) (l2 : Int32) (l3 : Int32) (l4 : Int32) : Prop := zX mX8_ways d 0 0 60 [.ref 57, .retAddr 0, .int l2, .int l3, .int l4] [] g σ (zqV g K)
set_option maxRecDepth 20000 in
theorem s_X8_ways {d : Nat} {g : zG} {σ : zI} {K : zI → Prop} (hg : zGA g) {l1 : Int32} (h : p_X8_ways_2 d g K σ l1 0) : zCV mX8_ways d [.ref 57, .int l1] g σ K := by
  refine c_of_x pn_mX8_ways rfl (Nat.le_of_ble_eq_true rfl) ?_
  change zX _ _ 0 0 0 [.ref 57, .int l1] [] g σ _
  refine x_iconst (v := 0) dX8_ways_0 rfl ?_
  refine x_istore_n dX8_ways_1 rfl (Nat.le_of_ble_eq_true rfl) (L2 := [_, _, _]) rfl ?_
  exact h
set_option maxRecDepth 20000 in
theorem s_X8_ways_2 {d : Nat} {g : zG} {σ : zI} {K : zI → Prop} (hg : zGA g) {l1 : Int32} {l2 : Int32} (h : (if ((σ 57 1) ≤ l2 : Prop) then p_X8_ways_41 d g K σ 0 else (if (l2 = l1 : Prop) then vp_in l2 6 ∧ vp_in l2 6 ∧ p_X8_ways_2 d g K (zsI (zsI σ 72 l2.toNatClampNeg 0) 73 l2.toNatClampNeg 0) l1 (l2 + 1) else vp_in l2 6 ∧ vp_in l2 6 ∧ p_X8_ways_2 d g K (zsI (zsI σ 72 l2.toNatClampNeg (-1)) 73 l2.toNatClampNeg 0) l1 (l2 + 1)))) : p_X8_ways_2 d g K σ l1 l2 := by
  refine x_iload_n dX8_ways_2 rfl ?_
  refine x_aload_n dX8_ways_3 rfl ?_
  refine x_getI dX8_ways_4 fl_X8_82 (gA_57 hg) rfl ?_
  refine x_icmp_ge (tgt := 39) dX8_ways_7 rfl (fun q1 => ?_) (fun q1 => ?_)
  · replace h := itT q1 h
    refine x_iconst (v := 0) dX8_ways_39 rfl ?_
    refine x_istore_n dX8_ways_40 rfl (Nat.le_of_ble_eq_true rfl) (L2 := [_, _, _]) rfl ?_
    exact x_wk (wC (wJ (wC (wN _)))) h
  · replace h := itF q1 h
    refine x_aload_n dX8_ways_10 rfl ?_
    refine x_getR dX8_ways_11 fl_X8_53 (gA_57 hg) rfl (gA_57_30 hg) ?_
    refine x_iload_n dX8_ways_14 rfl ?_
    refine x_iload_n dX8_ways_15 rfl ?_
    refine x_iload_n dX8_ways_16 rfl ?_
    refine x_icmp_ne (tgt := 24) dX8_ways_17 rfl (fun q2 => ?_) (fun q2 => ?_)
    · replace h := itF q2 h
      refine x_iconst (v := (-1)) dX8_ways_24 rfl ?_
      obtain ⟨q3, h⟩ := h
      refine x_iast dX8_ways_25 (gA_72 hg) q3 ?_
      refine x_aload_n dX8_ways_26 rfl ?_
      refine x_getR dX8_ways_27 fl_X8_56 (gA_57 hg) rfl (gA_57_31 hg) ?_
      refine x_iload_n dX8_ways_30 rfl ?_
      refine x_iconst (v := 0) dX8_ways_31 rfl ?_
      obtain ⟨q4, h⟩ := h
      refine x_iast dX8_ways_32 (gA_73 hg) q4 ?_
      refine x_iinc dX8_ways_33 rfl (v := l2 + 1) rfl rfl (Nat.le_of_ble_eq_true rfl) (L2 := [_, _, _]) rfl ?_
      refine x_goto (tgt := 2) dX8_ways_36 rfl ?_
      exact h
    · replace h := itT q2 h
      refine x_iconst (v := 0) dX8_ways_20 rfl ?_
      refine x_goto (tgt := 25) dX8_ways_21 rfl ?_
      obtain ⟨q3, h⟩ := h
      refine x_iast dX8_ways_25 (gA_72 hg) q3 ?_
      refine x_aload_n dX8_ways_26 rfl ?_
      refine x_getR dX8_ways_27 fl_X8_56 (gA_57 hg) rfl (gA_57_31 hg) ?_
      refine x_iload_n dX8_ways_30 rfl ?_
      refine x_iconst (v := 0) dX8_ways_31 rfl ?_
      obtain ⟨q4, h⟩ := h
      refine x_iast dX8_ways_32 (gA_73 hg) q4 ?_
      refine x_iinc dX8_ways_33 rfl (v := l2 + 1) rfl rfl (Nat.le_of_ble_eq_true rfl) (L2 := [_, _, _]) rfl ?_
      refine x_goto (tgt := 2) dX8_ways_36 rfl ?_
      exact h
set_option maxRecDepth 20000 in
theorem s_X8_ways_41 {d : Nat} {g : zG} {σ : zI} {K : zI → Prop} (hg : zGA g) {l2 : Int32} (h : (if (6 ≤ l2 : Prop) then K σ else p_X8_ways_49 d g K σ l2 0)) : p_X8_ways_41 d g K σ l2 := by
  refine x_iload_n dX8_ways_41 rfl ?_
  refine x_bipush (v := 6) dX8_ways_42 rfl ?_
  refine x_icmp_ge (tgt := 223) dX8_ways_44 rfl (fun q1 => ?_) (fun q1 => ?_)
  · replace h := itT q1 h
    exact x_vret (S := []) dX8_ways_223 rfl ⟨rfl, rfl, h⟩
  · replace h := itF q1 h
    refine x_iconst (v := 0) dX8_ways_47 rfl ?_
    refine x_istore_n dX8_ways_48 rfl (Nat.le_of_ble_eq_true rfl) (L2 := [_, _, _, _]) rfl ?_
    exact h
set_option maxRecDepth 20000 in
theorem s_X8_ways_49 {d : Nat} {g : zG} {σ : zI} {K : zI → Prop} (hg : zGA g) {l2 : Int32} {l3 : Int32} (h : (if ((σ 57 1) ≤ l3 : Prop) then p_X8_ways_41 d g K σ (l2 + 1) else p_X8_ways_60 d g K σ l2 l3 0)) : p_X8_ways_49 d g K σ l2 l3 := by
  refine x_iload_n dX8_ways_49 rfl ?_
  refine x_aload_n dX8_ways_50 rfl ?_
  refine x_getI dX8_ways_51 fl_X8_82 (gA_57 hg) rfl ?_
  refine x_icmp_ge (tgt := 217) dX8_ways_54 rfl (fun q1 => ?_) (fun q1 => ?_)
  · replace h := itT q1 h
    refine x_iinc dX8_ways_217 rfl (v := l2 + 1) rfl rfl (Nat.le_of_ble_eq_true rfl) (L2 := [_, _, _, _]) rfl ?_
    refine x_goto (tgt := 41) dX8_ways_220 rfl ?_
    exact x_wk (wC (wJ (wC (wN _)))) h
  · replace h := itF q1 h
    refine x_iconst (v := 0) dX8_ways_57 rfl ?_
    refine x_istore dX8_ways_58 rfl (Nat.le_of_ble_eq_true rfl) (L2 := [_, _, _, _, _]) rfl ?_
    exact h
set_option maxRecDepth 20000 in
theorem s_X8_ways_60 {d : Nat} {g : zG} {σ : zI} {K : zI → Prop} (hg : zGA g) {l2 : Int32} {l3 : Int32} {l4 : Int32} (h : (if ((σ 57 1) ≤ l4 : Prop) then p_X8_ways_49 d g K σ l2 (l3 + 1) else (if (l3 = l4 : Prop) then p_X8_ways_60 d g K σ l2 l3 (l4 + 1) else vp_in l3 6 ∧ (if ((σ 72 l3.toNatClampNeg) = (-1) : Prop) then p_X8_ways_60 d g K σ l2 l3 (l4 + 1) else vp_in ((6 * l3) + l4) 36 ∧ (if ((σ 71 (((6 * l3) + l4 : Int32).toNatClampNeg)) = (-1) : Prop) then p_X8_ways_60 d g K σ l2 l3 (l4 + 1) else vp_in l3 6 ∧ vp_in ((6 * l3) + l4) 36 ∧ vp_in l4 6 ∧ (if ((σ 72 l4.toNatClampNeg) = (-1) : Prop) then vp_in l4 6 ∧ vp_in l3 6 ∧ vp_in l4 6 ∧ p_X8_ways_60 d g K (zsI (zsI σ 72 l4.toNatClampNeg ((σ 72 l3.toNatClampNeg) + (σ 71 (((6 * l3) + l4 : Int32).toNatClampNeg)))) 73 l4.toNatClampNeg ((σ 73 l3.toNatClampNeg) + 1)) l2 l3 (l4 + 1) else vp_in l4 6 ∧ (if ((σ 72 l4.toNatClampNeg) < ((σ 72 l3.toNatClampNeg) + (σ 71 (((6 * l3) + l4 : Int32).toNatClampNeg))) : Prop) then p_X8_ways_60 d g K σ l2 l3 (l4 + 1) else vp_in l4 6 ∧ (if (((σ 72 l3.toNatClampNeg) + (σ 71 (((6 * l3) + l4 : Int32).toNatClampNeg))) = (σ 72 l4.toNatClampNeg) : Prop) then vp_in l3 6 ∧ vp_in l4 6 ∧ (if (((σ 73 l3.toNatClampNeg) + 1) < (σ 73 l4.toNatClampNeg) : Prop) then vp_in l4 6 ∧ vp_in l3 6 ∧ vp_in l4 6 ∧ p_X8_ways_60 d g K (zsI (zsI σ 72 l4.toNatClampNeg ((σ 72 l3.toNatClampNeg) + (σ 71 (((6 * l3) + l4 : Int32).toNatClampNeg)))) 73 l4.toNatClampNeg ((σ 73 l3.toNatClampNeg) + 1)) l2 l3 (l4 + 1) else p_X8_ways_60 d g K σ l2 l3 (l4 + 1)) else vp_in l4 6 ∧ vp_in l3 6 ∧ vp_in l4 6 ∧ p_X8_ways_60 d g K (zsI (zsI σ 72 l4.toNatClampNeg ((σ 72 l3.toNatClampNeg) + (σ 71 (((6 * l3) + l4 : Int32).toNatClampNeg)))) 73 l4.toNatClampNeg ((σ 73 l3.toNatClampNeg) + 1)) l2 l3 (l4 + 1))))))))) : p_X8_ways_60 d g K σ l2 l3 l4 := by
  refine x_iload dX8_ways_60 rfl ?_
  refine x_aload_n dX8_ways_62 rfl ?_
  refine x_getI dX8_ways_63 fl_X8_82 (gA_57 hg) rfl ?_
  refine x_icmp_ge (tgt := 211) dX8_ways_66 rfl (fun q1 => ?_) (fun q1 => ?_)
  · replace h := itT q1 h
    refine x_iinc dX8_ways_211 rfl (v := l3 + 1) rfl rfl (Nat.le_of_ble_eq_true rfl) (L2 := [_, _, _, _, _]) rfl ?_
    refine x_goto (tgt := 49) dX8_ways_214 rfl ?_
    exact x_wk (wC (wJ (wC (wC (wN _))))) h
  · replace h := itF q1 h
    refine x_iload_n dX8_ways_69 rfl ?_
    refine x_iload dX8_ways_70 rfl ?_
    refine x_icmp_eq (tgt := 205) dX8_ways_72 rfl (fun q2 => ?_) (fun q2 => ?_)
    · replace h := itT q2 h
      refine x_iinc dX8_ways_205 rfl (v := l4 + 1) rfl rfl (Nat.le_of_ble_eq_true rfl) (L2 := [_, _, _, _, _]) rfl ?_
      refine x_goto (tgt := 60) dX8_ways_208 rfl ?_
      exact h
    · replace h := itF q2 h
      refine x_aload_n dX8_ways_75 rfl ?_
      refine x_getR dX8_ways_76 fl_X8_53 (gA_57 hg) rfl (gA_57_30 hg) ?_
      refine x_iload_n dX8_ways_79 rfl ?_
      obtain ⟨q3, h⟩ := h
      refine x_iald dX8_ways_80 (gA_72 hg) q3 ?_
      refine x_iconst (v := (-1)) dX8_ways_81 rfl ?_
      refine x_icmp_eq (tgt := 205) dX8_ways_82 rfl (fun q4 => ?_) (fun q4 => ?_)
      · replace h := itT q4 h
        refine x_iinc dX8_ways_205 rfl (v := l4 + 1) rfl rfl (Nat.le_of_ble_eq_true rfl) (L2 := [_, _, _, _, _]) rfl ?_
        refine x_goto (tgt := 60) dX8_ways_208 rfl ?_
        exact h
      · replace h := itF q4 h
        refine x_aload_n dX8_ways_85 rfl ?_
        refine x_getR dX8_ways_86 fl_X8_50 (gA_57 hg) rfl (gA_57_29 hg) ?_
        refine x_bipush (v := 6) dX8_ways_89 rfl ?_
        refine x_iload_n dX8_ways_91 rfl ?_
        refine x_imul dX8_ways_92 ?_
        refine x_iload dX8_ways_93 rfl ?_
        refine x_iadd dX8_ways_95 ?_
        obtain ⟨q5, h⟩ := h
        refine x_iald dX8_ways_96 (gA_71 hg) q5 ?_
        refine x_iconst (v := (-1)) dX8_ways_97 rfl ?_
        refine x_icmp_ne (tgt := 104) dX8_ways_98 rfl (fun q6 => ?_) (fun q6 => ?_)
        · replace h := itF q6 h
          refine x_aload_n dX8_ways_104 rfl ?_
          refine x_getR dX8_ways_105 fl_X8_53 (gA_57 hg) rfl (gA_57_30 hg) ?_
          refine x_iload_n dX8_ways_108 rfl ?_
          obtain ⟨q7, h⟩ := h
          refine x_iald dX8_ways_109 (gA_72 hg) q7 ?_
          refine x_aload_n dX8_ways_110 rfl ?_
          refine x_getR dX8_ways_111 fl_X8_50 (gA_57 hg) rfl (gA_57_29 hg) ?_
          refine x_bipush (v := 6) dX8_ways_114 rfl ?_
          refine x_iload_n dX8_ways_116 rfl ?_
          refine x_imul dX8_ways_117 ?_
          refine x_iload dX8_ways_118 rfl ?_
          refine x_iadd dX8_ways_120 ?_
          obtain ⟨q8, h⟩ := h
          refine x_iald dX8_ways_121 (gA_71 hg) q8 ?_
          refine x_iadd dX8_ways_122 ?_
          refine x_istore dX8_ways_123 rfl (Nat.le_of_ble_eq_true rfl) (L2 := [_, _, _, _, _, _]) rfl ?_
          refine x_aload_n dX8_ways_125 rfl ?_
          refine x_getR dX8_ways_126 fl_X8_53 (gA_57 hg) rfl (gA_57_30 hg) ?_
          refine x_iload dX8_ways_129 rfl ?_
          obtain ⟨q9, h⟩ := h
          refine x_iald dX8_ways_131 (gA_72 hg) q9 ?_
          refine x_iconst (v := (-1)) dX8_ways_132 rfl ?_
          refine x_icmp_eq (tgt := 181) dX8_ways_133 rfl (fun q10 => ?_) (fun q10 => ?_)
          · replace h := itT q10 h
            refine x_aload_n dX8_ways_181 rfl ?_
            refine x_getR dX8_ways_182 fl_X8_53 (gA_57 hg) rfl (gA_57_30 hg) ?_
            refine x_iload dX8_ways_185 rfl ?_
            refine x_iload dX8_ways_187 rfl ?_
            obtain ⟨q11, h⟩ := h
            refine x_iast dX8_ways_189 (gA_72 hg) q11 ?_
            refine x_aload_n dX8_ways_190 rfl ?_
            refine x_getR dX8_ways_191 fl_X8_56 (gA_57 hg) rfl (gA_57_31 hg) ?_
            refine x_iload dX8_ways_194 rfl ?_
            refine x_aload_n dX8_ways_196 rfl ?_
            refine x_getR dX8_ways_197 fl_X8_56 (gA_57 hg) rfl (gA_57_31 hg) ?_
            refine x_iload_n dX8_ways_200 rfl ?_
            obtain ⟨q12, h⟩ := h
            refine x_iald dX8_ways_201 (gA_73 hg) q12 ?_
            refine x_iconst (v := 1) dX8_ways_202 rfl ?_
            refine x_iadd dX8_ways_203 ?_
            obtain ⟨q13, h⟩ := h
            refine x_iast dX8_ways_204 (gA_73 hg) q13 ?_
            refine x_iinc dX8_ways_205 rfl (v := l4 + 1) rfl rfl (Nat.le_of_ble_eq_true rfl) (L2 := [_, _, _, _, _, _]) rfl ?_
            refine x_goto (tgt := 60) dX8_ways_208 rfl ?_
            exact x_wk (wC (wJ (wC (wC (wC (wN _)))))) h
          · replace h := itF q10 h
            refine x_iload dX8_ways_136 rfl ?_
            refine x_aload_n dX8_ways_138 rfl ?_
            refine x_getR dX8_ways_139 fl_X8_53 (gA_57 hg) rfl (gA_57_30 hg) ?_
            refine x_iload dX8_ways_142 rfl ?_
            obtain ⟨q11, h⟩ := h
            refine x_iald dX8_ways_144 (gA_72 hg) q11 ?_
            refine x_icmp_gt (tgt := 205) dX8_ways_145 rfl (fun q12 => ?_) (fun q12 => ?_)
            · replace h := itT q12 h
              refine x_iinc dX8_ways_205 rfl (v := l4 + 1) rfl rfl (Nat.le_of_ble_eq_true rfl) (L2 := [_, _, _, _, _, _]) rfl ?_
              refine x_goto (tgt := 60) dX8_ways_208 rfl ?_
              exact x_wk (wC (wJ (wC (wC (wC (wN _)))))) h
            · replace h := itF q12 h
              refine x_iload dX8_ways_148 rfl ?_
              refine x_aload_n dX8_ways_150 rfl ?_
              refine x_getR dX8_ways_151 fl_X8_53 (gA_57 hg) rfl (gA_57_30 hg) ?_
              refine x_iload dX8_ways_154 rfl ?_
              obtain ⟨q13, h⟩ := h
              refine x_iald dX8_ways_156 (gA_72 hg) q13 ?_
              refine x_icmp_ne (tgt := 181) dX8_ways_157 rfl (fun q14 => ?_) (fun q14 => ?_)
              · replace h := itF q14 h
                refine x_aload_n dX8_ways_181 rfl ?_
                refine x_getR dX8_ways_182 fl_X8_53 (gA_57 hg) rfl (gA_57_30 hg) ?_
                refine x_iload dX8_ways_185 rfl ?_
                refine x_iload dX8_ways_187 rfl ?_
                obtain ⟨q15, h⟩ := h
                refine x_iast dX8_ways_189 (gA_72 hg) q15 ?_
                refine x_aload_n dX8_ways_190 rfl ?_
                refine x_getR dX8_ways_191 fl_X8_56 (gA_57 hg) rfl (gA_57_31 hg) ?_
                refine x_iload dX8_ways_194 rfl ?_
                refine x_aload_n dX8_ways_196 rfl ?_
                refine x_getR dX8_ways_197 fl_X8_56 (gA_57 hg) rfl (gA_57_31 hg) ?_
                refine x_iload_n dX8_ways_200 rfl ?_
                obtain ⟨q16, h⟩ := h
                refine x_iald dX8_ways_201 (gA_73 hg) q16 ?_
                refine x_iconst (v := 1) dX8_ways_202 rfl ?_
                refine x_iadd dX8_ways_203 ?_
                obtain ⟨q17, h⟩ := h
                refine x_iast dX8_ways_204 (gA_73 hg) q17 ?_
                refine x_iinc dX8_ways_205 rfl (v := l4 + 1) rfl rfl (Nat.le_of_ble_eq_true rfl) (L2 := [_, _, _, _, _, _]) rfl ?_
                refine x_goto (tgt := 60) dX8_ways_208 rfl ?_
                exact x_wk (wC (wJ (wC (wC (wC (wN _)))))) h
              · replace h := itT q14 h
                refine x_aload_n dX8_ways_160 rfl ?_
                refine x_getR dX8_ways_161 fl_X8_56 (gA_57 hg) rfl (gA_57_31 hg) ?_
                refine x_iload_n dX8_ways_164 rfl ?_
                obtain ⟨q15, h⟩ := h
                refine x_iald dX8_ways_165 (gA_73 hg) q15 ?_
                refine x_iconst (v := 1) dX8_ways_166 rfl ?_
                refine x_iadd dX8_ways_167 ?_
                refine x_aload_n dX8_ways_168 rfl ?_
                refine x_getR dX8_ways_169 fl_X8_56 (gA_57 hg) rfl (gA_57_31 hg) ?_
                refine x_iload dX8_ways_172 rfl ?_
                obtain ⟨q16, h⟩ := h
                refine x_iald dX8_ways_174 (gA_73 hg) q16 ?_
                refine x_icmp_lt (tgt := 181) dX8_ways_175 rfl (fun q17 => ?_) (fun q17 => ?_)
                · replace h := itT q17 h
                  refine x_aload_n dX8_ways_181 rfl ?_
                  refine x_getR dX8_ways_182 fl_X8_53 (gA_57 hg) rfl (gA_57_30 hg) ?_
                  refine x_iload dX8_ways_185 rfl ?_
                  refine x_iload dX8_ways_187 rfl ?_
                  obtain ⟨q18, h⟩ := h
                  refine x_iast dX8_ways_189 (gA_72 hg) q18 ?_
                  refine x_aload_n dX8_ways_190 rfl ?_
                  refine x_getR dX8_ways_191 fl_X8_56 (gA_57 hg) rfl (gA_57_31 hg) ?_
                  refine x_iload dX8_ways_194 rfl ?_
                  refine x_aload_n dX8_ways_196 rfl ?_
                  refine x_getR dX8_ways_197 fl_X8_56 (gA_57 hg) rfl (gA_57_31 hg) ?_
                  refine x_iload_n dX8_ways_200 rfl ?_
                  obtain ⟨q19, h⟩ := h
                  refine x_iald dX8_ways_201 (gA_73 hg) q19 ?_
                  refine x_iconst (v := 1) dX8_ways_202 rfl ?_
                  refine x_iadd dX8_ways_203 ?_
                  obtain ⟨q20, h⟩ := h
                  refine x_iast dX8_ways_204 (gA_73 hg) q20 ?_
                  refine x_iinc dX8_ways_205 rfl (v := l4 + 1) rfl rfl (Nat.le_of_ble_eq_true rfl) (L2 := [_, _, _, _, _, _]) rfl ?_
                  refine x_goto (tgt := 60) dX8_ways_208 rfl ?_
                  exact x_wk (wC (wJ (wC (wC (wC (wN _)))))) h
                · replace h := itF q17 h
                  refine x_goto (tgt := 205) dX8_ways_178 rfl ?_
                  refine x_iinc dX8_ways_205 rfl (v := l4 + 1) rfl rfl (Nat.le_of_ble_eq_true rfl) (L2 := [_, _, _, _, _, _]) rfl ?_
                  refine x_goto (tgt := 60) dX8_ways_208 rfl ?_
                  exact x_wk (wC (wJ (wC (wC (wC (wN _)))))) h
        · replace h := itT q6 h
          refine x_goto (tgt := 205) dX8_ways_101 rfl ?_
          refine x_iinc dX8_ways_205 rfl (v := l4 + 1) rfl rfl (Nat.le_of_ble_eq_true rfl) (L2 := [_, _, _, _, _]) rfl ?_
          refine x_goto (tgt := 60) dX8_ways_208 rfl ?_
          exact h
set_option maxRecDepth 20000 in
theorem s_X8_barred {d : Nat} {g : zG} {σ : zI} {K : Int32 → zI → Prop} (hg : zGA g) {l1 : Int32} {l2 : Int32} {l3 : Int32} (h : zCI mX8_areTwo d [.ref 57, .int l1, .int l2] g σ (fun v1 σ1 => (if (v1 = 0 : Prop) then K (-2) σ1 else zCI mX8_within d [.int l3, .int 0, .int 2] g σ1 (fun v2 σ2 => (if (v2 = 0 : Prop) then K (-2) σ2 else zCI mX8_barredOf d [.ref 57, .int l1, .int l2, .int l3] g σ2 (fun v3 σ3 => K v3 σ3)))))) : zCI mX8_barred (d + 1) [.ref 57, .int l1, .int l2, .int l3] g σ K := by
  refine c_of_x pn_mX8_barred rfl (Nat.le_of_ble_eq_true rfl) ?_
  change zX _ _ 0 0 0 [.ref 57, .int l1, .int l2, .int l3] [] g σ _
  refine x_aload_n dX8_barred_0 rfl ?_
  refine x_iload_n dX8_barred_1 rfl ?_
  refine x_iload_n dX8_barred_2 rfl ?_
  refine x_callV (Y2 := mX8_areTwo) (as := [.int l1, .int l2]) (S := []) (kc2 := 0) (ks2 := 0) mv_mX8_areTwo (Or.inl ⟨8, _, rfl, rfl, (gA_57 hg)⟩) dX8_barred_3 lk_X8_112 mo_mX8_areTwo rfl rfl (Nat.le_of_ble_eq_true rfl) (Or.inl rfl) rfl rfl h ?_
  rintro _ _ σ1 ⟨v1, rfl, rfl, h⟩
  change zX _ _ 0 0 6 _ [.int v1] _ _ _
  refine x_if_eq (tgt := 28) dX8_barred_6 rfl (fun q1 => ?_) (fun q1 => ?_)
  · replace h := itT q1 h
    refine x_bipush (v := (-2)) dX8_barred_28 rfl ?_
    exact x_iret (S := []) dX8_barred_30 rfl rfl ⟨_, rfl, rfl, h⟩
  · replace h := itF q1 h
    refine x_iload_n dX8_barred_9 rfl ?_
    refine x_iconst (v := 0) dX8_barred_10 rfl ?_
    refine x_iconst (v := 2) dX8_barred_11 rfl ?_
    refine x_callS (Y2 := mX8_within) (as := [.int l3, .int 0, .int 2]) (S := []) (kc2 := 0) (ks2 := 0) st_mX8_within dX8_barred_12 lk_X8_85 mo_mX8_within rfl rfl (Nat.le_of_ble_eq_true rfl) (Or.inl rfl) rfl rfl h ?_
    rintro _ _ σ2 ⟨v2, rfl, rfl, h⟩
    change zX _ _ 0 0 15 _ [.int v2] _ _ _
    refine x_if_eq (tgt := 28) dX8_barred_15 rfl (fun q2 => ?_) (fun q2 => ?_)
    · replace h := itT q2 h
      refine x_bipush (v := (-2)) dX8_barred_28 rfl ?_
      exact x_iret (S := []) dX8_barred_30 rfl rfl ⟨_, rfl, rfl, h⟩
    · replace h := itF q2 h
      refine x_aload_n dX8_barred_18 rfl ?_
      refine x_iload_n dX8_barred_19 rfl ?_
      refine x_iload_n dX8_barred_20 rfl ?_
      refine x_iload_n dX8_barred_21 rfl ?_
      refine x_callV (Y2 := mX8_barredOf) (as := [.int l1, .int l2, .int l3]) (S := []) (kc2 := 0) (ks2 := 0) mv_mX8_barredOf (Or.inl ⟨8, _, rfl, rfl, (gA_57 hg)⟩) dX8_barred_22 lk_X8_255 mo_mX8_barredOf rfl rfl (Nat.le_of_ble_eq_true rfl) (Or.inl rfl) rfl rfl h ?_
      rintro _ _ σ3 ⟨v3, rfl, rfl, h⟩
      change zX _ _ 0 0 25 _ [.int v3] _ _ _
      refine x_goto (tgt := 30) dX8_barred_25 rfl ?_
      exact x_iret (S := []) dX8_barred_30 rfl rfl ⟨_, rfl, rfl, h⟩
abbrev p_X8_barredOf_18 (d : Nat) (g : zG) (K : Int32 → zI → Prop) (σ : zI) (l1 : Int32) (l3 : Int32) (l4 : Int32) (l5 : Int32) (l6 : Int32) (l7 : Int32) : Prop := zX mX8_barredOf (d + 1) 0 0 18 [.ref 57, .int l1, .retAddr 0, .int l3, .int l4, .int l5, .int l6, .int l7] [] g σ (zqI g K)
set_option maxRecDepth 20000 in
theorem s_X8_barredOf {d : Nat} {g : zG} {σ : zI} {K : Int32 → zI → Prop} (hg : zGA g) {l1 : Int32} {l2 : Int32} {l3 : Int32} (h : zCV mX8_sums d [.ref 57, .int l1, .int l2] g σ (fun σ1 => p_X8_barredOf_18 d g K σ1 l1 l3 0 (-1) 0 1)) : zCI mX8_barredOf (d + 1) [.ref 57, .int l1, .int l2, .int l3] g σ K := by
  refine c_of_x pn_mX8_barredOf rfl (Nat.le_of_ble_eq_true rfl) ?_
  change zX _ _ 0 0 0 [.ref 57, .int l1, .int l2, .int l3] [] g σ _
  refine x_aload_n dX8_barredOf_0 rfl ?_
  refine x_iload_n dX8_barredOf_1 rfl ?_
  refine x_iload_n dX8_barredOf_2 rfl ?_
  refine x_callV (Y2 := mX8_sums) (as := [.int l1, .int l2]) (S := []) (kc2 := 0) (ks2 := 0) mv_mX8_sums (Or.inl ⟨8, _, rfl, rfl, (gA_57 hg)⟩) dX8_barredOf_3 lk_X8_245 mo_mX8_sums rfl rfl (Nat.le_of_ble_eq_true rfl) (Or.inl rfl) rfl rfl h ?_
  rintro _ _ σ1 ⟨rfl, rfl, h⟩
  change zX _ _ 0 0 6 _ [] _ _ _
  refine x_iconst (v := 0) dX8_barredOf_6 rfl ?_
  refine x_istore dX8_barredOf_7 rfl (Nat.le_of_ble_eq_true rfl) (L2 := [_, _, _, _, _]) rfl ?_
  refine x_iconst (v := (-1)) dX8_barredOf_9 rfl ?_
  refine x_istore dX8_barredOf_10 rfl (Nat.le_of_ble_eq_true rfl) (L2 := [_, _, _, _, _, _]) rfl ?_
  refine x_iconst (v := 0) dX8_barredOf_12 rfl ?_
  refine x_istore dX8_barredOf_13 rfl (Nat.le_of_ble_eq_true rfl) (L2 := [_, _, _, _, _, _, _]) rfl ?_
  refine x_iconst (v := 1) dX8_barredOf_15 rfl ?_
  refine x_istore dX8_barredOf_16 rfl (Nat.le_of_ble_eq_true rfl) (L2 := [_, _, _, _, _, _, _, _]) rfl ?_
  exact x_wk (wC (wC (wJ (wC (wC (wC (wC (wC (wN _))))))))) h
set_option maxRecDepth 20000 in
theorem s_X8_barredOf_18 {d : Nat} {g : zG} {σ : zI} {K : Int32 → zI → Prop} (hg : zGA g) {l1 : Int32} {l3 : Int32} {l4 : Int32} {l5 : Int32} {l6 : Int32} {l7 : Int32} (h : (if (100 ≤ l7 : Prop) then (if (l3 = 0 : Prop) then K l4 σ else (if (l3 = 1 : Prop) then K l5 σ else K l6 σ)) else vp_in l7 100 ∧ (if ((σ 68 l7.toNatClampNeg) = (-1) : Prop) then zCI mX8_isMeant d [.ref 57, .int l1, .int l7] g σ (fun v1 σ1 => (if (v1 = 0 : Prop) then p_X8_barredOf_18 d g K σ1 l1 l3 l4 l5 l6 (l7 + 1) else (if (l5 = (-1) : Prop) then zCI mX8_worthOf d [.ref 57, .int l1, .int l7] g σ1 (fun v2 σ2 => p_X8_barredOf_18 d g K σ2 l1 l3 (l4 + 1) l7 (l6 + v2) (l7 + 1)) else zCI mX8_worthOf d [.ref 57, .int l1, .int l7] g σ1 (fun v2 σ2 => p_X8_barredOf_18 d g K σ2 l1 l3 (l4 + 1) l5 (l6 + v2) (l7 + 1))))) else p_X8_barredOf_18 d g K σ l1 l3 l4 l5 l6 (l7 + 1)))) : p_X8_barredOf_18 d g K σ l1 l3 l4 l5 l6 l7 := by
  refine x_iload dX8_barredOf_18 rfl ?_
  refine x_bipush (v := 100) dX8_barredOf_20 rfl ?_
  refine x_icmp_ge (tgt := 80) dX8_barredOf_22 rfl (fun q1 => ?_) (fun q1 => ?_)
  · replace h := itT q1 h
    refine x_iload_n dX8_barredOf_80 rfl ?_
    refine x_if_ne (tgt := 89) dX8_barredOf_81 rfl (fun q2 => ?_) (fun q2 => ?_)
    · replace h := itF q2 h
      refine x_iload_n dX8_barredOf_89 rfl ?_
      refine x_iconst (v := 1) dX8_barredOf_90 rfl ?_
      refine x_icmp_ne (tgt := 99) dX8_barredOf_91 rfl (fun q3 => ?_) (fun q3 => ?_)
      · replace h := itF q3 h
        refine x_iload dX8_barredOf_99 rfl ?_
        exact x_iret (S := []) dX8_barredOf_101 rfl rfl ⟨_, rfl, rfl, h⟩
      · replace h := itT q3 h
        refine x_iload dX8_barredOf_94 rfl ?_
        refine x_goto (tgt := 101) dX8_barredOf_96 rfl ?_
        exact x_iret (S := []) dX8_barredOf_101 rfl rfl ⟨_, rfl, rfl, h⟩
    · replace h := itT q2 h
      refine x_iload dX8_barredOf_84 rfl ?_
      refine x_goto (tgt := 101) dX8_barredOf_86 rfl ?_
      exact x_iret (S := []) dX8_barredOf_101 rfl rfl ⟨_, rfl, rfl, h⟩
  · replace h := itF q1 h
    refine x_aload_n dX8_barredOf_25 rfl ?_
    refine x_getR dX8_barredOf_26 fl_X8_40 (gA_57 hg) rfl (gA_57_26 hg) ?_
    refine x_iload dX8_barredOf_29 rfl ?_
    obtain ⟨q2, h⟩ := h
    refine x_iald dX8_barredOf_31 (gA_68 hg) q2 ?_
    refine x_iconst (v := (-1)) dX8_barredOf_32 rfl ?_
    refine x_icmp_ne (tgt := 74) dX8_barredOf_33 rfl (fun q3 => ?_) (fun q3 => ?_)
    · replace h := itF q3 h
      refine x_iinc dX8_barredOf_74 rfl (v := l7 + 1) rfl rfl (Nat.le_of_ble_eq_true rfl) (L2 := [_, _, _, _, _, _, _, _]) rfl ?_
      refine x_goto (tgt := 18) dX8_barredOf_77 rfl ?_
      exact h
    · replace h := itT q3 h
      refine x_aload_n dX8_barredOf_36 rfl ?_
      refine x_iload_n dX8_barredOf_37 rfl ?_
      refine x_iload dX8_barredOf_38 rfl ?_
      refine x_callV (Y2 := mX8_isMeant) (as := [.int l1, .int l7]) (S := []) (kc2 := 0) (ks2 := 0) mv_mX8_isMeant (Or.inl ⟨8, _, rfl, rfl, (gA_57 hg)⟩) dX8_barredOf_40 lk_X8_239 mo_mX8_isMeant rfl rfl (Nat.le_of_ble_eq_true rfl) (Or.inl rfl) rfl rfl h ?_
      rintro _ _ σ1 ⟨v1, rfl, rfl, h⟩
      change zX _ _ 0 0 43 _ [.int v1] _ _ _
      refine x_if_ne (tgt := 49) dX8_barredOf_43 rfl (fun q4 => ?_) (fun q4 => ?_)
      · replace h := itF q4 h
        refine x_iinc dX8_barredOf_49 rfl (v := l4 + 1) rfl rfl (Nat.le_of_ble_eq_true rfl) (L2 := [_, _, _, _, _, _, _, _]) rfl ?_
        refine x_iload dX8_barredOf_52 rfl ?_
        refine x_iconst (v := (-1)) dX8_barredOf_54 rfl ?_
        refine x_icmp_ne (tgt := 62) dX8_barredOf_55 rfl (fun q5 => ?_) (fun q5 => ?_)
        · replace h := itF q5 h
          refine x_iload dX8_barredOf_62 rfl ?_
          refine x_aload_n dX8_barredOf_64 rfl ?_
          refine x_iload_n dX8_barredOf_65 rfl ?_
          refine x_iload dX8_barredOf_66 rfl ?_
          refine x_callV (Y2 := mX8_worthOf) (as := [.int l1, .int l7]) (S := [.int l6]) (kc2 := 0) (ks2 := 0) mv_mX8_worthOf (Or.inl ⟨8, _, rfl, rfl, (gA_57 hg)⟩) dX8_barredOf_68 lk_X8_242 mo_mX8_worthOf rfl rfl (Nat.le_of_ble_eq_true rfl) (Or.inl rfl) rfl rfl h ?_
          rintro _ _ σ2 ⟨v2, rfl, rfl, h⟩
          change zX _ _ 0 0 71 _ [.int v2, .int l6] _ _ _
          refine x_iadd dX8_barredOf_71 ?_
          refine x_istore dX8_barredOf_72 rfl (Nat.le_of_ble_eq_true rfl) (L2 := [_, _, _, _, _, _, _, _]) rfl ?_
          refine x_iinc dX8_barredOf_74 rfl (v := l7 + 1) rfl rfl (Nat.le_of_ble_eq_true rfl) (L2 := [_, _, _, _, _, _, _, _]) rfl ?_
          refine x_goto (tgt := 18) dX8_barredOf_77 rfl ?_
          exact h
        · replace h := itT q5 h
          refine x_iload dX8_barredOf_58 rfl ?_
          refine x_istore dX8_barredOf_60 rfl (Nat.le_of_ble_eq_true rfl) (L2 := [_, _, _, _, _, _, _, _]) rfl ?_
          refine x_iload dX8_barredOf_62 rfl ?_
          refine x_aload_n dX8_barredOf_64 rfl ?_
          refine x_iload_n dX8_barredOf_65 rfl ?_
          refine x_iload dX8_barredOf_66 rfl ?_
          refine x_callV (Y2 := mX8_worthOf) (as := [.int l1, .int l7]) (S := [.int l6]) (kc2 := 0) (ks2 := 0) mv_mX8_worthOf (Or.inl ⟨8, _, rfl, rfl, (gA_57 hg)⟩) dX8_barredOf_68 lk_X8_242 mo_mX8_worthOf rfl rfl (Nat.le_of_ble_eq_true rfl) (Or.inl rfl) rfl rfl h ?_
          rintro _ _ σ2 ⟨v2, rfl, rfl, h⟩
          change zX _ _ 0 0 71 _ [.int v2, .int l6] _ _ _
          refine x_iadd dX8_barredOf_71 ?_
          refine x_istore dX8_barredOf_72 rfl (Nat.le_of_ble_eq_true rfl) (L2 := [_, _, _, _, _, _, _, _]) rfl ?_
          refine x_iinc dX8_barredOf_74 rfl (v := l7 + 1) rfl rfl (Nat.le_of_ble_eq_true rfl) (L2 := [_, _, _, _, _, _, _, _]) rfl ?_
          refine x_goto (tgt := 18) dX8_barredOf_77 rfl ?_
          exact h
      · replace h := itT q4 h
        refine x_goto (tgt := 74) dX8_barredOf_46 rfl ?_
        refine x_iinc dX8_barredOf_74 rfl (v := l7 + 1) rfl rfl (Nat.le_of_ble_eq_true rfl) (L2 := [_, _, _, _, _, _, _, _]) rfl ?_
        refine x_goto (tgt := 18) dX8_barredOf_77 rfl ?_
        exact h
abbrev p_X8_silent_14 (d : Nat) (g : zG) (K : Int32 → zI → Prop) (σ : zI) (l1 : Int32) (l2 : Int32) : Prop := zX mX8_silent (d + 1) 0 0 14 [.ref 57, .int l1, .int l2] [] g σ (zqI g K)
abbrev p_X8_silent_35 (d : Nat) (g : zG) (K : Int32 → zI → Prop) (σ : zI) (l1 : Int32) (l2 : Int32) : Prop := zX mX8_silent (d + 1) 0 0 35 [.ref 57, .int l1, .int l2] [] g σ (zqI g K)
abbrev p_X8_silent_45 (d : Nat) (g : zG) (K : Int32 → zI → Prop) (σ : zI) (l1 : Int32) (l2 : Int32) (l3 : Int32) : Prop := zX mX8_silent (d + 1) 0 0 45 [.ref 57, .int l1, .int l2, .int l3] [] g σ (zqI g K)
abbrev p_X8_silent_59 (d : Nat) (g : zG) (K : Int32 → zI → Prop) (σ : zI) (l1 : Int32) (l2 : Int32) (l3 : Int32) (l4 : Int32) : Prop := zX mX8_silent (d + 1) 0 0 59 [.ref 57, .int l1, .int l2, .int l3, .int l4] [] g σ (zqI g K)
abbrev p_X8_silent_111 (d : Nat) (g : zG) (K : Int32 → zI → Prop) (σ : zI) (l1 : Int32) (l2 : Int32) (l3 : Int32) (l4 : Int32) : Prop := zX mX8_silent (d + 1) 0 0 111 [.ref 57, .int l1, .int l2, .int l3, .int l4] [] g σ (zqI g K)
set_option maxRecDepth 20000 in
theorem s_X8_silent {d : Nat} {g : zG} {σ : zI} {K : Int32 → zI → Prop} (hg : zGA g) {l1 : Int32} (h : zCI mX8_within d [.int l1, .int 0, .int 1] g σ (fun v1 σ1 => (if (v1 = 0 : Prop) then K (-2) σ1 else p_X8_silent_14 d g K σ1 l1 1))) : zCI mX8_silent (d + 1) [.ref 57, .int l1] g σ K := by
  refine c_of_x pn_mX8_silent rfl (Nat.le_of_ble_eq_true rfl) ?_
  change zX _ _ 0 0 0 [.ref 57, .int l1] [] g σ _
  refine x_iload_n dX8_silent_0 rfl ?_
  refine x_iconst (v := 0) dX8_silent_1 rfl ?_
  refine x_iconst (v := 1) dX8_silent_2 rfl ?_
  refine x_callS (Y2 := mX8_within) (as := [.int l1, .int 0, .int 1]) (S := []) (kc2 := 0) (ks2 := 0) st_mX8_within dX8_silent_3 lk_X8_85 mo_mX8_within rfl rfl (Nat.le_of_ble_eq_true rfl) (Or.inl rfl) rfl rfl h ?_
  rintro _ _ σ1 ⟨v1, rfl, rfl, h⟩
  change zX _ _ 0 0 6 _ [.int v1] _ _ _
  refine x_if_ne (tgt := 12) dX8_silent_6 rfl (fun q1 => ?_) (fun q1 => ?_)
  · replace h := itF q1 h
    refine x_iconst (v := 1) dX8_silent_12 rfl ?_
    refine x_istore_n dX8_silent_13 rfl (Nat.le_of_ble_eq_true rfl) (L2 := [_, _, _]) rfl ?_
    exact h
  · replace h := itT q1 h
    refine x_bipush (v := (-2)) dX8_silent_9 rfl ?_
    exact x_iret (S := []) dX8_silent_11 rfl rfl ⟨_, rfl, rfl, h⟩
set_option maxRecDepth 20000 in
theorem s_X8_silent_14 {d : Nat} {g : zG} {σ : zI} {K : Int32 → zI → Prop} (hg : zGA g) {l1 : Int32} {l2 : Int32} (h : (if (100 ≤ l2 : Prop) then p_X8_silent_35 d g K σ l1 0 else vp_in l2 100 ∧ p_X8_silent_14 d g K (zsI σ 70 l2.toNatClampNeg 0) l1 (l2 + 1))) : p_X8_silent_14 d g K σ l1 l2 := by
  refine x_iload_n dX8_silent_14 rfl ?_
  refine x_bipush (v := 100) dX8_silent_15 rfl ?_
  refine x_icmp_ge (tgt := 33) dX8_silent_17 rfl (fun q1 => ?_) (fun q1 => ?_)
  · replace h := itT q1 h
    refine x_iconst (v := 0) dX8_silent_33 rfl ?_
    refine x_istore_n dX8_silent_34 rfl (Nat.le_of_ble_eq_true rfl) (L2 := [_, _, _]) rfl ?_
    exact h
  · replace h := itF q1 h
    refine x_aload_n dX8_silent_20 rfl ?_
    refine x_getR dX8_silent_21 fl_X8_46 (gA_57 hg) rfl (gA_57_28 hg) ?_
    refine x_iload_n dX8_silent_24 rfl ?_
    refine x_iconst (v := 0) dX8_silent_25 rfl ?_
    obtain ⟨q2, h⟩ := h
    refine x_zast dX8_silent_26 (gA_70 hg) q2 (Or.inl rfl) ?_
    refine x_iinc dX8_silent_27 rfl (v := l2 + 1) rfl rfl (Nat.le_of_ble_eq_true rfl) (L2 := [_, _, _]) rfl ?_
    refine x_goto (tgt := 14) dX8_silent_30 rfl ?_
    exact h
set_option maxRecDepth 20000 in
theorem s_X8_silent_35 {d : Nat} {g : zG} {σ : zI} {K : Int32 → zI → Prop} (hg : zGA g) {l1 : Int32} {l2 : Int32} (h : (if ((σ 57 1) ≤ l2 : Prop) then p_X8_silent_111 d g K σ l1 0 (-1) 99 else p_X8_silent_45 d g K σ l1 l2 0)) : p_X8_silent_35 d g K σ l1 l2 := by
  refine x_iload_n dX8_silent_35 rfl ?_
  refine x_aload_n dX8_silent_36 rfl ?_
  refine x_getI dX8_silent_37 fl_X8_82 (gA_57 hg) rfl ?_
  refine x_icmp_ge (tgt := 103) dX8_silent_40 rfl (fun q1 => ?_) (fun q1 => ?_)
  · replace h := itT q1 h
    refine x_iconst (v := 0) dX8_silent_103 rfl ?_
    refine x_istore_n dX8_silent_104 rfl (Nat.le_of_ble_eq_true rfl) (L2 := [_, _, _]) rfl ?_
    refine x_iconst (v := (-1)) dX8_silent_105 rfl ?_
    refine x_istore_n dX8_silent_106 rfl (Nat.le_of_ble_eq_true rfl) (L2 := [_, _, _, _]) rfl ?_
    refine x_bipush (v := 99) dX8_silent_107 rfl ?_
    refine x_istore dX8_silent_109 rfl (Nat.le_of_ble_eq_true rfl) (L2 := [_, _, _, _, _]) rfl ?_
    exact h
  · replace h := itF q1 h
    refine x_iconst (v := 0) dX8_silent_43 rfl ?_
    refine x_istore_n dX8_silent_44 rfl (Nat.le_of_ble_eq_true rfl) (L2 := [_, _, _, _]) rfl ?_
    exact h
set_option maxRecDepth 20000 in
theorem s_X8_silent_111 {d : Nat} {g : zG} {σ : zI} {K : Int32 → zI → Prop} (hg : zGA g) {l1 : Int32} {l2 : Int32} {l3 : Int32} {l4 : Int32} (h : (if (l4 ≤ 0 : Prop) then (if (l1 = 0 : Prop) then K l2 σ else K l3 σ) else vp_in l4 100 ∧ (if ((σ 70 l4.toNatClampNeg) = 0 : Prop) then p_X8_silent_111 d g K σ l1 (l2 + 1) l4 (l4 + (-1)) else p_X8_silent_111 d g K σ l1 l2 l3 (l4 + (-1))))) : p_X8_silent_111 d g K σ l1 l2 l3 l4 := by
  refine x_iload dX8_silent_111 rfl ?_
  refine x_if_le (tgt := 141) dX8_silent_113 rfl (fun q1 => ?_) (fun q1 => ?_)
  · replace h := itT q1 h
    refine x_iload_n dX8_silent_141 rfl ?_
    refine x_if_ne (tgt := 149) dX8_silent_142 rfl (fun q2 => ?_) (fun q2 => ?_)
    · replace h := itF q2 h
      refine x_iload_n dX8_silent_149 rfl ?_
      exact x_iret (S := []) dX8_silent_150 rfl rfl ⟨_, rfl, rfl, h⟩
    · replace h := itT q2 h
      refine x_iload_n dX8_silent_145 rfl ?_
      refine x_goto (tgt := 150) dX8_silent_146 rfl ?_
      exact x_iret (S := []) dX8_silent_150 rfl rfl ⟨_, rfl, rfl, h⟩
  · replace h := itF q1 h
    refine x_aload_n dX8_silent_116 rfl ?_
    refine x_getR dX8_silent_117 fl_X8_46 (gA_57 hg) rfl (gA_57_28 hg) ?_
    refine x_iload dX8_silent_120 rfl ?_
    obtain ⟨q2, h⟩ := h
    refine x_zald dX8_silent_122 (gA_70 hg) q2 ?_
    refine x_if_eq (tgt := 129) dX8_silent_123 rfl (fun q3 => ?_) (fun q3 => ?_)
    · replace h := itT q3 h
      refine x_iinc dX8_silent_129 rfl (v := l2 + 1) rfl rfl (Nat.le_of_ble_eq_true rfl) (L2 := [_, _, _, _, _]) rfl ?_
      refine x_iload dX8_silent_132 rfl ?_
      refine x_istore_n dX8_silent_134 rfl (Nat.le_of_ble_eq_true rfl) (L2 := [_, _, _, _, _]) rfl ?_
      refine x_iinc dX8_silent_135 rfl (v := l4 + (-1)) rfl rfl (Nat.le_of_ble_eq_true rfl) (L2 := [_, _, _, _, _]) rfl ?_
      refine x_goto (tgt := 111) dX8_silent_138 rfl ?_
      exact h
    · replace h := itF q3 h
      refine x_goto (tgt := 135) dX8_silent_126 rfl ?_
      refine x_iinc dX8_silent_135 rfl (v := l4 + (-1)) rfl rfl (Nat.le_of_ble_eq_true rfl) (L2 := [_, _, _, _, _]) rfl ?_
      refine x_goto (tgt := 111) dX8_silent_138 rfl ?_
      exact h
set_option maxRecDepth 20000 in
theorem s_X8_silent_45 {d : Nat} {g : zG} {σ : zI} {K : Int32 → zI → Prop} (hg : zGA g) {l1 : Int32} {l2 : Int32} {l3 : Int32} (h : (if (l2 ≤ l3 : Prop) then p_X8_silent_35 d g K σ l1 (l2 + 1) else zCV mX8_sums d [.ref 57, .int l2, .int l3] g σ (fun σ1 => p_X8_silent_59 d g K σ1 l1 l2 l3 1))) : p_X8_silent_45 d g K σ l1 l2 l3 := by
  refine x_iload_n dX8_silent_45 rfl ?_
  refine x_iload_n dX8_silent_46 rfl ?_
  refine x_icmp_ge (tgt := 97) dX8_silent_47 rfl (fun q1 => ?_) (fun q1 => ?_)
  · replace h := itT q1 h
    refine x_iinc dX8_silent_97 rfl (v := l2 + 1) rfl rfl (Nat.le_of_ble_eq_true rfl) (L2 := [_, _, _, _]) rfl ?_
    refine x_goto (tgt := 35) dX8_silent_100 rfl ?_
    exact x_wk (wC (wC (wC (wN _)))) h
  · replace h := itF q1 h
    refine x_aload_n dX8_silent_50 rfl ?_
    refine x_iload_n dX8_silent_51 rfl ?_
    refine x_iload_n dX8_silent_52 rfl ?_
    refine x_callV (Y2 := mX8_sums) (as := [.int l2, .int l3]) (S := []) (kc2 := 0) (ks2 := 0) mv_mX8_sums (Or.inl ⟨8, _, rfl, rfl, (gA_57 hg)⟩) dX8_silent_53 lk_X8_245 mo_mX8_sums rfl rfl (Nat.le_of_ble_eq_true rfl) (Or.inl rfl) rfl rfl h ?_
    rintro _ _ σ1 ⟨rfl, rfl, h⟩
    change zX _ _ 0 0 56 _ [] _ _ _
    refine x_iconst (v := 1) dX8_silent_56 rfl ?_
    refine x_istore dX8_silent_57 rfl (Nat.le_of_ble_eq_true rfl) (L2 := [_, _, _, _, _]) rfl ?_
    exact h
set_option maxRecDepth 20000 in
theorem s_X8_silent_59 {d : Nat} {g : zG} {σ : zI} {K : Int32 → zI → Prop} (hg : zGA g) {l1 : Int32} {l2 : Int32} {l3 : Int32} {l4 : Int32} (h : (if (100 ≤ l4 : Prop) then p_X8_silent_45 d g K σ l1 l2 (l3 + 1) else vp_in l4 100 ∧ (if ((σ 68 l4.toNatClampNeg) = (-1) : Prop) then p_X8_silent_59 d g K σ l1 l2 l3 (l4 + 1) else vp_in l4 100 ∧ p_X8_silent_59 d g K (zsI σ 70 l4.toNatClampNeg 1) l1 l2 l3 (l4 + 1)))) : p_X8_silent_59 d g K σ l1 l2 l3 l4 := by
  refine x_iload dX8_silent_59 rfl ?_
  refine x_bipush (v := 100) dX8_silent_61 rfl ?_
  refine x_icmp_ge (tgt := 91) dX8_silent_63 rfl (fun q1 => ?_) (fun q1 => ?_)
  · replace h := itT q1 h
    refine x_iinc dX8_silent_91 rfl (v := l3 + 1) rfl rfl (Nat.le_of_ble_eq_true rfl) (L2 := [_, _, _, _, _]) rfl ?_
    refine x_goto (tgt := 45) dX8_silent_94 rfl ?_
    exact x_wk (wC (wC (wC (wC (wN _))))) h
  · replace h := itF q1 h
    refine x_aload_n dX8_silent_66 rfl ?_
    refine x_getR dX8_silent_67 fl_X8_40 (gA_57 hg) rfl (gA_57_26 hg) ?_
    refine x_iload dX8_silent_70 rfl ?_
    obtain ⟨q2, h⟩ := h
    refine x_iald dX8_silent_72 (gA_68 hg) q2 ?_
    refine x_iconst (v := (-1)) dX8_silent_73 rfl ?_
    refine x_icmp_eq (tgt := 85) dX8_silent_74 rfl (fun q3 => ?_) (fun q3 => ?_)
    · replace h := itT q3 h
      refine x_iinc dX8_silent_85 rfl (v := l4 + 1) rfl rfl (Nat.le_of_ble_eq_true rfl) (L2 := [_, _, _, _, _]) rfl ?_
      refine x_goto (tgt := 59) dX8_silent_88 rfl ?_
      exact h
    · replace h := itF q3 h
      refine x_aload_n dX8_silent_77 rfl ?_
      refine x_getR dX8_silent_78 fl_X8_46 (gA_57 hg) rfl (gA_57_28 hg) ?_
      refine x_iload dX8_silent_81 rfl ?_
      refine x_iconst (v := 1) dX8_silent_83 rfl ?_
      obtain ⟨q4, h⟩ := h
      refine x_zast dX8_silent_84 (gA_70 hg) q4 (Or.inr rfl) ?_
      refine x_iinc dX8_silent_85 rfl (v := l4 + 1) rfl rfl (Nat.le_of_ble_eq_true rfl) (L2 := [_, _, _, _, _]) rfl ?_
      refine x_goto (tgt := 59) dX8_silent_88 rfl ?_
      exact h
abbrev p_X8_middle_35 (d : Nat) (g : zG) (K : Int32 → zI → Prop) (σ : zI) (l2 : Int32) (l3 : Int32) (l4 : Int32) (l5 : Int32) : Prop := zX mX8_middle (d + 1) 0 0 35 [.ref 57, .retAddr 0, .int l2, .int l3, .int l4, .int l5] [] g σ (zqI g K)
abbrev p_X8_middle_50 (d : Nat) (g : zG) (K : Int32 → zI → Prop) (σ : zI) (l2 : Int32) (l3 : Int32) (l4 : Int32) (l5 : Int32) (l6 : Int32) (l7 : Int32) : Prop := zX mX8_middle (d + 1) 0 0 50 [.ref 57, .retAddr 0, .int l2, .int l3, .int l4, .int l5, .int l6, .int l7] [] g σ (zqI g K)
abbrev p_X8_middle_62 (d : Nat) (g : zG) (K : Int32 → zI → Prop) (σ : zI) (l2 : Int32) (l3 : Int32) (l4 : Int32) (l5 : Int32) (l6 : Int32) (l7 : Int32) (l8 : Int32) : Prop := zX mX8_middle (d + 1) 0 0 62 [.ref 57, .retAddr 0, .int l2, .int l3, .int l4, .int l5, .int l6, .int l7, .int l8] [] g σ (zqI g K)
set_option maxRecDepth 20000 in
theorem s_X8_middle {d : Nat} {g : zG} {σ : zI} {K : Int32 → zI → Prop} (hg : zGA g) {l1 : Int32} {l2 : Int32} (h : zCI mX8_within d [.int l1, .int 1, .int 99] g σ (fun v1 σ1 => (if (v1 = 0 : Prop) then K (-2) σ1 else zCI mX8_within d [.int l2, .int 0, .int 1] g σ1 (fun v2 σ2 => (if (v2 = 0 : Prop) then K (-2) σ2 else zCV mX8_legs d [.ref 57, .int l1] g σ2 (fun σ3 => p_X8_middle_35 d g K σ3 l2 (-1) 0 0)))))) : zCI mX8_middle (d + 1) [.ref 57, .int l1, .int l2] g σ K := by
  refine c_of_x pn_mX8_middle rfl (Nat.le_of_ble_eq_true rfl) ?_
  change zX _ _ 0 0 0 [.ref 57, .int l1, .int l2] [] g σ _
  refine x_iload_n dX8_middle_0 rfl ?_
  refine x_iconst (v := 1) dX8_middle_1 rfl ?_
  refine x_bipush (v := 99) dX8_middle_2 rfl ?_
  refine x_callS (Y2 := mX8_within) (as := [.int l1, .int 1, .int 99]) (S := []) (kc2 := 0) (ks2 := 0) st_mX8_within dX8_middle_4 lk_X8_85 mo_mX8_within rfl rfl (Nat.le_of_ble_eq_true rfl) (Or.inl rfl) rfl rfl h ?_
  rintro _ _ σ1 ⟨v1, rfl, rfl, h⟩
  change zX _ _ 0 0 7 _ [.int v1] _ _ _
  refine x_if_eq (tgt := 19) dX8_middle_7 rfl (fun q1 => ?_) (fun q1 => ?_)
  · replace h := itT q1 h
    refine x_bipush (v := (-2)) dX8_middle_19 rfl ?_
    exact x_iret (S := []) dX8_middle_21 rfl rfl ⟨_, rfl, rfl, h⟩
  · replace h := itF q1 h
    refine x_iload_n dX8_middle_10 rfl ?_
    refine x_iconst (v := 0) dX8_middle_11 rfl ?_
    refine x_iconst (v := 1) dX8_middle_12 rfl ?_
    refine x_callS (Y2 := mX8_within) (as := [.int l2, .int 0, .int 1]) (S := []) (kc2 := 0) (ks2 := 0) st_mX8_within dX8_middle_13 lk_X8_85 mo_mX8_within rfl rfl (Nat.le_of_ble_eq_true rfl) (Or.inl rfl) rfl rfl h ?_
    rintro _ _ σ2 ⟨v2, rfl, rfl, h⟩
    change zX _ _ 0 0 16 _ [.int v2] _ _ _
    refine x_if_ne (tgt := 22) dX8_middle_16 rfl (fun q2 => ?_) (fun q2 => ?_)
    · replace h := itF q2 h
      refine x_aload_n dX8_middle_22 rfl ?_
      refine x_iload_n dX8_middle_23 rfl ?_
      refine x_callV (Y2 := mX8_legs) (as := [.int l1]) (S := []) (kc2 := 0) (ks2 := 0) mv_mX8_legs (Or.inl ⟨8, _, rfl, rfl, (gA_57 hg)⟩) dX8_middle_24 lk_X8_249 mo_mX8_legs rfl rfl (Nat.le_of_ble_eq_true rfl) (Or.inl rfl) rfl rfl h ?_
      rintro _ _ σ3 ⟨rfl, rfl, h⟩
      change zX _ _ 0 0 27 _ [] _ _ _
      refine x_iconst (v := (-1)) dX8_middle_27 rfl ?_
      refine x_istore_n dX8_middle_28 rfl (Nat.le_of_ble_eq_true rfl) (L2 := [_, _, _, _]) rfl ?_
      refine x_iconst (v := 0) dX8_middle_29 rfl ?_
      refine x_istore dX8_middle_30 rfl (Nat.le_of_ble_eq_true rfl) (L2 := [_, _, _, _, _]) rfl ?_
      refine x_iconst (v := 0) dX8_middle_32 rfl ?_
      refine x_istore dX8_middle_33 rfl (Nat.le_of_ble_eq_true rfl) (L2 := [_, _, _, _, _, _]) rfl ?_
      exact x_wk (wC (wJ (wC (wC (wC (wC (wN _))))))) h
    · replace h := itT q2 h
      refine x_bipush (v := (-2)) dX8_middle_19 rfl ?_
      exact x_iret (S := []) dX8_middle_21 rfl rfl ⟨_, rfl, rfl, h⟩
set_option maxRecDepth 20000 in
theorem s_X8_middle_35 {d : Nat} {g : zG} {σ : zI} {K : Int32 → zI → Prop} (hg : zGA g) {l2 : Int32} {l3 : Int32} {l4 : Int32} {l5 : Int32} (h : (if ((σ 57 1) ≤ l5 : Prop) then (if (l2 = 0 : Prop) then K l3 σ else K l4 σ) else p_X8_middle_50 d g K σ l2 l3 l4 l5 0 0)) : p_X8_middle_35 d g K σ l2 l3 l4 l5 := by
  refine x_iload dX8_middle_35 rfl ?_
  refine x_aload_n dX8_middle_37 rfl ?_
  refine x_getI dX8_middle_38 fl_X8_82 (gA_57 hg) rfl ?_
  refine x_icmp_ge (tgt := 152) dX8_middle_41 rfl (fun q1 => ?_) (fun q1 => ?_)
  · replace h := itT q1 h
    refine x_iload_n dX8_middle_152 rfl ?_
    refine x_if_ne (tgt := 160) dX8_middle_153 rfl (fun q2 => ?_) (fun q2 => ?_)
    · replace h := itF q2 h
      refine x_iload dX8_middle_160 rfl ?_
      exact x_iret (S := []) dX8_middle_162 rfl rfl ⟨_, rfl, rfl, h⟩
    · replace h := itT q2 h
      refine x_iload_n dX8_middle_156 rfl ?_
      refine x_goto (tgt := 162) dX8_middle_157 rfl ?_
      exact x_iret (S := []) dX8_middle_162 rfl rfl ⟨_, rfl, rfl, h⟩
  · replace h := itF q1 h
    refine x_iconst (v := 0) dX8_middle_44 rfl ?_
    refine x_istore dX8_middle_45 rfl (Nat.le_of_ble_eq_true rfl) (L2 := [_, _, _, _, _, _, _]) rfl ?_
    refine x_iconst (v := 0) dX8_middle_47 rfl ?_
    refine x_istore dX8_middle_48 rfl (Nat.le_of_ble_eq_true rfl) (L2 := [_, _, _, _, _, _, _, _]) rfl ?_
    exact h
set_option maxRecDepth 20000 in
theorem s_X8_middle_50 {d : Nat} {g : zG} {σ : zI} {K : Int32 → zI → Prop} (hg : zGA g) {l2 : Int32} {l3 : Int32} {l4 : Int32} {l5 : Int32} {l6 : Int32} {l7 : Int32} (h : (if ((σ 57 1) ≤ l7 : Prop) then (if (l4 < l6 : Prop) then p_X8_middle_35 d g K σ l2 l5 l6 (l5 + 1) else p_X8_middle_35 d g K σ l2 l3 l4 (l5 + 1)) else p_X8_middle_62 d g K σ l2 l3 l4 l5 l6 l7 0)) : p_X8_middle_50 d g K σ l2 l3 l4 l5 l6 l7 := by
  refine x_iload dX8_middle_50 rfl ?_
  refine x_aload_n dX8_middle_52 rfl ?_
  refine x_getI dX8_middle_53 fl_X8_82 (gA_57 hg) rfl ?_
  refine x_icmp_ge (tgt := 129) dX8_middle_56 rfl (fun q1 => ?_) (fun q1 => ?_)
  · replace h := itT q1 h
    refine x_iload dX8_middle_129 rfl ?_
    refine x_iload dX8_middle_131 rfl ?_
    refine x_icmp_gt (tgt := 139) dX8_middle_133 rfl (fun q2 => ?_) (fun q2 => ?_)
    · replace h := itT q2 h
      refine x_iload dX8_middle_139 rfl ?_
      refine x_istore dX8_middle_141 rfl (Nat.le_of_ble_eq_true rfl) (L2 := [_, _, _, _, _, _, _, _]) rfl ?_
      refine x_iload dX8_middle_143 rfl ?_
      refine x_istore_n dX8_middle_145 rfl (Nat.le_of_ble_eq_true rfl) (L2 := [_, _, _, _, _, _, _, _]) rfl ?_
      refine x_iinc dX8_middle_146 rfl (v := l5 + 1) rfl rfl (Nat.le_of_ble_eq_true rfl) (L2 := [_, _, _, _, _, _, _, _]) rfl ?_
      refine x_goto (tgt := 35) dX8_middle_149 rfl ?_
      exact x_wk (wC (wJ (wC (wC (wC (wC (wN _))))))) h
    · replace h := itF q2 h
      refine x_goto (tgt := 146) dX8_middle_136 rfl ?_
      refine x_iinc dX8_middle_146 rfl (v := l5 + 1) rfl rfl (Nat.le_of_ble_eq_true rfl) (L2 := [_, _, _, _, _, _, _, _]) rfl ?_
      refine x_goto (tgt := 35) dX8_middle_149 rfl ?_
      exact x_wk (wC (wJ (wC (wC (wC (wC (wN _))))))) h
  · replace h := itF q1 h
    refine x_iconst (v := 0) dX8_middle_59 rfl ?_
    refine x_istore dX8_middle_60 rfl (Nat.le_of_ble_eq_true rfl) (L2 := [_, _, _, _, _, _, _, _, _]) rfl ?_
    exact h
set_option maxRecDepth 20000 in
theorem s_X8_middle_62 {d : Nat} {g : zG} {σ : zI} {K : Int32 → zI → Prop} (hg : zGA g) {l2 : Int32} {l3 : Int32} {l4 : Int32} {l5 : Int32} {l6 : Int32} {l7 : Int32} {l8 : Int32} (h : (if (l7 ≤ l8 : Prop) then p_X8_middle_50 d g K σ l2 l3 l4 l5 l6 (l7 + 1) else (if (l7 = l5 : Prop) then p_X8_middle_62 d g K σ l2 l3 l4 l5 l6 l7 (l8 + 1) else (if (l8 = l5 : Prop) then p_X8_middle_62 d g K σ l2 l3 l4 l5 l6 l7 (l8 + 1) else zCI mX8_reached d [.ref 57, .int l7, .int (-1)] g σ (fun v1 σ1 => zCI mX8_has d [.int v1, .int l8] g σ1 (fun v2 σ2 => (if (v2 = 0 : Prop) then p_X8_middle_62 d g K σ2 l2 l3 l4 l5 l6 l7 (l8 + 1) else zCI mX8_reached d [.ref 57, .int l7, .int l5] g σ2 (fun v3 σ3 => zCI mX8_has d [.int v3, .int l8] g σ3 (fun v4 σ4 => (if (v4 = 0 : Prop) then p_X8_middle_62 d g K σ4 l2 l3 l4 l5 (l6 + 1) l7 (l8 + 1) else p_X8_middle_62 d g K σ4 l2 l3 l4 l5 l6 l7 (l8 + 1))))))))))) : p_X8_middle_62 d g K σ l2 l3 l4 l5 l6 l7 l8 := by
  refine x_iload dX8_middle_62 rfl ?_
  refine x_iload dX8_middle_64 rfl ?_
  refine x_icmp_ge (tgt := 123) dX8_middle_66 rfl (fun q1 => ?_) (fun q1 => ?_)
  · replace h := itT q1 h
    refine x_iinc dX8_middle_123 rfl (v := l7 + 1) rfl rfl (Nat.le_of_ble_eq_true rfl) (L2 := [_, _, _, _, _, _, _, _, _]) rfl ?_
    refine x_goto (tgt := 50) dX8_middle_126 rfl ?_
    exact x_wk (wC (wJ (wC (wC (wC (wC (wC (wC (wN _))))))))) h
  · replace h := itF q1 h
    refine x_iload dX8_middle_69 rfl ?_
    refine x_iload dX8_middle_71 rfl ?_
    refine x_icmp_eq (tgt := 117) dX8_middle_73 rfl (fun q2 => ?_) (fun q2 => ?_)
    · replace h := itT q2 h
      refine x_iinc dX8_middle_117 rfl (v := l8 + 1) rfl rfl (Nat.le_of_ble_eq_true rfl) (L2 := [_, _, _, _, _, _, _, _, _]) rfl ?_
      refine x_goto (tgt := 62) dX8_middle_120 rfl ?_
      exact h
    · replace h := itF q2 h
      refine x_iload dX8_middle_76 rfl ?_
      refine x_iload dX8_middle_78 rfl ?_
      refine x_icmp_eq (tgt := 117) dX8_middle_80 rfl (fun q3 => ?_) (fun q3 => ?_)
      · replace h := itT q3 h
        refine x_iinc dX8_middle_117 rfl (v := l8 + 1) rfl rfl (Nat.le_of_ble_eq_true rfl) (L2 := [_, _, _, _, _, _, _, _, _]) rfl ?_
        refine x_goto (tgt := 62) dX8_middle_120 rfl ?_
        exact h
      · replace h := itF q3 h
        refine x_aload_n dX8_middle_83 rfl ?_
        refine x_iload dX8_middle_84 rfl ?_
        refine x_iconst (v := (-1)) dX8_middle_86 rfl ?_
        refine x_callV (Y2 := mX8_reached) (as := [.int l7, .int (-1)]) (S := []) (kc2 := 0) (ks2 := 0) mv_mX8_reached (Or.inl ⟨8, _, rfl, rfl, (gA_57 hg)⟩) dX8_middle_87 lk_X8_258 mo_mX8_reached rfl rfl (Nat.le_of_ble_eq_true rfl) (Or.inl rfl) rfl rfl h ?_
        rintro _ _ σ1 ⟨v1, rfl, rfl, h⟩
        change zX _ _ 0 0 90 _ [.int v1] _ _ _
        refine x_iload dX8_middle_90 rfl ?_
        refine x_callS (Y2 := mX8_has) (as := [.int v1, .int l8]) (S := []) (kc2 := 0) (ks2 := 0) st_mX8_has dX8_middle_92 lk_X8_118 mo_mX8_has rfl rfl (Nat.le_of_ble_eq_true rfl) (Or.inl rfl) rfl rfl h ?_
        rintro _ _ σ2 ⟨v2, rfl, rfl, h⟩
        change zX _ _ 0 0 95 _ [.int v2] _ _ _
        refine x_if_eq (tgt := 117) dX8_middle_95 rfl (fun q4 => ?_) (fun q4 => ?_)
        · replace h := itT q4 h
          refine x_iinc dX8_middle_117 rfl (v := l8 + 1) rfl rfl (Nat.le_of_ble_eq_true rfl) (L2 := [_, _, _, _, _, _, _, _, _]) rfl ?_
          refine x_goto (tgt := 62) dX8_middle_120 rfl ?_
          exact h
        · replace h := itF q4 h
          refine x_aload_n dX8_middle_98 rfl ?_
          refine x_iload dX8_middle_99 rfl ?_
          refine x_iload dX8_middle_101 rfl ?_
          refine x_callV (Y2 := mX8_reached) (as := [.int l7, .int l5]) (S := []) (kc2 := 0) (ks2 := 0) mv_mX8_reached (Or.inl ⟨8, _, rfl, rfl, (gA_57 hg)⟩) dX8_middle_103 lk_X8_258 mo_mX8_reached rfl rfl (Nat.le_of_ble_eq_true rfl) (Or.inl rfl) rfl rfl h ?_
          rintro _ _ σ3 ⟨v3, rfl, rfl, h⟩
          change zX _ _ 0 0 106 _ [.int v3] _ _ _
          refine x_iload dX8_middle_106 rfl ?_
          refine x_callS (Y2 := mX8_has) (as := [.int v3, .int l8]) (S := []) (kc2 := 0) (ks2 := 0) st_mX8_has dX8_middle_108 lk_X8_118 mo_mX8_has rfl rfl (Nat.le_of_ble_eq_true rfl) (Or.inl rfl) rfl rfl h ?_
          rintro _ _ σ4 ⟨v4, rfl, rfl, h⟩
          change zX _ _ 0 0 111 _ [.int v4] _ _ _
          refine x_if_ne (tgt := 117) dX8_middle_111 rfl (fun q5 => ?_) (fun q5 => ?_)
          · replace h := itF q5 h
            refine x_iinc dX8_middle_117 rfl (v := l8 + 1) rfl rfl (Nat.le_of_ble_eq_true rfl) (L2 := [_, _, _, _, _, _, _, _, _]) rfl ?_
            refine x_goto (tgt := 62) dX8_middle_120 rfl ?_
            exact h
          · replace h := itT q5 h
            refine x_iinc dX8_middle_114 rfl (v := l6 + 1) rfl rfl (Nat.le_of_ble_eq_true rfl) (L2 := [_, _, _, _, _, _, _, _, _]) rfl ?_
            refine x_iinc dX8_middle_117 rfl (v := l8 + 1) rfl rfl (Nat.le_of_ble_eq_true rfl) (L2 := [_, _, _, _, _, _, _, _, _]) rfl ?_
            refine x_goto (tgt := 62) dX8_middle_120 rfl ?_
            exact h
abbrev p_X8_reached_7 (d : Nat) (g : zG) (K : Int32 → zI → Prop) (σ : zI) (l2 : Int32) (l3 : Int32) (l4 : Int32) : Prop := zX mX8_reached (d + 1) 0 0 7 [.ref 57, .retAddr 0, .int l2, .int l3, .int l4] [] g σ (zqI g K)
abbrev p_X8_reached_17 (d : Nat) (g : zG) (K : Int32 → zI → Prop) (σ : zI) (l2 : Int32) (l3 : Int32) (l4 : Int32) (l5 : Int32) : Prop := zX mX8_reached (d + 1) 0 0 17 [.ref 57, .retAddr 0, .int l2, .int l3, .int l4, .int l5] [] g σ (zqI g K)
abbrev p_X8_reached_29 (d : Nat) (g : zG) (K : Int32 → zI → Prop) (σ : zI) (l2 : Int32) (l3 : Int32) (l4 : Int32) (l5 : Int32) (l6 : Int32) : Prop := zX mX8_reached (d + 1) 0 0 29 [.ref 57, .retAddr 0, .int l2, .int l3, .int l4, .int l5, .int l6] [] g σ (zqI g K)
set_option maxRecDepth 20000 in
theorem s_X8_reached {d : Nat} {g : zG} {σ : zI} {K : Int32 → zI → Prop} (hg : zGA g) {l1 : Int32} {l2 : Int32} (h : p_X8_reached_7 d g K σ l2 (1 <<< (l1 &&& 31)) 0) : zCI mX8_reached (d + 1) [.ref 57, .int l1, .int l2] g σ K := by
  refine c_of_x pn_mX8_reached rfl (Nat.le_of_ble_eq_true rfl) ?_
  change zX _ _ 0 0 0 [.ref 57, .int l1, .int l2] [] g σ _
  refine x_iconst (v := 1) dX8_reached_0 rfl ?_
  refine x_iload_n dX8_reached_1 rfl ?_
  refine x_ishl dX8_reached_2 ?_
  refine x_istore_n dX8_reached_3 rfl (Nat.le_of_ble_eq_true rfl) (L2 := [_, _, _, _]) rfl ?_
  refine x_iconst (v := 0) dX8_reached_4 rfl ?_
  refine x_istore dX8_reached_5 rfl (Nat.le_of_ble_eq_true rfl) (L2 := [_, _, _, _, _]) rfl ?_
  exact x_wk (wC (wJ (wC (wC (wC (wN _)))))) h
set_option maxRecDepth 20000 in
theorem s_X8_reached_7 {d : Nat} {g : zG} {σ : zI} {K : Int32 → zI → Prop} (hg : zGA g) {l2 : Int32} {l3 : Int32} {l4 : Int32} (h : (if (6 ≤ l4 : Prop) then K l3 σ else p_X8_reached_17 d g K σ l2 l3 l4 0)) : p_X8_reached_7 d g K σ l2 l3 l4 := by
  refine x_iload dX8_reached_7 rfl ?_
  refine x_bipush (v := 6) dX8_reached_9 rfl ?_
  refine x_icmp_ge (tgt := 102) dX8_reached_11 rfl (fun q1 => ?_) (fun q1 => ?_)
  · replace h := itT q1 h
    refine x_iload_n dX8_reached_102 rfl ?_
    exact x_iret (S := []) dX8_reached_103 rfl rfl ⟨_, rfl, rfl, h⟩
  · replace h := itF q1 h
    refine x_iconst (v := 0) dX8_reached_14 rfl ?_
    refine x_istore dX8_reached_15 rfl (Nat.le_of_ble_eq_true rfl) (L2 := [_, _, _, _, _, _]) rfl ?_
    exact h
set_option maxRecDepth 20000 in
theorem s_X8_reached_17 {d : Nat} {g : zG} {σ : zI} {K : Int32 → zI → Prop} (hg : zGA g) {l2 : Int32} {l3 : Int32} {l4 : Int32} {l5 : Int32} (h : (if ((σ 57 1) ≤ l5 : Prop) then p_X8_reached_7 d g K σ l2 l3 (l4 + 1) else p_X8_reached_29 d g K σ l2 l3 l4 l5 0)) : p_X8_reached_17 d g K σ l2 l3 l4 l5 := by
  refine x_iload dX8_reached_17 rfl ?_
  refine x_aload_n dX8_reached_19 rfl ?_
  refine x_getI dX8_reached_20 fl_X8_82 (gA_57 hg) rfl ?_
  refine x_icmp_ge (tgt := 96) dX8_reached_23 rfl (fun q1 => ?_) (fun q1 => ?_)
  · replace h := itT q1 h
    refine x_iinc dX8_reached_96 rfl (v := l4 + 1) rfl rfl (Nat.le_of_ble_eq_true rfl) (L2 := [_, _, _, _, _, _]) rfl ?_
    refine x_goto (tgt := 7) dX8_reached_99 rfl ?_
    exact x_wk (wC (wJ (wC (wC (wC (wN _)))))) h
  · replace h := itF q1 h
    refine x_iconst (v := 0) dX8_reached_26 rfl ?_
    refine x_istore dX8_reached_27 rfl (Nat.le_of_ble_eq_true rfl) (L2 := [_, _, _, _, _, _, _]) rfl ?_
    exact h
set_option maxRecDepth 20000 in
theorem s_X8_reached_29 {d : Nat} {g : zG} {σ : zI} {K : Int32 → zI → Prop} (hg : zGA g) {l2 : Int32} {l3 : Int32} {l4 : Int32} {l5 : Int32} {l6 : Int32} (h : (if ((σ 57 1) ≤ l6 : Prop) then p_X8_reached_17 d g K σ l2 l3 l4 (l5 + 1) else zCI mX8_has d [.int l3, .int l5] g σ (fun v1 σ1 => (if (v1 = 0 : Prop) then p_X8_reached_29 d g K σ1 l2 l3 l4 l5 (l6 + 1) else (if (l5 = l6 : Prop) then p_X8_reached_29 d g K σ1 l2 l3 l4 l5 (l6 + 1) else (if (l6 = l2 : Prop) then p_X8_reached_29 d g K σ1 l2 l3 l4 l5 (l6 + 1) else vp_in ((6 * l5) + l6) 36 ∧ (if ((σ1 71 (((6 * l5) + l6 : Int32).toNatClampNeg)) = (-1) : Prop) then p_X8_reached_29 d g K σ1 l2 l3 l4 l5 (l6 + 1) else p_X8_reached_29 d g K σ1 l2 (l3 ||| (1 <<< (l6 &&& 31))) l4 l5 (l6 + 1)))))))) : p_X8_reached_29 d g K σ l2 l3 l4 l5 l6 := by
  refine x_iload dX8_reached_29 rfl ?_
  refine x_aload_n dX8_reached_31 rfl ?_
  refine x_getI dX8_reached_32 fl_X8_82 (gA_57 hg) rfl ?_
  refine x_icmp_ge (tgt := 90) dX8_reached_35 rfl (fun q1 => ?_) (fun q1 => ?_)
  · replace h := itT q1 h
    refine x_iinc dX8_reached_90 rfl (v := l5 + 1) rfl rfl (Nat.le_of_ble_eq_true rfl) (L2 := [_, _, _, _, _, _, _]) rfl ?_
    refine x_goto (tgt := 17) dX8_reached_93 rfl ?_
    exact x_wk (wC (wJ (wC (wC (wC (wC (wN _))))))) h
  · replace h := itF q1 h
    refine x_iload_n dX8_reached_38 rfl ?_
    refine x_iload dX8_reached_39 rfl ?_
    refine x_callS (Y2 := mX8_has) (as := [.int l3, .int l5]) (S := []) (kc2 := 0) (ks2 := 0) st_mX8_has dX8_reached_41 lk_X8_118 mo_mX8_has rfl rfl (Nat.le_of_ble_eq_true rfl) (Or.inl rfl) rfl rfl h ?_
    rintro _ _ σ1 ⟨v1, rfl, rfl, h⟩
    change zX _ _ 0 0 44 _ [.int v1] _ _ _
    refine x_if_eq (tgt := 84) dX8_reached_44 rfl (fun q2 => ?_) (fun q2 => ?_)
    · replace h := itT q2 h
      refine x_iinc dX8_reached_84 rfl (v := l6 + 1) rfl rfl (Nat.le_of_ble_eq_true rfl) (L2 := [_, _, _, _, _, _, _]) rfl ?_
      refine x_goto (tgt := 29) dX8_reached_87 rfl ?_
      exact h
    · replace h := itF q2 h
      refine x_iload dX8_reached_47 rfl ?_
      refine x_iload dX8_reached_49 rfl ?_
      refine x_icmp_eq (tgt := 84) dX8_reached_51 rfl (fun q3 => ?_) (fun q3 => ?_)
      · replace h := itT q3 h
        refine x_iinc dX8_reached_84 rfl (v := l6 + 1) rfl rfl (Nat.le_of_ble_eq_true rfl) (L2 := [_, _, _, _, _, _, _]) rfl ?_
        refine x_goto (tgt := 29) dX8_reached_87 rfl ?_
        exact h
      · replace h := itF q3 h
        refine x_iload dX8_reached_54 rfl ?_
        refine x_iload_n dX8_reached_56 rfl ?_
        refine x_icmp_eq (tgt := 84) dX8_reached_57 rfl (fun q4 => ?_) (fun q4 => ?_)
        · replace h := itT q4 h
          refine x_iinc dX8_reached_84 rfl (v := l6 + 1) rfl rfl (Nat.le_of_ble_eq_true rfl) (L2 := [_, _, _, _, _, _, _]) rfl ?_
          refine x_goto (tgt := 29) dX8_reached_87 rfl ?_
          exact h
        · replace h := itF q4 h
          refine x_aload_n dX8_reached_60 rfl ?_
          refine x_getR dX8_reached_61 fl_X8_50 (gA_57 hg) rfl (gA_57_29 hg) ?_
          refine x_bipush (v := 6) dX8_reached_64 rfl ?_
          refine x_iload dX8_reached_66 rfl ?_
          refine x_imul dX8_reached_68 ?_
          refine x_iload dX8_reached_69 rfl ?_
          refine x_iadd dX8_reached_71 ?_
          obtain ⟨q5, h⟩ := h
          refine x_iald dX8_reached_72 (gA_71 hg) q5 ?_
          refine x_iconst (v := (-1)) dX8_reached_73 rfl ?_
          refine x_icmp_eq (tgt := 84) dX8_reached_74 rfl (fun q6 => ?_) (fun q6 => ?_)
          · replace h := itT q6 h
            refine x_iinc dX8_reached_84 rfl (v := l6 + 1) rfl rfl (Nat.le_of_ble_eq_true rfl) (L2 := [_, _, _, _, _, _, _]) rfl ?_
            refine x_goto (tgt := 29) dX8_reached_87 rfl ?_
            exact h
          · replace h := itF q6 h
            refine x_iload_n dX8_reached_77 rfl ?_
            refine x_iconst (v := 1) dX8_reached_78 rfl ?_
            refine x_iload dX8_reached_79 rfl ?_
            refine x_ishl dX8_reached_81 ?_
            refine x_ior dX8_reached_82 ?_
            refine x_istore_n dX8_reached_83 rfl (Nat.le_of_ble_eq_true rfl) (L2 := [_, _, _, _, _, _, _]) rfl ?_
            refine x_iinc dX8_reached_84 rfl (v := l6 + 1) rfl rfl (Nat.le_of_ble_eq_true rfl) (L2 := [_, _, _, _, _, _, _]) rfl ?_
            refine x_goto (tgt := 29) dX8_reached_87 rfl ?_
            exact h
abbrev p_X8_leave_36 (d : Nat) (g : zG) (K : Int32 → zI → Prop) (σ : zI) (l1 : Int32) (l2 : Int32) (l3 : Int32) (l4 : Int32) (l5 : Int32) (l6 : Int32) : Prop := zX mX8_leave (d + 1) 0 0 36 [.ref 57, .int l1, .int l2, .int l3, .int l4, .int l5, .int l6] [] g σ (zqI g K)
abbrev p_X8_leave_87 (d : Nat) (g : zG) (K : Int32 → zI → Prop) (σ : zI) (l1 : Int32) (l2 : Int32) (l3 : Int32) (l4 : Int32) (l5 : Int32) (l6 : Int32) (l7 : Int32) (l8 : Int32) (l9 : Int32) : Prop := zX mX8_leave (d + 1) 0 0 87 [.ref 57, .int l1, .int l2, .int l3, .int l4, .int l5, .int l6, .int l7, .int l8, .int l9] [] g σ (zqI g K)
set_option maxRecDepth 20000 in
theorem s_X8_leave {d : Nat} {g : zG} {σ : zI} {K : Int32 → zI → Prop} (hg : zGA g) {l1 : Int32} {l2 : Int32} (h : zCI mX8_isHeir d [.ref 57, .int l1] g σ (fun v1 σ1 => (if (v1 = 0 : Prop) then K (-2) σ1 else zCI mX8_within d [.int l2, .int 0, .int 1] g σ1 (fun v2 σ2 => (if (v2 = 0 : Prop) then K (-2) σ2 else vp_in l1 6 ∧ p_X8_leave_36 d g K σ2 l1 l2 (σ2 60 l1.toNatClampNeg) (-1) (-1) 0))))) : zCI mX8_leave (d + 1) [.ref 57, .int l1, .int l2] g σ K := by
  refine c_of_x pn_mX8_leave rfl (Nat.le_of_ble_eq_true rfl) ?_
  change zX _ _ 0 0 0 [.ref 57, .int l1, .int l2] [] g σ _
  refine x_aload_n dX8_leave_0 rfl ?_
  refine x_iload_n dX8_leave_1 rfl ?_
  refine x_callV (Y2 := mX8_isHeir) (as := [.int l1]) (S := []) (kc2 := 0) (ks2 := 0) mv_mX8_isHeir (Or.inl ⟨8, _, rfl, rfl, (gA_57 hg)⟩) dX8_leave_2 lk_X8_89 mo_mX8_isHeir rfl rfl (Nat.le_of_ble_eq_true rfl) (Or.inl rfl) rfl rfl h ?_
  rintro _ _ σ1 ⟨v1, rfl, rfl, h⟩
  change zX _ _ 0 0 5 _ [.int v1] _ _ _
  refine x_if_eq (tgt := 17) dX8_leave_5 rfl (fun q1 => ?_) (fun q1 => ?_)
  · replace h := itT q1 h
    refine x_bipush (v := (-2)) dX8_leave_17 rfl ?_
    exact x_iret (S := []) dX8_leave_19 rfl rfl ⟨_, rfl, rfl, h⟩
  · replace h := itF q1 h
    refine x_iload_n dX8_leave_8 rfl ?_
    refine x_iconst (v := 0) dX8_leave_9 rfl ?_
    refine x_iconst (v := 1) dX8_leave_10 rfl ?_
    refine x_callS (Y2 := mX8_within) (as := [.int l2, .int 0, .int 1]) (S := []) (kc2 := 0) (ks2 := 0) st_mX8_within dX8_leave_11 lk_X8_85 mo_mX8_within rfl rfl (Nat.le_of_ble_eq_true rfl) (Or.inl rfl) rfl rfl h ?_
    rintro _ _ σ2 ⟨v2, rfl, rfl, h⟩
    change zX _ _ 0 0 14 _ [.int v2] _ _ _
    refine x_if_ne (tgt := 20) dX8_leave_14 rfl (fun q2 => ?_) (fun q2 => ?_)
    · replace h := itF q2 h
      refine x_aload_n dX8_leave_20 rfl ?_
      refine x_getR dX8_leave_21 fl_X8_16 (gA_57 hg) rfl (gA_57_4 hg) ?_
      refine x_iload_n dX8_leave_24 rfl ?_
      obtain ⟨q3, h⟩ := h
      refine x_iald dX8_leave_25 (gA_60 hg) q3 ?_
      refine x_istore_n dX8_leave_26 rfl (Nat.le_of_ble_eq_true rfl) (L2 := [_, _, _, _]) rfl ?_
      refine x_iconst (v := (-1)) dX8_leave_27 rfl ?_
      refine x_istore dX8_leave_28 rfl (Nat.le_of_ble_eq_true rfl) (L2 := [_, _, _, _, _]) rfl ?_
      refine x_iconst (v := (-1)) dX8_leave_30 rfl ?_
      refine x_istore dX8_leave_31 rfl (Nat.le_of_ble_eq_true rfl) (L2 := [_, _, _, _, _, _]) rfl ?_
      refine x_iconst (v := 0) dX8_leave_33 rfl ?_
      refine x_istore dX8_leave_34 rfl (Nat.le_of_ble_eq_true rfl) (L2 := [_, _, _, _, _, _, _]) rfl ?_
      exact h
    · replace h := itT q2 h
      refine x_bipush (v := (-2)) dX8_leave_17 rfl ?_
      exact x_iret (S := []) dX8_leave_19 rfl rfl ⟨_, rfl, rfl, h⟩
set_option maxRecDepth 20000 in
theorem s_X8_leave_36 {d : Nat} {g : zG} {σ : zI} {K : Int32 → zI → Prop} (hg : zGA g) {l1 : Int32} {l2 : Int32} {l3 : Int32} {l4 : Int32} {l5 : Int32} {l6 : Int32} (h : (if ((σ 57 1) ≤ l6 : Prop) then (if (l2 = 0 : Prop) then K l4 σ else K l5 σ) else (if (l6 = l1 : Prop) then p_X8_leave_36 d g K σ l1 l2 l3 l4 l5 (l6 + 1) else vp_in l6 6 ∧ vp_in l6 6 ∧ vp_in l6 6 ∧ vp_in l1 6 ∧ p_X8_leave_87 d g K (zsI (zsI σ 60 l6.toNatClampNeg ((σ 60 l6.toNatClampNeg) ||| l3)) 60 l1.toNatClampNeg 0) l1 l2 l3 l4 l5 l6 (σ 60 l6.toNatClampNeg) 0 0))) : p_X8_leave_36 d g K σ l1 l2 l3 l4 l5 l6 := by
  refine x_iload dX8_leave_36 rfl ?_
  refine x_aload_n dX8_leave_38 rfl ?_
  refine x_getI dX8_leave_39 fl_X8_82 (gA_57 hg) rfl ?_
  refine x_icmp_ge (tgt := 175) dX8_leave_42 rfl (fun q1 => ?_) (fun q1 => ?_)
  · replace h := itT q1 h
    refine x_iload_n dX8_leave_175 rfl ?_
    refine x_if_ne (tgt := 184) dX8_leave_176 rfl (fun q2 => ?_) (fun q2 => ?_)
    · replace h := itF q2 h
      refine x_iload dX8_leave_184 rfl ?_
      exact x_iret (S := []) dX8_leave_186 rfl rfl ⟨_, rfl, rfl, h⟩
    · replace h := itT q2 h
      refine x_iload dX8_leave_179 rfl ?_
      refine x_goto (tgt := 186) dX8_leave_181 rfl ?_
      exact x_iret (S := []) dX8_leave_186 rfl rfl ⟨_, rfl, rfl, h⟩
  · replace h := itF q1 h
    refine x_iload dX8_leave_45 rfl ?_
    refine x_iload_n dX8_leave_47 rfl ?_
    refine x_icmp_ne (tgt := 54) dX8_leave_48 rfl (fun q2 => ?_) (fun q2 => ?_)
    · replace h := itF q2 h
      refine x_aload_n dX8_leave_54 rfl ?_
      refine x_getR dX8_leave_55 fl_X8_16 (gA_57 hg) rfl (gA_57_4 hg) ?_
      refine x_iload dX8_leave_58 rfl ?_
      obtain ⟨q3, h⟩ := h
      refine x_iald dX8_leave_60 (gA_60 hg) q3 ?_
      refine x_istore dX8_leave_61 rfl (Nat.le_of_ble_eq_true rfl) (L2 := [_, _, _, _, _, _, _, _]) rfl ?_
      refine x_aload_n dX8_leave_63 rfl ?_
      refine x_getR dX8_leave_64 fl_X8_16 (gA_57 hg) rfl (gA_57_4 hg) ?_
      refine x_iload dX8_leave_67 rfl ?_
      refine x_dup2 dX8_leave_69 rfl rfl ?_
      obtain ⟨q4, h⟩ := h
      refine x_iald dX8_leave_70 (gA_60 hg) q4 ?_
      refine x_iload_n dX8_leave_71 rfl ?_
      refine x_ior dX8_leave_72 ?_
      obtain ⟨q5, h⟩ := h
      refine x_iast dX8_leave_73 (gA_60 hg) q5 ?_
      refine x_aload_n dX8_leave_74 rfl ?_
      refine x_getR dX8_leave_75 fl_X8_16 (gA_57 hg) rfl (gA_57_4 hg) ?_
      refine x_iload_n dX8_leave_78 rfl ?_
      refine x_iconst (v := 0) dX8_leave_79 rfl ?_
      obtain ⟨q6, h⟩ := h
      refine x_iast dX8_leave_80 (gA_60 hg) q6 ?_
      refine x_iconst (v := 0) dX8_leave_81 rfl ?_
      refine x_istore dX8_leave_82 rfl (Nat.le_of_ble_eq_true rfl) (L2 := [_, _, _, _, _, _, _, _, _]) rfl ?_
      refine x_iconst (v := 0) dX8_leave_84 rfl ?_
      refine x_istore dX8_leave_85 rfl (Nat.le_of_ble_eq_true rfl) (L2 := [_, _, _, _, _, _, _, _, _, _]) rfl ?_
      exact h
    · replace h := itT q2 h
      refine x_goto (tgt := 169) dX8_leave_51 rfl ?_
      refine x_iinc dX8_leave_169 rfl (v := l6 + 1) rfl rfl (Nat.le_of_ble_eq_true rfl) (L2 := [_, _, _, _, _, _, _]) rfl ?_
      refine x_goto (tgt := 36) dX8_leave_172 rfl ?_
      exact h
set_option maxRecDepth 20000 in
theorem s_X8_leave_87 {d : Nat} {g : zG} {σ : zI} {K : Int32 → zI → Prop} (hg : zGA g) {l1 : Int32} {l2 : Int32} {l3 : Int32} {l4 : Int32} {l5 : Int32} {l6 : Int32} {l7 : Int32} {l8 : Int32} {l9 : Int32} (h : (if ((σ 57 1) ≤ l9 : Prop) then vp_in l6 6 ∧ vp_in l1 6 ∧ (if (l4 = (-1) : Prop) then p_X8_leave_36 d g K (zsI (zsI σ 60 l6.toNatClampNeg l7) 60 l1.toNatClampNeg l3) l1 l2 l3 l6 l8 (l6 + 1) else (if (l8 < l5 : Prop) then p_X8_leave_36 d g K (zsI (zsI σ 60 l6.toNatClampNeg l7) 60 l1.toNatClampNeg l3) l1 l2 l3 l6 l8 (l6 + 1) else p_X8_leave_36 d g K (zsI (zsI σ 60 l6.toNatClampNeg l7) 60 l1.toNatClampNeg l3) l1 l2 l3 l4 l5 (l6 + 1))) else (if (l9 = l6 : Prop) then p_X8_leave_87 d g K σ l1 l2 l3 l4 l5 l6 l7 l8 (l9 + 1) else (if (l9 = l1 : Prop) then p_X8_leave_87 d g K σ l1 l2 l3 l4 l5 l6 l7 l8 (l9 + 1) else zCI mX8_barredOf d [.ref 57, .int l6, .int l9, .int 2] g σ (fun v1 σ1 => p_X8_leave_87 d g K σ1 l1 l2 l3 l4 l5 l6 l7 (l8 + v1) (l9 + 1)))))) : p_X8_leave_87 d g K σ l1 l2 l3 l4 l5 l6 l7 l8 l9 := by
  refine x_iload dX8_leave_87 rfl ?_
  refine x_aload_n dX8_leave_89 rfl ?_
  refine x_getI dX8_leave_90 fl_X8_82 (gA_57 hg) rfl ?_
  refine x_icmp_ge (tgt := 129) dX8_leave_93 rfl (fun q1 => ?_) (fun q1 => ?_)
  · replace h := itT q1 h
    refine x_aload_n dX8_leave_129 rfl ?_
    refine x_getR dX8_leave_130 fl_X8_16 (gA_57 hg) rfl (gA_57_4 hg) ?_
    refine x_iload dX8_leave_133 rfl ?_
    refine x_iload dX8_leave_135 rfl ?_
    obtain ⟨q2, h⟩ := h
    refine x_iast dX8_leave_137 (gA_60 hg) q2 ?_
    refine x_aload_n dX8_leave_138 rfl ?_
    refine x_getR dX8_leave_139 fl_X8_16 (gA_57 hg) rfl (gA_57_4 hg) ?_
    refine x_iload_n dX8_leave_142 rfl ?_
    refine x_iload_n dX8_leave_143 rfl ?_
    obtain ⟨q3, h⟩ := h
    refine x_iast dX8_leave_144 (gA_60 hg) q3 ?_
    refine x_iload dX8_leave_145 rfl ?_
    refine x_iconst (v := (-1)) dX8_leave_147 rfl ?_
    refine x_icmp_eq (tgt := 161) dX8_leave_148 rfl (fun q4 => ?_) (fun q4 => ?_)
    · replace h := itT q4 h
      refine x_iload dX8_leave_161 rfl ?_
      refine x_istore dX8_leave_163 rfl (Nat.le_of_ble_eq_true rfl) (L2 := [_, _, _, _, _, _, _, _, _, _]) rfl ?_
      refine x_iload dX8_leave_165 rfl ?_
      refine x_istore dX8_leave_167 rfl (Nat.le_of_ble_eq_true rfl) (L2 := [_, _, _, _, _, _, _, _, _, _]) rfl ?_
      refine x_iinc dX8_leave_169 rfl (v := l6 + 1) rfl rfl (Nat.le_of_ble_eq_true rfl) (L2 := [_, _, _, _, _, _, _, _, _, _]) rfl ?_
      refine x_goto (tgt := 36) dX8_leave_172 rfl ?_
      exact x_wk (wC (wC (wC (wC (wC (wC (wC (wN _)))))))) h
    · replace h := itF q4 h
      refine x_iload dX8_leave_151 rfl ?_
      refine x_iload dX8_leave_153 rfl ?_
      refine x_icmp_lt (tgt := 161) dX8_leave_155 rfl (fun q5 => ?_) (fun q5 => ?_)
      · replace h := itT q5 h
        refine x_iload dX8_leave_161 rfl ?_
        refine x_istore dX8_leave_163 rfl (Nat.le_of_ble_eq_true rfl) (L2 := [_, _, _, _, _, _, _, _, _, _]) rfl ?_
        refine x_iload dX8_leave_165 rfl ?_
        refine x_istore dX8_leave_167 rfl (Nat.le_of_ble_eq_true rfl) (L2 := [_, _, _, _, _, _, _, _, _, _]) rfl ?_
        refine x_iinc dX8_leave_169 rfl (v := l6 + 1) rfl rfl (Nat.le_of_ble_eq_true rfl) (L2 := [_, _, _, _, _, _, _, _, _, _]) rfl ?_
        refine x_goto (tgt := 36) dX8_leave_172 rfl ?_
        exact x_wk (wC (wC (wC (wC (wC (wC (wC (wN _)))))))) h
      · replace h := itF q5 h
        refine x_goto (tgt := 169) dX8_leave_158 rfl ?_
        refine x_iinc dX8_leave_169 rfl (v := l6 + 1) rfl rfl (Nat.le_of_ble_eq_true rfl) (L2 := [_, _, _, _, _, _, _, _, _, _]) rfl ?_
        refine x_goto (tgt := 36) dX8_leave_172 rfl ?_
        exact x_wk (wC (wC (wC (wC (wC (wC (wC (wN _)))))))) h
  · replace h := itF q1 h
    refine x_iload dX8_leave_96 rfl ?_
    refine x_iload dX8_leave_98 rfl ?_
    refine x_icmp_eq (tgt := 123) dX8_leave_100 rfl (fun q2 => ?_) (fun q2 => ?_)
    · replace h := itT q2 h
      refine x_iinc dX8_leave_123 rfl (v := l9 + 1) rfl rfl (Nat.le_of_ble_eq_true rfl) (L2 := [_, _, _, _, _, _, _, _, _, _]) rfl ?_
      refine x_goto (tgt := 87) dX8_leave_126 rfl ?_
      exact h
    · replace h := itF q2 h
      refine x_iload dX8_leave_103 rfl ?_
      refine x_iload_n dX8_leave_105 rfl ?_
      refine x_icmp_eq (tgt := 123) dX8_leave_106 rfl (fun q3 => ?_) (fun q3 => ?_)
      · replace h := itT q3 h
        refine x_iinc dX8_leave_123 rfl (v := l9 + 1) rfl rfl (Nat.le_of_ble_eq_true rfl) (L2 := [_, _, _, _, _, _, _, _, _, _]) rfl ?_
        refine x_goto (tgt := 87) dX8_leave_126 rfl ?_
        exact h
      · replace h := itF q3 h
        refine x_iload dX8_leave_109 rfl ?_
        refine x_aload_n dX8_leave_111 rfl ?_
        refine x_iload dX8_leave_112 rfl ?_
        refine x_iload dX8_leave_114 rfl ?_
        refine x_iconst (v := 2) dX8_leave_116 rfl ?_
        refine x_callV (Y2 := mX8_barredOf) (as := [.int l6, .int l9, .int 2]) (S := [.int l8]) (kc2 := 0) (ks2 := 0) mv_mX8_barredOf (Or.inl ⟨8, _, rfl, rfl, (gA_57 hg)⟩) dX8_leave_117 lk_X8_255 mo_mX8_barredOf rfl rfl (Nat.le_of_ble_eq_true rfl) (Or.inl rfl) rfl rfl h ?_
        rintro _ _ σ1 ⟨v1, rfl, rfl, h⟩
        change zX _ _ 0 0 120 _ [.int v1, .int l8] _ _ _
        refine x_iadd dX8_leave_120 ?_
        refine x_istore dX8_leave_121 rfl (Nat.le_of_ble_eq_true rfl) (L2 := [_, _, _, _, _, _, _, _, _, _]) rfl ?_
        refine x_iinc dX8_leave_123 rfl (v := l9 + 1) rfl rfl (Nat.le_of_ble_eq_true rfl) (L2 := [_, _, _, _, _, _, _, _, _, _]) rfl ?_
        refine x_goto (tgt := 87) dX8_leave_126 rfl ?_
        exact h
