set_option maxRecDepth 20000 in
theorem s_X8_named {d : Nat} {g : zG} {σ : zI} {K : Int32 → zI → Prop} (hg : zGA g)  (h : (if ((σ 57 17) = 14 : Prop) then K 0 σ else (if ((σ 57 17) = 2968 : Prop) then K 5 σ else (if ((σ 57 17) = 11570 : Prop) then K 1 σ else (if ((σ 57 17) = 161370 : Prop) then K 4 σ else (if ((σ 57 17) = 257011 : Prop) then K 3 σ else (if ((σ 57 17) = 267305 : Prop) then K 2 σ else K (-1) σ))))))) : zCI mX8_named d [.ref 57] g σ K := by
  refine c_of_x pn_mX8_named rfl (Nat.le_of_ble_eq_true rfl) ?_
  change zX _ _ 0 0 0 [.ref 57] [] g σ _
  refine x_aload_n dX8_named_0 rfl ?_
  refine x_getI dX8_named_1 fl_X8_124 (gA_57 hg) rfl ?_
  by_cases q1 : (σ 57 17) = 14
  · refine x_lsw (tgt := 64) dX8_named_4 (by decide) (by first | (rw [q1]; done) | (rw [q1]; rfl)) rfl ?_
    replace h := itT q1 h
    refine x_iconst (v := 0) dX8_named_64 rfl ?_
    exact x_iret (S := []) dX8_named_65 rfl rfl ⟨_, rfl, rfl, h⟩
  · replace h := itF q1 h
    by_cases q2 : (σ 57 17) = 2968
    · refine x_lsw (tgt := 74) dX8_named_4 (by decide) (by first | (rw [q2]; done) | (rw [q2]; rfl)) rfl ?_
      replace h := itT q2 h
      refine x_iconst (v := 5) dX8_named_74 rfl ?_
      exact x_iret (S := []) dX8_named_75 rfl rfl ⟨_, rfl, rfl, h⟩
    · replace h := itF q2 h
      by_cases q3 : (σ 57 17) = 11570
      · refine x_lsw (tgt := 66) dX8_named_4 (by decide) (by first | (rw [q3]; done) | (rw [q3]; rfl)) rfl ?_
        replace h := itT q3 h
        refine x_iconst (v := 1) dX8_named_66 rfl ?_
        exact x_iret (S := []) dX8_named_67 rfl rfl ⟨_, rfl, rfl, h⟩
      · replace h := itF q3 h
        by_cases q4 : (σ 57 17) = 161370
        · refine x_lsw (tgt := 72) dX8_named_4 (by decide) (by first | (rw [q4]; done) | (rw [q4]; rfl)) rfl ?_
          replace h := itT q4 h
          refine x_iconst (v := 4) dX8_named_72 rfl ?_
          exact x_iret (S := []) dX8_named_73 rfl rfl ⟨_, rfl, rfl, h⟩
        · replace h := itF q4 h
          by_cases q5 : (σ 57 17) = 257011
          · refine x_lsw (tgt := 70) dX8_named_4 (by decide) (by first | (rw [q5]; done) | (rw [q5]; rfl)) rfl ?_
            replace h := itT q5 h
            refine x_iconst (v := 3) dX8_named_70 rfl ?_
            exact x_iret (S := []) dX8_named_71 rfl rfl ⟨_, rfl, rfl, h⟩
          · replace h := itF q5 h
            by_cases q6 : (σ 57 17) = 267305
            · refine x_lsw (tgt := 68) dX8_named_4 (by decide) (by first | (rw [q6]; done) | (rw [q6]; rfl)) rfl ?_
              replace h := itT q6 h
              refine x_iconst (v := 2) dX8_named_68 rfl ?_
              exact x_iret (S := []) dX8_named_69 rfl rfl ⟨_, rfl, rfl, h⟩
            · replace h := itF q6 h
              refine x_lsw (tgt := 76) dX8_named_4 (by decide) (by show Op.lookupswitch.offset [(14, 60), (2968, 70), (11570, 62), (161370, 68), (257011, 66), (267305, 64)] _ _ = _; first | (rw [lv_osw (a := 14) q1 rfl, lv_osw (a := 2968) q2 rfl, lv_osw (a := 11570) q3 rfl, lv_osw (a := 161370) q4 rfl, lv_osw (a := 257011) q5 rfl, lv_osw (a := 267305) q6 rfl]; done) | (rw [lv_osw (a := 14) q1 rfl, lv_osw (a := 2968) q2 rfl, lv_osw (a := 11570) q3 rfl, lv_osw (a := 161370) q4 rfl, lv_osw (a := 257011) q5 rfl, lv_osw (a := 267305) q6 rfl]; rfl)) rfl ?_
              refine x_iconst (v := (-1)) dX8_named_76 rfl ?_
              exact x_iret (S := []) dX8_named_77 rfl rfl ⟨_, rfl, rfl, h⟩
set_option maxRecDepth 20000 in
theorem s_X8_isKey {d : Nat} {g : zG} {σ : zI} {K : Int32 → zI → Prop} (hg : zGA g)  (h : (if ((σ 57 17) = 423 : Prop) then K 1 σ else (if ((σ 57 17) = 1111 : Prop) then K 1 σ else (if ((σ 57 17) = 10631 : Prop) then K 1 σ else (if ((σ 57 17) = 375400 : Prop) then K 1 σ else (if ((σ 57 17) = 7008275 : Prop) then K 1 σ else (if ((σ 57 17) = 12532058 : Prop) then K 1 σ else K 0 σ))))))) : zCI mX8_isKey d [.ref 57] g σ K := by
  refine c_of_x pn_mX8_isKey rfl (Nat.le_of_ble_eq_true rfl) ?_
  change zX _ _ 0 0 0 [.ref 57] [] g σ _
  refine x_aload_n dX8_isKey_0 rfl ?_
  refine x_getI dX8_isKey_1 fl_X8_124 (gA_57 hg) rfl ?_
  by_cases q1 : (σ 57 17) = 423
  · refine x_lsw (tgt := 64) dX8_isKey_4 (by decide) (by first | (rw [q1]; done) | (rw [q1]; rfl)) rfl ?_
    replace h := itT q1 h
    refine x_iconst (v := 1) dX8_isKey_64 rfl ?_
    exact x_iret (S := []) dX8_isKey_65 rfl rfl ⟨_, rfl, rfl, h⟩
  · replace h := itF q1 h
    by_cases q2 : (σ 57 17) = 1111
    · refine x_lsw (tgt := 64) dX8_isKey_4 (by decide) (by first | (rw [q2]; done) | (rw [q2]; rfl)) rfl ?_
      replace h := itT q2 h
      refine x_iconst (v := 1) dX8_isKey_64 rfl ?_
      exact x_iret (S := []) dX8_isKey_65 rfl rfl ⟨_, rfl, rfl, h⟩
    · replace h := itF q2 h
      by_cases q3 : (σ 57 17) = 10631
      · refine x_lsw (tgt := 64) dX8_isKey_4 (by decide) (by first | (rw [q3]; done) | (rw [q3]; rfl)) rfl ?_
        replace h := itT q3 h
        refine x_iconst (v := 1) dX8_isKey_64 rfl ?_
        exact x_iret (S := []) dX8_isKey_65 rfl rfl ⟨_, rfl, rfl, h⟩
      · replace h := itF q3 h
        by_cases q4 : (σ 57 17) = 375400
        · refine x_lsw (tgt := 64) dX8_isKey_4 (by decide) (by first | (rw [q4]; done) | (rw [q4]; rfl)) rfl ?_
          replace h := itT q4 h
          refine x_iconst (v := 1) dX8_isKey_64 rfl ?_
          exact x_iret (S := []) dX8_isKey_65 rfl rfl ⟨_, rfl, rfl, h⟩
        · replace h := itF q4 h
          by_cases q5 : (σ 57 17) = 7008275
          · refine x_lsw (tgt := 64) dX8_isKey_4 (by decide) (by first | (rw [q5]; done) | (rw [q5]; rfl)) rfl ?_
            replace h := itT q5 h
            refine x_iconst (v := 1) dX8_isKey_64 rfl ?_
            exact x_iret (S := []) dX8_isKey_65 rfl rfl ⟨_, rfl, rfl, h⟩
          · replace h := itF q5 h
            by_cases q6 : (σ 57 17) = 12532058
            · refine x_lsw (tgt := 64) dX8_isKey_4 (by decide) (by first | (rw [q6]; done) | (rw [q6]; rfl)) rfl ?_
              replace h := itT q6 h
              refine x_iconst (v := 1) dX8_isKey_64 rfl ?_
              exact x_iret (S := []) dX8_isKey_65 rfl rfl ⟨_, rfl, rfl, h⟩
            · replace h := itF q6 h
              refine x_lsw (tgt := 66) dX8_isKey_4 (by decide) (by show Op.lookupswitch.offset [(423, 60), (1111, 60), (10631, 60), (375400, 60), (7008275, 60), (12532058, 60)] _ _ = _; first | (rw [lv_osw (a := 423) q1 rfl, lv_osw (a := 1111) q2 rfl, lv_osw (a := 10631) q3 rfl, lv_osw (a := 375400) q4 rfl, lv_osw (a := 7008275) q5 rfl, lv_osw (a := 12532058) q6 rfl]; done) | (rw [lv_osw (a := 423) q1 rfl, lv_osw (a := 1111) q2 rfl, lv_osw (a := 10631) q3 rfl, lv_osw (a := 375400) q4 rfl, lv_osw (a := 7008275) q5 rfl, lv_osw (a := 12532058) q6 rfl]; rfl)) rfl ?_
              refine x_iconst (v := 0) dX8_isKey_66 rfl ?_
              exact x_iret (S := []) dX8_isKey_67 rfl rfl ⟨_, rfl, rfl, h⟩
set_option maxRecDepth 20000 in
theorem s_X8_signed {d : Nat} {g : zG} {σ : zI} {K : Int32 → zI → Prop} (hg : zGA g)  (h : (if ((σ 57 15) = 42 : Prop) then K 8 σ else (if ((σ 57 15) = 43 : Prop) then K 6 σ else (if ((σ 57 15) = 45 : Prop) then K 7 σ else (if ((σ 57 15) = 60 : Prop) then (if ((σ 57 21) = 0 : Prop) then K 9 σ else K (-1) σ) else (if ((σ 57 15) = 61 : Prop) then (if ((σ 57 21) = 0 : Prop) then K 10 σ else K (-1) σ) else (if ((σ 57 15) = 119 : Prop) then (if ((σ 57 17) = 1111 : Prop) then K 11 σ else (if ((σ 57 17) = 423 : Prop) then K 12 σ else K (-1) σ)) else K (-1) σ))))))) : zCI mX8_signed d [.ref 57] g σ K := by
  refine c_of_x pn_mX8_signed rfl (Nat.le_of_ble_eq_true rfl) ?_
  change zX _ _ 0 0 0 [.ref 57] [] g σ _
  refine x_aload_n dX8_signed_0 rfl ?_
  refine x_getI dX8_signed_1 fl_X8_133 (gA_57 hg) rfl ?_
  by_cases q1 : (σ 57 15) = 42
  · refine x_lsw (tgt := 64) dX8_signed_4 (by decide) (by first | (rw [q1]; done) | (rw [q1]; rfl)) rfl ?_
    replace h := itT q1 h
    refine x_bipush (v := 8) dX8_signed_64 rfl ?_
    exact x_iret (S := []) dX8_signed_66 rfl rfl ⟨_, rfl, rfl, h⟩
  · replace h := itF q1 h
    by_cases q2 : (σ 57 15) = 43
    · refine x_lsw (tgt := 67) dX8_signed_4 (by decide) (by first | (rw [q2]; done) | (rw [q2]; rfl)) rfl ?_
      replace h := itT q2 h
      refine x_bipush (v := 6) dX8_signed_67 rfl ?_
      exact x_iret (S := []) dX8_signed_69 rfl rfl ⟨_, rfl, rfl, h⟩
    · replace h := itF q2 h
      by_cases q3 : (σ 57 15) = 45
      · refine x_lsw (tgt := 70) dX8_signed_4 (by decide) (by first | (rw [q3]; done) | (rw [q3]; rfl)) rfl ?_
        replace h := itT q3 h
        refine x_bipush (v := 7) dX8_signed_70 rfl ?_
        exact x_iret (S := []) dX8_signed_72 rfl rfl ⟨_, rfl, rfl, h⟩
      · replace h := itF q3 h
        by_cases q4 : (σ 57 15) = 60
        · refine x_lsw (tgt := 73) dX8_signed_4 (by decide) (by first | (rw [q4]; done) | (rw [q4]; rfl)) rfl ?_
          replace h := itT q4 h
          refine x_aload_n dX8_signed_73 rfl ?_
          refine x_getI dX8_signed_74 fl_X8_178 (gA_57 hg) rfl ?_
          refine x_if_eq (tgt := 84) dX8_signed_77 rfl (fun q5 => ?_) (fun q5 => ?_)
          · replace h := itT q5 h
            refine x_bipush (v := 9) dX8_signed_84 rfl ?_
            exact x_iret (S := []) dX8_signed_86 rfl rfl ⟨_, rfl, rfl, h⟩
          · replace h := itF q5 h
            refine x_iconst (v := (-1)) dX8_signed_80 rfl ?_
            refine x_goto (tgt := 86) dX8_signed_81 rfl ?_
            exact x_iret (S := []) dX8_signed_86 rfl rfl ⟨_, rfl, rfl, h⟩
        · replace h := itF q4 h
          by_cases q5 : (σ 57 15) = 61
          · refine x_lsw (tgt := 87) dX8_signed_4 (by decide) (by first | (rw [q5]; done) | (rw [q5]; rfl)) rfl ?_
            replace h := itT q5 h
            refine x_aload_n dX8_signed_87 rfl ?_
            refine x_getI dX8_signed_88 fl_X8_178 (gA_57 hg) rfl ?_
            refine x_if_eq (tgt := 98) dX8_signed_91 rfl (fun q6 => ?_) (fun q6 => ?_)
            · replace h := itT q6 h
              refine x_bipush (v := 10) dX8_signed_98 rfl ?_
              exact x_iret (S := []) dX8_signed_100 rfl rfl ⟨_, rfl, rfl, h⟩
            · replace h := itF q6 h
              refine x_iconst (v := (-1)) dX8_signed_94 rfl ?_
              refine x_goto (tgt := 100) dX8_signed_95 rfl ?_
              exact x_iret (S := []) dX8_signed_100 rfl rfl ⟨_, rfl, rfl, h⟩
          · replace h := itF q5 h
            by_cases q6 : (σ 57 15) = 119
            · refine x_lsw (tgt := 101) dX8_signed_4 (by decide) (by first | (rw [q6]; done) | (rw [q6]; rfl)) rfl ?_
              replace h := itT q6 h
              refine x_aload_n dX8_signed_101 rfl ?_
              refine x_getI dX8_signed_102 fl_X8_124 (gA_57 hg) rfl ?_
              refine x_sipush (v := 1111) dX8_signed_105 rfl ?_
              refine x_icmp_ne (tgt := 116) dX8_signed_108 rfl (fun q7 => ?_) (fun q7 => ?_)
              · replace h := itF q7 h
                refine x_aload_n dX8_signed_116 rfl ?_
                refine x_getI dX8_signed_117 fl_X8_124 (gA_57 hg) rfl ?_
                refine x_sipush (v := 423) dX8_signed_120 rfl ?_
                refine x_icmp_ne (tgt := 131) dX8_signed_123 rfl (fun q8 => ?_) (fun q8 => ?_)
                · replace h := itF q8 h
                  refine x_iconst (v := (-1)) dX8_signed_131 rfl ?_
                  exact x_iret (S := []) dX8_signed_132 rfl rfl ⟨_, rfl, rfl, h⟩
                · replace h := itT q8 h
                  refine x_bipush (v := 12) dX8_signed_126 rfl ?_
                  refine x_goto (tgt := 132) dX8_signed_128 rfl ?_
                  exact x_iret (S := []) dX8_signed_132 rfl rfl ⟨_, rfl, rfl, h⟩
              · replace h := itT q7 h
                refine x_bipush (v := 11) dX8_signed_111 rfl ?_
                refine x_goto (tgt := 132) dX8_signed_113 rfl ?_
                exact x_iret (S := []) dX8_signed_132 rfl rfl ⟨_, rfl, rfl, h⟩
            · replace h := itF q6 h
              refine x_lsw (tgt := 133) dX8_signed_4 (by decide) (by show Op.lookupswitch.offset [(42, 60), (43, 63), (45, 66), (60, 69), (61, 83), (119, 97)] _ _ = _; first | (rw [lv_osw (a := 42) q1 rfl, lv_osw (a := 43) q2 rfl, lv_osw (a := 45) q3 rfl, lv_osw (a := 60) q4 rfl, lv_osw (a := 61) q5 rfl, lv_osw (a := 119) q6 rfl]; done) | (rw [lv_osw (a := 42) q1 rfl, lv_osw (a := 43) q2 rfl, lv_osw (a := 45) q3 rfl, lv_osw (a := 60) q4 rfl, lv_osw (a := 61) q5 rfl, lv_osw (a := 119) q6 rfl]; rfl)) rfl ?_
              refine x_iconst (v := (-1)) dX8_signed_133 rfl ?_
              exact x_iret (S := []) dX8_signed_134 rfl rfl ⟨_, rfl, rfl, h⟩
