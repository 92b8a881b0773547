/-- the law's method, whatever its name: the Statement does not give it at the entry -/
def mLn (nm : String) : zM := (⟨RL, nm, "([I)Z"⟩, cL_law, 4, some .boolean, 79, 6121)
abbrev p_L_law_18 (nm : String) (d : Nat) (g : zG) (K : Int32 → zI → Prop) (σ : zI) (l3 : Int32) : Prop := zX (mLn nm) (d + 1) 0 0 18 [.ref 3000, .ref 0, .ref 57, .int l3] [] g σ (zqI g K)
abbrev p_L_law_160 (nm : String) (d : Nat) (g : zG) (K : Int32 → zI → Prop) (σ : zI) (l3 : Int32) : Prop := zX (mLn nm) (d + 1) 0 0 160 [.ref 3000, .ref 0, .ref 57, .int l3] [] g σ (zqI g K)
abbrev p_L_law_203 (nm : String) (d : Nat) (g : zG) (K : Int32 → zI → Prop) (σ : zI) (l3 : Int32) : Prop := zX (mLn nm) (d + 1) 0 0 203 [.ref 3000, .ref 0, .ref 57, .int l3] [] g σ (zqI g K)
abbrev p_L_law_236 (nm : String) (d : Nat) (g : zG) (K : Int32 → zI → Prop) (σ : zI) (l3 : Int32) : Prop := zX (mLn nm) (d + 1) 0 0 236 [.ref 3000, .ref 0, .ref 57, .int l3] [] g σ (zqI g K)
abbrev p_L_law_279 (nm : String) (d : Nat) (g : zG) (K : Int32 → zI → Prop) (σ : zI) (l3 : Int32) : Prop := zX (mLn nm) (d + 1) 0 0 279 [.ref 3000, .ref 0, .ref 57, .int l3] [] g σ (zqI g K)
abbrev p_L_law_312 (nm : String) (d : Nat) (g : zG) (K : Int32 → zI → Prop) (σ : zI) (l3 : Int32) : Prop := zX (mLn nm) (d + 1) 0 0 312 [.ref 3000, .ref 0, .ref 57, .int l3] [] g σ (zqI g K)
abbrev p_L_law_335 (nm : String) (d : Nat) (g : zG) (K : Int32 → zI → Prop) (σ : zI) (l3 : Int32) : Prop := zX (mLn nm) (d + 1) 0 0 335 [.ref 3000, .ref 0, .ref 57, .int l3] [] g σ (zqI g K)
abbrev p_L_law_348 (nm : String) (d : Nat) (g : zG) (K : Int32 → zI → Prop) (σ : zI) (l3 : Int32) : Prop := zX (mLn nm) (d + 1) 0 0 348 [.ref 3000, .ref 0, .ref 57, .int l3] [] g σ (zqI g K)
abbrev p_L_law_371 (nm : String) (d : Nat) (g : zG) (K : Int32 → zI → Prop) (σ : zI) (l3 : Int32) : Prop := zX (mLn nm) (d + 1) 0 0 371 [.ref 3000, .ref 0, .ref 57, .int l3] [] g σ (zqI g K)
abbrev p_L_law_414 (nm : String) (d : Nat) (g : zG) (K : Int32 → zI → Prop) (σ : zI) (l3 : Int32) : Prop := zX (mLn nm) (d + 1) 0 0 414 [.ref 3000, .ref 0, .ref 57, .int l3] [] g σ (zqI g K)
abbrev p_L_law_447 (nm : String) (d : Nat) (g : zG) (K : Int32 → zI → Prop) (σ : zI) (l3 : Int32) : Prop := zX (mLn nm) (d + 1) 0 0 447 [.ref 3000, .ref 0, .ref 57, .int l3] [] g σ (zqI g K)
abbrev p_L_law_500 (nm : String) (d : Nat) (g : zG) (K : Int32 → zI → Prop) (σ : zI) (l3 : Int32) : Prop := zX (mLn nm) (d + 1) 0 0 500 [.ref 3000, .ref 0, .ref 57, .int l3] [] g σ (zqI g K)
abbrev p_L_law_543 (nm : String) (d : Nat) (g : zG) (K : Int32 → zI → Prop) (σ : zI) (l3 : Int32) : Prop := zX (mLn nm) (d + 1) 0 0 543 [.ref 3000, .ref 0, .ref 57, .int l3] [] g σ (zqI g K)
abbrev p_L_law_566 (nm : String) (d : Nat) (g : zG) (K : Int32 → zI → Prop) (σ : zI) (l3 : Int32) : Prop := zX (mLn nm) (d + 1) 0 0 566 [.ref 3000, .ref 0, .ref 57, .int l3] [] g σ (zqI g K)
abbrev p_L_law_599 (nm : String) (d : Nat) (g : zG) (K : Int32 → zI → Prop) (σ : zI) (l3 : Int32) : Prop := zX (mLn nm) (d + 1) 0 0 599 [.ref 3000, .ref 0, .ref 57, .int l3] [] g σ (zqI g K)
abbrev p_L_law_632 (nm : String) (d : Nat) (g : zG) (K : Int32 → zI → Prop) (σ : zI) (l3 : Int32) : Prop := zX (mLn nm) (d + 1) 0 0 632 [.ref 3000, .ref 0, .ref 57, .int l3] [] g σ (zqI g K)
abbrev p_L_law_675 (nm : String) (d : Nat) (g : zG) (K : Int32 → zI → Prop) (σ : zI) (l3 : Int32) : Prop := zX (mLn nm) (d + 1) 0 0 675 [.ref 3000, .ref 0, .ref 57, .int l3] [] g σ (zqI g K)
abbrev p_L_law_718 (nm : String) (d : Nat) (g : zG) (K : Int32 → zI → Prop) (σ : zI) (l3 : Int32) : Prop := zX (mLn nm) (d + 1) 0 0 718 [.ref 3000, .ref 0, .ref 57, .int l3] [] g σ (zqI g K)
abbrev p_L_law_771 (nm : String) (d : Nat) (g : zG) (K : Int32 → zI → Prop) (σ : zI) (l3 : Int32) : Prop := zX (mLn nm) (d + 1) 0 0 771 [.ref 3000, .ref 0, .ref 57, .int l3] [] g σ (zqI g K)
abbrev p_L_law_824 (nm : String) (d : Nat) (g : zG) (K : Int32 → zI → Prop) (σ : zI) (l3 : Int32) : Prop := zX (mLn nm) (d + 1) 0 0 824 [.ref 3000, .ref 0, .ref 57, .int l3] [] g σ (zqI g K)
abbrev p_L_law_847 (nm : String) (d : Nat) (g : zG) (K : Int32 → zI → Prop) (σ : zI) (l3 : Int32) : Prop := zX (mLn nm) (d + 1) 0 0 847 [.ref 3000, .ref 0, .ref 57, .int l3] [] g σ (zqI g K)
abbrev p_L_law_891 (nm : String) (d : Nat) (g : zG) (K : Int32 → zI → Prop) (σ : zI) (l3 : Int32) : Prop := zX (mLn nm) (d + 1) 0 0 891 [.ref 3000, .ref 0, .ref 57, .int l3] [] g σ (zqI g K)
abbrev p_L_law_904 (nm : String) (d : Nat) (g : zG) (K : Int32 → zI → Prop) (σ : zI) (l3 : Int32) : Prop := zX (mLn nm) (d + 1) 0 0 904 [.ref 3000, .ref 0, .ref 57, .int l3] [] g σ (zqI g K)
abbrev p_L_law_917 (nm : String) (d : Nat) (g : zG) (K : Int32 → zI → Prop) (σ : zI) (l3 : Int32) : Prop := zX (mLn nm) (d + 1) 0 0 917 [.ref 3000, .ref 0, .ref 57, .int l3] [] g σ (zqI g K)
abbrev p_L_law_940 (nm : String) (d : Nat) (g : zG) (K : Int32 → zI → Prop) (σ : zI) (l3 : Int32) : Prop := zX (mLn nm) (d + 1) 0 0 940 [.ref 3000, .ref 0, .ref 57, .int l3] [] g σ (zqI g K)
abbrev p_L_law_983 (nm : String) (d : Nat) (g : zG) (K : Int32 → zI → Prop) (σ : zI) (l3 : Int32) : Prop := zX (mLn nm) (d + 1) 0 0 983 [.ref 3000, .ref 0, .ref 57, .int l3] [] g σ (zqI g K)
abbrev p_L_law_1026 (nm : String) (d : Nat) (g : zG) (K : Int32 → zI → Prop) (σ : zI) (l3 : Int32) : Prop := zX (mLn nm) (d + 1) 0 0 1026 [.ref 3000, .ref 0, .ref 57, .int l3] [] g σ (zqI g K)
abbrev p_L_law_1089 (nm : String) (d : Nat) (g : zG) (K : Int32 → zI → Prop) (σ : zI) (l3 : Int32) : Prop := zX (mLn nm) (d + 1) 0 0 1089 [.ref 3000, .ref 0, .ref 57, .int l3] [] g σ (zqI g K)
abbrev p_L_law_1142 (nm : String) (d : Nat) (g : zG) (K : Int32 → zI → Prop) (σ : zI) (l3 : Int32) : Prop := zX (mLn nm) (d + 1) 0 0 1142 [.ref 3000, .ref 0, .ref 57, .int l3] [] g σ (zqI g K)
abbrev p_L_law_1175 (nm : String) (d : Nat) (g : zG) (K : Int32 → zI → Prop) (σ : zI) (l3 : Int32) : Prop := zX (mLn nm) (d + 1) 0 0 1175 [.ref 3000, .ref 0, .ref 57, .int l3] [] g σ (zqI g K)
set_option maxRecDepth 20000 in
theorem s_L_law_18 {nm : String} {d : Nat} {g : zG} {σ : zI} {K : Int32 → zI → Prop} (hg : zGA g) {n0 : Nat} (h0 : g.2.1 3000 = (9, 0, n0)) {l3 : Int32} (h : (if (((nI n0) - 6) < l3 : Prop) then K 1 σ else vp_in l3 n0 ∧ (if (((σ 3000 l3.toNatClampNeg) &&& 31) = 0 : Prop) then p_L_law_160 nm d g K σ l3 else (if (((σ 3000 l3.toNatClampNeg) &&& 31) = 1 : Prop) then p_L_law_203 nm d g K σ l3 else (if (((σ 3000 l3.toNatClampNeg) &&& 31) = 2 : Prop) then p_L_law_236 nm d g K σ l3 else (if (((σ 3000 l3.toNatClampNeg) &&& 31) = 3 : Prop) then p_L_law_279 nm d g K σ l3 else (if (((σ 3000 l3.toNatClampNeg) &&& 31) = 4 : Prop) then p_L_law_312 nm d g K σ l3 else (if (((σ 3000 l3.toNatClampNeg) &&& 31) = 5 : Prop) then p_L_law_335 nm d g K σ l3 else (if (((σ 3000 l3.toNatClampNeg) &&& 31) = 6 : Prop) then p_L_law_348 nm d g K σ l3 else (if (((σ 3000 l3.toNatClampNeg) &&& 31) = 7 : Prop) then p_L_law_371 nm d g K σ l3 else (if (((σ 3000 l3.toNatClampNeg) &&& 31) = 8 : Prop) then p_L_law_414 nm d g K σ l3 else (if (((σ 3000 l3.toNatClampNeg) &&& 31) = 9 : Prop) then p_L_law_447 nm d g K σ l3 else (if (((σ 3000 l3.toNatClampNeg) &&& 31) = 10 : Prop) then p_L_law_500 nm d g K σ l3 else (if (((σ 3000 l3.toNatClampNeg) &&& 31) = 11 : Prop) then p_L_law_543 nm d g K σ l3 else (if (((σ 3000 l3.toNatClampNeg) &&& 31) = 12 : Prop) then p_L_law_566 nm d g K σ l3 else (if (((σ 3000 l3.toNatClampNeg) &&& 31) = 13 : Prop) then p_L_law_599 nm d g K σ l3 else (if (((σ 3000 l3.toNatClampNeg) &&& 31) = 14 : Prop) then p_L_law_632 nm d g K σ l3 else (if (((σ 3000 l3.toNatClampNeg) &&& 31) = 15 : Prop) then p_L_law_675 nm d g K σ l3 else (if (((σ 3000 l3.toNatClampNeg) &&& 31) = 16 : Prop) then p_L_law_718 nm d g K σ l3 else (if (((σ 3000 l3.toNatClampNeg) &&& 31) = 17 : Prop) then p_L_law_771 nm d g K σ l3 else (if (((σ 3000 l3.toNatClampNeg) &&& 31) = 18 : Prop) then p_L_law_824 nm d g K σ l3 else (if (((σ 3000 l3.toNatClampNeg) &&& 31) = 19 : Prop) then p_L_law_847 nm d g K σ l3 else (if (((σ 3000 l3.toNatClampNeg) &&& 31) = 20 : Prop) then p_L_law_891 nm d g K σ l3 else (if (((σ 3000 l3.toNatClampNeg) &&& 31) = 21 : Prop) then p_L_law_904 nm d g K σ l3 else (if (((σ 3000 l3.toNatClampNeg) &&& 31) = 22 : Prop) then p_L_law_917 nm d g K σ l3 else (if (((σ 3000 l3.toNatClampNeg) &&& 31) = 23 : Prop) then p_L_law_940 nm d g K σ l3 else (if (((σ 3000 l3.toNatClampNeg) &&& 31) = 24 : Prop) then p_L_law_983 nm d g K σ l3 else (if (((σ 3000 l3.toNatClampNeg) &&& 31) = 25 : Prop) then p_L_law_1026 nm d g K σ l3 else (if (((σ 3000 l3.toNatClampNeg) &&& 31) = 26 : Prop) then p_L_law_1089 nm d g K σ l3 else (if (((σ 3000 l3.toNatClampNeg) &&& 31) = 27 : Prop) then p_L_law_1142 nm d g K σ l3 else p_L_law_1175 nm d g K σ l3)))))))))))))))))))))))))))))) : p_L_law_18 nm d g K σ l3 := by
  refine x_iload_n dL_law_18 rfl ?_
  refine x_aload_n dL_law_19 rfl ?_
  refine x_xlen dL_law_20 h0 ?_
  refine x_bipush (v := 6) dL_law_21 rfl ?_
  refine x_isub dL_law_23 ?_
  refine x_icmp_gt (tgt := 1181) dL_law_24 rfl (fun q1 => ?_) (fun q1 => ?_)
  · replace h := itT q1 h
    refine x_iconst (v := 1) dL_law_1181 rfl ?_
    exact x_iret (S := []) dL_law_1182 rfl rfl ⟨_, rfl, rfl, h⟩
  · replace h := itF q1 h
    refine x_aload_n dL_law_27 rfl ?_
    refine x_iload_n dL_law_28 rfl ?_
    obtain ⟨q2, h⟩ := h
    refine x_xld dL_law_29 h0 q2 ?_
    refine x_bipush (v := 31) dL_law_30 rfl ?_
    refine x_iand dL_law_32 ?_
    by_cases q3 : ((σ 3000 l3.toNatClampNeg) &&& 31) = 0
    · refine x_tsw (tgt := 160) dL_law_33 (by rw [q3]; decide) (by rw [q3]; decide) (by rw [q3]; rfl) rfl ?_
      replace h := itT q3 h
      exact h
    · replace h := itF q3 h
      by_cases q4 : ((σ 3000 l3.toNatClampNeg) &&& 31) = 1
      · refine x_tsw (tgt := 203) dL_law_33 (by rw [q4]; decide) (by rw [q4]; decide) (by rw [q4]; rfl) rfl ?_
        replace h := itT q4 h
        exact h
      · replace h := itF q4 h
        by_cases q5 : ((σ 3000 l3.toNatClampNeg) &&& 31) = 2
        · refine x_tsw (tgt := 236) dL_law_33 (by rw [q5]; decide) (by rw [q5]; decide) (by rw [q5]; rfl) rfl ?_
          replace h := itT q5 h
          exact h
        · replace h := itF q5 h
          by_cases q6 : ((σ 3000 l3.toNatClampNeg) &&& 31) = 3
          · refine x_tsw (tgt := 279) dL_law_33 (by rw [q6]; decide) (by rw [q6]; decide) (by rw [q6]; rfl) rfl ?_
            replace h := itT q6 h
            exact h
          · replace h := itF q6 h
            by_cases q7 : ((σ 3000 l3.toNatClampNeg) &&& 31) = 4
            · refine x_tsw (tgt := 312) dL_law_33 (by rw [q7]; decide) (by rw [q7]; decide) (by rw [q7]; rfl) rfl ?_
              replace h := itT q7 h
              exact h
            · replace h := itF q7 h
              by_cases q8 : ((σ 3000 l3.toNatClampNeg) &&& 31) = 5
              · refine x_tsw (tgt := 335) dL_law_33 (by rw [q8]; decide) (by rw [q8]; decide) (by rw [q8]; rfl) rfl ?_
                replace h := itT q8 h
                exact h
              · replace h := itF q8 h
                by_cases q9 : ((σ 3000 l3.toNatClampNeg) &&& 31) = 6
                · refine x_tsw (tgt := 348) dL_law_33 (by rw [q9]; decide) (by rw [q9]; decide) (by rw [q9]; rfl) rfl ?_
                  replace h := itT q9 h
                  exact h
                · replace h := itF q9 h
                  by_cases q10 : ((σ 3000 l3.toNatClampNeg) &&& 31) = 7
                  · refine x_tsw (tgt := 371) dL_law_33 (by rw [q10]; decide) (by rw [q10]; decide) (by rw [q10]; rfl) rfl ?_
                    replace h := itT q10 h
                    exact h
                  · replace h := itF q10 h
                    by_cases q11 : ((σ 3000 l3.toNatClampNeg) &&& 31) = 8
                    · refine x_tsw (tgt := 414) dL_law_33 (by rw [q11]; decide) (by rw [q11]; decide) (by rw [q11]; rfl) rfl ?_
                      replace h := itT q11 h
                      exact h
                    · replace h := itF q11 h
                      by_cases q12 : ((σ 3000 l3.toNatClampNeg) &&& 31) = 9
                      · refine x_tsw (tgt := 447) dL_law_33 (by rw [q12]; decide) (by rw [q12]; decide) (by rw [q12]; rfl) rfl ?_
                        replace h := itT q12 h
                        exact h
                      · replace h := itF q12 h
                        by_cases q13 : ((σ 3000 l3.toNatClampNeg) &&& 31) = 10
                        · refine x_tsw (tgt := 500) dL_law_33 (by rw [q13]; decide) (by rw [q13]; decide) (by rw [q13]; rfl) rfl ?_
                          replace h := itT q13 h
                          exact h
                        · replace h := itF q13 h
                          by_cases q14 : ((σ 3000 l3.toNatClampNeg) &&& 31) = 11
                          · refine x_tsw (tgt := 543) dL_law_33 (by rw [q14]; decide) (by rw [q14]; decide) (by rw [q14]; rfl) rfl ?_
                            replace h := itT q14 h
                            exact h
                          · replace h := itF q14 h
                            by_cases q15 : ((σ 3000 l3.toNatClampNeg) &&& 31) = 12
                            · refine x_tsw (tgt := 566) dL_law_33 (by rw [q15]; decide) (by rw [q15]; decide) (by rw [q15]; rfl) rfl ?_
                              replace h := itT q15 h
                              exact h
                            · replace h := itF q15 h
                              by_cases q16 : ((σ 3000 l3.toNatClampNeg) &&& 31) = 13
                              · refine x_tsw (tgt := 599) dL_law_33 (by rw [q16]; decide) (by rw [q16]; decide) (by rw [q16]; rfl) rfl ?_
                                replace h := itT q16 h
                                exact h
                              · replace h := itF q16 h
                                by_cases q17 : ((σ 3000 l3.toNatClampNeg) &&& 31) = 14
                                · refine x_tsw (tgt := 632) dL_law_33 (by rw [q17]; decide) (by rw [q17]; decide) (by rw [q17]; rfl) rfl ?_
                                  replace h := itT q17 h
                                  exact h
                                · replace h := itF q17 h
                                  by_cases q18 : ((σ 3000 l3.toNatClampNeg) &&& 31) = 15
                                  · refine x_tsw (tgt := 675) dL_law_33 (by rw [q18]; decide) (by rw [q18]; decide) (by rw [q18]; rfl) rfl ?_
                                    replace h := itT q18 h
                                    exact h
                                  · replace h := itF q18 h
                                    by_cases q19 : ((σ 3000 l3.toNatClampNeg) &&& 31) = 16
                                    · refine x_tsw (tgt := 718) dL_law_33 (by rw [q19]; decide) (by rw [q19]; decide) (by rw [q19]; rfl) rfl ?_
                                      replace h := itT q19 h
                                      exact h
                                    · replace h := itF q19 h
                                      by_cases q20 : ((σ 3000 l3.toNatClampNeg) &&& 31) = 17
                                      · refine x_tsw (tgt := 771) dL_law_33 (by rw [q20]; decide) (by rw [q20]; decide) (by rw [q20]; rfl) rfl ?_
                                        replace h := itT q20 h
                                        exact h
                                      · replace h := itF q20 h
                                        by_cases q21 : ((σ 3000 l3.toNatClampNeg) &&& 31) = 18
                                        · refine x_tsw (tgt := 824) dL_law_33 (by rw [q21]; decide) (by rw [q21]; decide) (by rw [q21]; rfl) rfl ?_
                                          replace h := itT q21 h
                                          exact h
                                        · replace h := itF q21 h
                                          by_cases q22 : ((σ 3000 l3.toNatClampNeg) &&& 31) = 19
                                          · refine x_tsw (tgt := 847) dL_law_33 (by rw [q22]; decide) (by rw [q22]; decide) (by rw [q22]; rfl) rfl ?_
                                            replace h := itT q22 h
                                            exact h
                                          · replace h := itF q22 h
                                            by_cases q23 : ((σ 3000 l3.toNatClampNeg) &&& 31) = 20
                                            · refine x_tsw (tgt := 891) dL_law_33 (by rw [q23]; decide) (by rw [q23]; decide) (by rw [q23]; rfl) rfl ?_
                                              replace h := itT q23 h
                                              exact h
                                            · replace h := itF q23 h
                                              by_cases q24 : ((σ 3000 l3.toNatClampNeg) &&& 31) = 21
                                              · refine x_tsw (tgt := 904) dL_law_33 (by rw [q24]; decide) (by rw [q24]; decide) (by rw [q24]; rfl) rfl ?_
                                                replace h := itT q24 h
                                                exact h
                                              · replace h := itF q24 h
                                                by_cases q25 : ((σ 3000 l3.toNatClampNeg) &&& 31) = 22
                                                · refine x_tsw (tgt := 917) dL_law_33 (by rw [q25]; decide) (by rw [q25]; decide) (by rw [q25]; rfl) rfl ?_
                                                  replace h := itT q25 h
                                                  exact h
                                                · replace h := itF q25 h
                                                  by_cases q26 : ((σ 3000 l3.toNatClampNeg) &&& 31) = 23
                                                  · refine x_tsw (tgt := 940) dL_law_33 (by rw [q26]; decide) (by rw [q26]; decide) (by rw [q26]; rfl) rfl ?_
                                                    replace h := itT q26 h
                                                    exact h
                                                  · replace h := itF q26 h
                                                    by_cases q27 : ((σ 3000 l3.toNatClampNeg) &&& 31) = 24
                                                    · refine x_tsw (tgt := 983) dL_law_33 (by rw [q27]; decide) (by rw [q27]; decide) (by rw [q27]; rfl) rfl ?_
                                                      replace h := itT q27 h
                                                      exact h
                                                    · replace h := itF q27 h
                                                      by_cases q28 : ((σ 3000 l3.toNatClampNeg) &&& 31) = 25
                                                      · refine x_tsw (tgt := 1026) dL_law_33 (by rw [q28]; decide) (by rw [q28]; decide) (by rw [q28]; rfl) rfl ?_
                                                        replace h := itT q28 h
                                                        exact h
                                                      · replace h := itF q28 h
                                                        by_cases q29 : ((σ 3000 l3.toNatClampNeg) &&& 31) = 26
                                                        · refine x_tsw (tgt := 1089) dL_law_33 (by rw [q29]; decide) (by rw [q29]; decide) (by rw [q29]; rfl) rfl ?_
                                                          replace h := itT q29 h
                                                          exact h
                                                        · replace h := itF q29 h
                                                          by_cases q30 : ((σ 3000 l3.toNatClampNeg) &&& 31) = 27
                                                          · refine x_tsw (tgt := 1142) dL_law_33 (by rw [q30]; decide) (by rw [q30]; decide) (by rw [q30]; rfl) rfl ?_
                                                            replace h := itT q30 h
                                                            exact h
                                                          · replace h := itF q30 h
                                                            refine x_tswd (tgt := 1175) dL_law_33 (by have z0 := lv_neT (a := 0) q3 rfl; have z1 := lv_neT (a := 1) q4 rfl; have z2 := lv_neT (a := 2) q5 rfl; have z3 := lv_neT (a := 3) q6 rfl; have z4 := lv_neT (a := 4) q7 rfl; have z5 := lv_neT (a := 5) q8 rfl; have z6 := lv_neT (a := 6) q9 rfl; have z7 := lv_neT (a := 7) q10 rfl; have z8 := lv_neT (a := 8) q11 rfl; have z9 := lv_neT (a := 9) q12 rfl; have z10 := lv_neT (a := 10) q13 rfl; have z11 := lv_neT (a := 11) q14 rfl; have z12 := lv_neT (a := 12) q15 rfl; have z13 := lv_neT (a := 13) q16 rfl; have z14 := lv_neT (a := 14) q17 rfl; have z15 := lv_neT (a := 15) q18 rfl; have z16 := lv_neT (a := 16) q19 rfl; have z17 := lv_neT (a := 17) q20 rfl; have z18 := lv_neT (a := 18) q21 rfl; have z19 := lv_neT (a := 19) q22 rfl; have z20 := lv_neT (a := 20) q23 rfl; have z21 := lv_neT (a := 21) q24 rfl; have z22 := lv_neT (a := 22) q25 rfl; have z23 := lv_neT (a := 23) q26 rfl; have z24 := lv_neT (a := 24) q27 rfl; have z25 := lv_neT (a := 25) q28 rfl; have z26 := lv_neT (a := 26) q29 rfl; have z27 := lv_neT (a := 27) q30 rfl; omega) rfl ?_
                                                            exact h
set_option maxRecDepth 20000 in
theorem s_L_law_160 {nm : String} {d : Nat} {g : zG} {σ : zI} {K : Int32 → zI → Prop} (hg : zGA g) {n0 : Nat} (h0 : g.2.1 3000 = (9, 0, n0)) {l3 : Int32} (h : vp_in (l3 + 1) n0 ∧ vp_in (l3 + 2) n0 ∧ vp_in (l3 + 3) n0 ∧ zCI mX7_set d [.ref 0, .int (σ 3000 ((l3 + 1 : Int32).toNatClampNeg)), .int (σ 3000 ((l3 + 2 : Int32).toNatClampNeg)), .int (σ 3000 ((l3 + 3 : Int32).toNatClampNeg))] g σ (fun v1 σ1 => vp_in (l3 + 1) n0 ∧ vp_in (l3 + 2) n0 ∧ vp_in (l3 + 3) n0 ∧ zCI mX8_set d [.ref 57, .int (σ1 3000 ((l3 + 1 : Int32).toNatClampNeg)), .int (σ1 3000 ((l3 + 2 : Int32).toNatClampNeg)), .int (σ1 3000 ((l3 + 3 : Int32).toNatClampNeg))] g σ1 (fun v2 σ2 => (if (v1 = v2 : Prop) then p_L_law_1175 nm d g K σ2 l3 else K 0 σ2)))) : p_L_law_160 nm d g K σ l3 := by
  refine x_aload_n dL_law_160 rfl ?_
  refine x_aload_n dL_law_161 rfl ?_
  refine x_iload_n dL_law_162 rfl ?_
  refine x_iconst (v := 1) dL_law_163 rfl ?_
  refine x_iadd dL_law_164 ?_
  obtain ⟨q1, h⟩ := h
  refine x_xld dL_law_165 h0 q1 ?_
  refine x_aload_n dL_law_166 rfl ?_
  refine x_iload_n dL_law_167 rfl ?_
  refine x_iconst (v := 2) dL_law_168 rfl ?_
  refine x_iadd dL_law_169 ?_
  obtain ⟨q2, h⟩ := h
  refine x_xld dL_law_170 h0 q2 ?_
  refine x_aload_n dL_law_171 rfl ?_
  refine x_iload_n dL_law_172 rfl ?_
  refine x_iconst (v := 3) dL_law_173 rfl ?_
  refine x_iadd dL_law_174 ?_
  obtain ⟨q3, h⟩ := h
  refine x_xld dL_law_175 h0 q3 ?_
  refine x_callV (Y2 := mX7_set) (as := [.int (σ 3000 ((l3 + 1 : Int32).toNatClampNeg)), .int (σ 3000 ((l3 + 2 : Int32).toNatClampNeg)), .int (σ 3000 ((l3 + 3 : Int32).toNatClampNeg))]) (S := []) (kc2 := 0) (ks2 := 0) mv_mX7_set (Or.inl ⟨7, _, rfl, rfl, (gA_0 hg)⟩) dL_law_176 lk_L_13 mo_mX7_set rfl rfl (Nat.le_of_ble_eq_true rfl) (Or.inl rfl) rfl rfl h ?_
  rintro _ _ σ1 ⟨v1, rfl, rfl, h⟩
  change zX _ _ 0 0 179 _ [.int v1] _ _ _
  refine x_aload_n dL_law_179 rfl ?_
  refine x_aload_n dL_law_180 rfl ?_
  refine x_iload_n dL_law_181 rfl ?_
  refine x_iconst (v := 1) dL_law_182 rfl ?_
  refine x_iadd dL_law_183 ?_
  obtain ⟨q4, h⟩ := h
  refine x_xld dL_law_184 h0 q4 ?_
  refine x_aload_n dL_law_185 rfl ?_
  refine x_iload_n dL_law_186 rfl ?_
  refine x_iconst (v := 2) dL_law_187 rfl ?_
  refine x_iadd dL_law_188 ?_
  obtain ⟨q5, h⟩ := h
  refine x_xld dL_law_189 h0 q5 ?_
  refine x_aload_n dL_law_190 rfl ?_
  refine x_iload_n dL_law_191 rfl ?_
  refine x_iconst (v := 3) dL_law_192 rfl ?_
  refine x_iadd dL_law_193 ?_
  obtain ⟨q6, h⟩ := h
  refine x_xld dL_law_194 h0 q6 ?_
  refine x_callV (Y2 := mX8_set) (as := [.int (σ1 3000 ((l3 + 1 : Int32).toNatClampNeg)), .int (σ1 3000 ((l3 + 2 : Int32).toNatClampNeg)), .int (σ1 3000 ((l3 + 3 : Int32).toNatClampNeg))]) (S := [.int v1]) (kc2 := 0) (ks2 := 0) mv_mX8_set (Or.inl ⟨8, _, rfl, rfl, (gA_57 hg)⟩) dL_law_195 lk_L_17 mo_mX8_set rfl rfl (Nat.le_of_ble_eq_true rfl) (Or.inl rfl) rfl rfl h ?_
  rintro _ _ σ2 ⟨v2, rfl, rfl, h⟩
  change zX _ _ 0 0 198 _ [.int v2, .int v1] _ _ _
  refine x_icmp_eq (tgt := 1175) dL_law_198 rfl (fun q7 => ?_) (fun q7 => ?_)
  · replace h := itT q7 h
    exact h
  · replace h := itF q7 h
    refine x_iconst (v := 0) dL_law_201 rfl ?_
    exact x_iret (S := []) dL_law_202 rfl rfl ⟨_, rfl, rfl, h⟩
set_option maxRecDepth 20000 in
theorem s_L_law_203 {nm : String} {d : Nat} {g : zG} {σ : zI} {K : Int32 → zI → Prop} (hg : zGA g) {n0 : Nat} (h0 : g.2.1 3000 = (9, 0, n0)) {l3 : Int32} (h : vp_in (l3 + 1) n0 ∧ vp_in (l3 + 2) n0 ∧ zCI mX7_heir d [.ref 0, .int (σ 3000 ((l3 + 1 : Int32).toNatClampNeg)), .int (σ 3000 ((l3 + 2 : Int32).toNatClampNeg))] g σ (fun v1 σ1 => vp_in (l3 + 1) n0 ∧ vp_in (l3 + 2) n0 ∧ zCI mX8_heir d [.ref 57, .int (σ1 3000 ((l3 + 1 : Int32).toNatClampNeg)), .int (σ1 3000 ((l3 + 2 : Int32).toNatClampNeg))] g σ1 (fun v2 σ2 => (if (v1 = v2 : Prop) then p_L_law_1175 nm d g K σ2 l3 else K 0 σ2)))) : p_L_law_203 nm d g K σ l3 := by
  refine x_aload_n dL_law_203 rfl ?_
  refine x_aload_n dL_law_204 rfl ?_
  refine x_iload_n dL_law_205 rfl ?_
  refine x_iconst (v := 1) dL_law_206 rfl ?_
  refine x_iadd dL_law_207 ?_
  obtain ⟨q1, h⟩ := h
  refine x_xld dL_law_208 h0 q1 ?_
  refine x_aload_n dL_law_209 rfl ?_
  refine x_iload_n dL_law_210 rfl ?_
  refine x_iconst (v := 2) dL_law_211 rfl ?_
  refine x_iadd dL_law_212 ?_
  obtain ⟨q2, h⟩ := h
  refine x_xld dL_law_213 h0 q2 ?_
  refine x_callV (Y2 := mX7_heir) (as := [.int (σ 3000 ((l3 + 1 : Int32).toNatClampNeg)), .int (σ 3000 ((l3 + 2 : Int32).toNatClampNeg))]) (S := []) (kc2 := 0) (ks2 := 0) mv_mX7_heir (Or.inl ⟨7, _, rfl, rfl, (gA_0 hg)⟩) dL_law_214 lk_L_18 mo_mX7_heir rfl rfl (Nat.le_of_ble_eq_true rfl) (Or.inl rfl) rfl rfl h ?_
  rintro _ _ σ1 ⟨v1, rfl, rfl, h⟩
  change zX _ _ 0 0 217 _ [.int v1] _ _ _
  refine x_aload_n dL_law_217 rfl ?_
  refine x_aload_n dL_law_218 rfl ?_
  refine x_iload_n dL_law_219 rfl ?_
  refine x_iconst (v := 1) dL_law_220 rfl ?_
  refine x_iadd dL_law_221 ?_
  obtain ⟨q3, h⟩ := h
  refine x_xld dL_law_222 h0 q3 ?_
  refine x_aload_n dL_law_223 rfl ?_
  refine x_iload_n dL_law_224 rfl ?_
  refine x_iconst (v := 2) dL_law_225 rfl ?_
  refine x_iadd dL_law_226 ?_
  obtain ⟨q4, h⟩ := h
  refine x_xld dL_law_227 h0 q4 ?_
  refine x_callV (Y2 := mX8_heir) (as := [.int (σ1 3000 ((l3 + 1 : Int32).toNatClampNeg)), .int (σ1 3000 ((l3 + 2 : Int32).toNatClampNeg))]) (S := [.int v1]) (kc2 := 0) (ks2 := 0) mv_mX8_heir (Or.inl ⟨8, _, rfl, rfl, (gA_57 hg)⟩) dL_law_228 lk_L_22 mo_mX8_heir rfl rfl (Nat.le_of_ble_eq_true rfl) (Or.inl rfl) rfl rfl h ?_
  rintro _ _ σ2 ⟨v2, rfl, rfl, h⟩
  change zX _ _ 0 0 231 _ [.int v2, .int v1] _ _ _
  refine x_icmp_eq (tgt := 1175) dL_law_231 rfl (fun q5 => ?_) (fun q5 => ?_)
  · replace h := itT q5 h
    exact h
  · replace h := itF q5 h
    refine x_iconst (v := 0) dL_law_234 rfl ?_
    exact x_iret (S := []) dL_law_235 rfl rfl ⟨_, rfl, rfl, h⟩
set_option maxRecDepth 20000 in
theorem s_L_law_236 {nm : String} {d : Nat} {g : zG} {σ : zI} {K : Int32 → zI → Prop} (hg : zGA g) {n0 : Nat} (h0 : g.2.1 3000 = (9, 0, n0)) {l3 : Int32} (h : vp_in (l3 + 1) n0 ∧ vp_in (l3 + 2) n0 ∧ vp_in (l3 + 3) n0 ∧ zCI mX7_give d [.ref 0, .int (σ 3000 ((l3 + 1 : Int32).toNatClampNeg)), .int (σ 3000 ((l3 + 2 : Int32).toNatClampNeg)), .int (σ 3000 ((l3 + 3 : Int32).toNatClampNeg))] g σ (fun v1 σ1 => vp_in (l3 + 1) n0 ∧ vp_in (l3 + 2) n0 ∧ vp_in (l3 + 3) n0 ∧ zCI mX8_give d [.ref 57, .int (σ1 3000 ((l3 + 1 : Int32).toNatClampNeg)), .int (σ1 3000 ((l3 + 2 : Int32).toNatClampNeg)), .int (σ1 3000 ((l3 + 3 : Int32).toNatClampNeg))] g σ1 (fun v2 σ2 => (if (v1 = v2 : Prop) then p_L_law_1175 nm d g K σ2 l3 else K 0 σ2)))) : p_L_law_236 nm d g K σ l3 := by
  refine x_aload_n dL_law_236 rfl ?_
  refine x_aload_n dL_law_237 rfl ?_
  refine x_iload_n dL_law_238 rfl ?_
  refine x_iconst (v := 1) dL_law_239 rfl ?_
  refine x_iadd dL_law_240 ?_
  obtain ⟨q1, h⟩ := h
  refine x_xld dL_law_241 h0 q1 ?_
  refine x_aload_n dL_law_242 rfl ?_
  refine x_iload_n dL_law_243 rfl ?_
  refine x_iconst (v := 2) dL_law_244 rfl ?_
  refine x_iadd dL_law_245 ?_
  obtain ⟨q2, h⟩ := h
  refine x_xld dL_law_246 h0 q2 ?_
  refine x_aload_n dL_law_247 rfl ?_
  refine x_iload_n dL_law_248 rfl ?_
  refine x_iconst (v := 3) dL_law_249 rfl ?_
  refine x_iadd dL_law_250 ?_
  obtain ⟨q3, h⟩ := h
  refine x_xld dL_law_251 h0 q3 ?_
  refine x_callV (Y2 := mX7_give) (as := [.int (σ 3000 ((l3 + 1 : Int32).toNatClampNeg)), .int (σ 3000 ((l3 + 2 : Int32).toNatClampNeg)), .int (σ 3000 ((l3 + 3 : Int32).toNatClampNeg))]) (S := []) (kc2 := 0) (ks2 := 0) mv_mX7_give (Or.inl ⟨7, _, rfl, rfl, (gA_0 hg)⟩) dL_law_252 lk_L_23 mo_mX7_give rfl rfl (Nat.le_of_ble_eq_true rfl) (Or.inl rfl) rfl rfl h ?_
  rintro _ _ σ1 ⟨v1, rfl, rfl, h⟩
  change zX _ _ 0 0 255 _ [.int v1] _ _ _
  refine x_aload_n dL_law_255 rfl ?_
  refine x_aload_n dL_law_256 rfl ?_
  refine x_iload_n dL_law_257 rfl ?_
  refine x_iconst (v := 1) dL_law_258 rfl ?_
  refine x_iadd dL_law_259 ?_
  obtain ⟨q4, h⟩ := h
  refine x_xld dL_law_260 h0 q4 ?_
  refine x_aload_n dL_law_261 rfl ?_
  refine x_iload_n dL_law_262 rfl ?_
  refine x_iconst (v := 2) dL_law_263 rfl ?_
  refine x_iadd dL_law_264 ?_
  obtain ⟨q5, h⟩ := h
  refine x_xld dL_law_265 h0 q5 ?_
  refine x_aload_n dL_law_266 rfl ?_
  refine x_iload_n dL_law_267 rfl ?_
  refine x_iconst (v := 3) dL_law_268 rfl ?_
  refine x_iadd dL_law_269 ?_
  obtain ⟨q6, h⟩ := h
  refine x_xld dL_law_270 h0 q6 ?_
  refine x_callV (Y2 := mX8_give) (as := [.int (σ1 3000 ((l3 + 1 : Int32).toNatClampNeg)), .int (σ1 3000 ((l3 + 2 : Int32).toNatClampNeg)), .int (σ1 3000 ((l3 + 3 : Int32).toNatClampNeg))]) (S := [.int v1]) (kc2 := 0) (ks2 := 0) mv_mX8_give (Or.inl ⟨8, _, rfl, rfl, (gA_57 hg)⟩) dL_law_271 lk_L_26 mo_mX8_give rfl rfl (Nat.le_of_ble_eq_true rfl) (Or.inl rfl) rfl rfl h ?_
  rintro _ _ σ2 ⟨v2, rfl, rfl, h⟩
  change zX _ _ 0 0 274 _ [.int v2, .int v1] _ _ _
  refine x_icmp_eq (tgt := 1175) dL_law_274 rfl (fun q7 => ?_) (fun q7 => ?_)
  · replace h := itT q7 h
    exact h
  · replace h := itF q7 h
    refine x_iconst (v := 0) dL_law_277 rfl ?_
    exact x_iret (S := []) dL_law_278 rfl rfl ⟨_, rfl, rfl, h⟩
set_option maxRecDepth 20000 in
theorem s_L_law_279 {nm : String} {d : Nat} {g : zG} {σ : zI} {K : Int32 → zI → Prop} (hg : zGA g) {n0 : Nat} (h0 : g.2.1 3000 = (9, 0, n0)) {l3 : Int32} (h : vp_in (l3 + 1) n0 ∧ vp_in (l3 + 2) n0 ∧ zCI mX7_told d [.ref 0, .int (σ 3000 ((l3 + 1 : Int32).toNatClampNeg)), .int (σ 3000 ((l3 + 2 : Int32).toNatClampNeg))] g σ (fun v1 σ1 => vp_in (l3 + 1) n0 ∧ vp_in (l3 + 2) n0 ∧ zCI mX8_told d [.ref 57, .int (σ1 3000 ((l3 + 1 : Int32).toNatClampNeg)), .int (σ1 3000 ((l3 + 2 : Int32).toNatClampNeg))] g σ1 (fun v2 σ2 => (if (v1 = v2 : Prop) then p_L_law_1175 nm d g K σ2 l3 else K 0 σ2)))) : p_L_law_279 nm d g K σ l3 := by
  refine x_aload_n dL_law_279 rfl ?_
  refine x_aload_n dL_law_280 rfl ?_
  refine x_iload_n dL_law_281 rfl ?_
  refine x_iconst (v := 1) dL_law_282 rfl ?_
  refine x_iadd dL_law_283 ?_
  obtain ⟨q1, h⟩ := h
  refine x_xld dL_law_284 h0 q1 ?_
  refine x_aload_n dL_law_285 rfl ?_
  refine x_iload_n dL_law_286 rfl ?_
  refine x_iconst (v := 2) dL_law_287 rfl ?_
  refine x_iadd dL_law_288 ?_
  obtain ⟨q2, h⟩ := h
  refine x_xld dL_law_289 h0 q2 ?_
  refine x_callV (Y2 := mX7_told) (as := [.int (σ 3000 ((l3 + 1 : Int32).toNatClampNeg)), .int (σ 3000 ((l3 + 2 : Int32).toNatClampNeg))]) (S := []) (kc2 := 0) (ks2 := 0) mv_mX7_told (Or.inl ⟨7, _, rfl, rfl, (gA_0 hg)⟩) dL_law_290 lk_L_27 mo_mX7_told rfl rfl (Nat.le_of_ble_eq_true rfl) (Or.inl rfl) rfl rfl h ?_
  rintro _ _ σ1 ⟨v1, rfl, rfl, h⟩
  change zX _ _ 0 0 293 _ [.int v1] _ _ _
  refine x_aload_n dL_law_293 rfl ?_
  refine x_aload_n dL_law_294 rfl ?_
  refine x_iload_n dL_law_295 rfl ?_
  refine x_iconst (v := 1) dL_law_296 rfl ?_
  refine x_iadd dL_law_297 ?_
  obtain ⟨q3, h⟩ := h
  refine x_xld dL_law_298 h0 q3 ?_
  refine x_aload_n dL_law_299 rfl ?_
  refine x_iload_n dL_law_300 rfl ?_
  refine x_iconst (v := 2) dL_law_301 rfl ?_
  refine x_iadd dL_law_302 ?_
  obtain ⟨q4, h⟩ := h
  refine x_xld dL_law_303 h0 q4 ?_
  refine x_callV (Y2 := mX8_told) (as := [.int (σ1 3000 ((l3 + 1 : Int32).toNatClampNeg)), .int (σ1 3000 ((l3 + 2 : Int32).toNatClampNeg))]) (S := [.int v1]) (kc2 := 0) (ks2 := 0) mv_mX8_told (Or.inl ⟨8, _, rfl, rfl, (gA_57 hg)⟩) dL_law_304 lk_L_30 mo_mX8_told rfl rfl (Nat.le_of_ble_eq_true rfl) (Or.inl rfl) rfl rfl h ?_
  rintro _ _ σ2 ⟨v2, rfl, rfl, h⟩
  change zX _ _ 0 0 307 _ [.int v2, .int v1] _ _ _
  refine x_icmp_eq (tgt := 1175) dL_law_307 rfl (fun q5 => ?_) (fun q5 => ?_)
  · replace h := itT q5 h
    exact h
  · replace h := itF q5 h
    refine x_iconst (v := 0) dL_law_310 rfl ?_
    exact x_iret (S := []) dL_law_311 rfl rfl ⟨_, rfl, rfl, h⟩
set_option maxRecDepth 20000 in
theorem s_L_law_312 {nm : String} {d : Nat} {g : zG} {σ : zI} {K : Int32 → zI → Prop} (hg : zGA g) {n0 : Nat} (h0 : g.2.1 3000 = (9, 0, n0)) {l3 : Int32} (h : vp_in (l3 + 1) n0 ∧ zCI mX7_feed d [.ref 0, .int (σ 3000 ((l3 + 1 : Int32).toNatClampNeg))] g σ (fun v1 σ1 => vp_in (l3 + 1) n0 ∧ zCI mX8_feed d [.ref 57, .int (σ1 3000 ((l3 + 1 : Int32).toNatClampNeg))] g σ1 (fun v2 σ2 => (if (v1 = v2 : Prop) then p_L_law_1175 nm d g K σ2 l3 else K 0 σ2)))) : p_L_law_312 nm d g K σ l3 := by
  refine x_aload_n dL_law_312 rfl ?_
  refine x_aload_n dL_law_313 rfl ?_
  refine x_iload_n dL_law_314 rfl ?_
  refine x_iconst (v := 1) dL_law_315 rfl ?_
  refine x_iadd dL_law_316 ?_
  obtain ⟨q1, h⟩ := h
  refine x_xld dL_law_317 h0 q1 ?_
  refine x_callV (Y2 := mX7_feed) (as := [.int (σ 3000 ((l3 + 1 : Int32).toNatClampNeg))]) (S := []) (kc2 := 0) (ks2 := 0) mv_mX7_feed (Or.inl ⟨7, _, rfl, rfl, (gA_0 hg)⟩) dL_law_318 lk_L_31 mo_mX7_feed rfl rfl (Nat.le_of_ble_eq_true rfl) (Or.inl rfl) rfl rfl h ?_
  rintro _ _ σ1 ⟨v1, rfl, rfl, h⟩
  change zX _ _ 0 0 321 _ [.int v1] _ _ _
  refine x_aload_n dL_law_321 rfl ?_
  refine x_aload_n dL_law_322 rfl ?_
  refine x_iload_n dL_law_323 rfl ?_
  refine x_iconst (v := 1) dL_law_324 rfl ?_
  refine x_iadd dL_law_325 ?_
  obtain ⟨q2, h⟩ := h
  refine x_xld dL_law_326 h0 q2 ?_
  refine x_callV (Y2 := mX8_feed) (as := [.int (σ1 3000 ((l3 + 1 : Int32).toNatClampNeg))]) (S := [.int v1]) (kc2 := 0) (ks2 := 0) mv_mX8_feed (Or.inl ⟨8, _, rfl, rfl, (gA_57 hg)⟩) dL_law_327 lk_L_35 mo_mX8_feed rfl rfl (Nat.le_of_ble_eq_true rfl) (Or.inl rfl) rfl rfl h ?_
  rintro _ _ σ2 ⟨v2, rfl, rfl, h⟩
  change zX _ _ 0 0 330 _ [.int v2, .int v1] _ _ _
  refine x_icmp_eq (tgt := 1175) dL_law_330 rfl (fun q3 => ?_) (fun q3 => ?_)
  · replace h := itT q3 h
    exact h
  · replace h := itF q3 h
    refine x_iconst (v := 0) dL_law_333 rfl ?_
    exact x_iret (S := []) dL_law_334 rfl rfl ⟨_, rfl, rfl, h⟩
set_option maxRecDepth 20000 in
theorem s_L_law_335 {nm : String} {d : Nat} {g : zG} {σ : zI} {K : Int32 → zI → Prop} (hg : zGA g) {n0 : Nat} (h0 : g.2.1 3000 = (9, 0, n0)) {l3 : Int32} (h : zCI mX7_text d [.ref 0] g σ (fun v1 σ1 => zCI mX8_text d [.ref 57] g σ1 (fun v2 σ2 => (if (v1 = v2 : Prop) then p_L_law_1175 nm d g K σ2 l3 else K 0 σ2)))) : p_L_law_335 nm d g K σ l3 := by
  refine x_aload_n dL_law_335 rfl ?_
  refine x_callV (Y2 := mX7_text) (as := []) (S := []) (kc2 := 0) (ks2 := 0) mv_mX7_text (Or.inl ⟨7, _, rfl, rfl, (gA_0 hg)⟩) dL_law_336 lk_L_36 mo_mX7_text rfl rfl (Nat.le_of_ble_eq_true rfl) (Or.inl rfl) rfl rfl h ?_
  rintro _ _ σ1 ⟨v1, rfl, rfl, h⟩
  change zX _ _ 0 0 339 _ [.int v1] _ _ _
  refine x_aload_n dL_law_339 rfl ?_
  refine x_callV (Y2 := mX8_text) (as := []) (S := [.int v1]) (kc2 := 0) (ks2 := 0) mv_mX8_text (Or.inl ⟨8, _, rfl, rfl, (gA_57 hg)⟩) dL_law_340 lk_L_40 mo_mX8_text rfl rfl (Nat.le_of_ble_eq_true rfl) (Or.inl rfl) rfl rfl h ?_
  rintro _ _ σ2 ⟨v2, rfl, rfl, h⟩
  change zX _ _ 0 0 343 _ [.int v2, .int v1] _ _ _
  refine x_icmp_eq (tgt := 1175) dL_law_343 rfl (fun q1 => ?_) (fun q1 => ?_)
  · replace h := itT q1 h
    exact h
  · replace h := itF q1 h
    refine x_iconst (v := 0) dL_law_346 rfl ?_
    exact x_iret (S := []) dL_law_347 rfl rfl ⟨_, rfl, rfl, h⟩
set_option maxRecDepth 20000 in
theorem s_L_law_348 {nm : String} {d : Nat} {g : zG} {σ : zI} {K : Int32 → zI → Prop} (hg : zGA g) {n0 : Nat} (h0 : g.2.1 3000 = (9, 0, n0)) {l3 : Int32} (h : vp_in (l3 + 1) n0 ∧ zCI mX7_force d [.ref 0, .int (σ 3000 ((l3 + 1 : Int32).toNatClampNeg))] g σ (fun v1 σ1 => vp_in (l3 + 1) n0 ∧ zCI mX8_force d [.ref 57, .int (σ1 3000 ((l3 + 1 : Int32).toNatClampNeg))] g σ1 (fun v2 σ2 => (if (v1 = v2 : Prop) then p_L_law_1175 nm d g K σ2 l3 else K 0 σ2)))) : p_L_law_348 nm d g K σ l3 := by
  refine x_aload_n dL_law_348 rfl ?_
  refine x_aload_n dL_law_349 rfl ?_
  refine x_iload_n dL_law_350 rfl ?_
  refine x_iconst (v := 1) dL_law_351 rfl ?_
  refine x_iadd dL_law_352 ?_
  obtain ⟨q1, h⟩ := h
  refine x_xld dL_law_353 h0 q1 ?_
  refine x_callV (Y2 := mX7_force) (as := [.int (σ 3000 ((l3 + 1 : Int32).toNatClampNeg))]) (S := []) (kc2 := 0) (ks2 := 0) mv_mX7_force (Or.inl ⟨7, _, rfl, rfl, (gA_0 hg)⟩) dL_law_354 lk_L_41 mo_mX7_force rfl rfl (Nat.le_of_ble_eq_true rfl) (Or.inl rfl) rfl rfl h ?_
  rintro _ _ σ1 ⟨v1, rfl, rfl, h⟩
  change zX _ _ 0 0 357 _ [.int v1] _ _ _
  refine x_aload_n dL_law_357 rfl ?_
  refine x_aload_n dL_law_358 rfl ?_
  refine x_iload_n dL_law_359 rfl ?_
  refine x_iconst (v := 1) dL_law_360 rfl ?_
  refine x_iadd dL_law_361 ?_
  obtain ⟨q2, h⟩ := h
  refine x_xld dL_law_362 h0 q2 ?_
  refine x_callV (Y2 := mX8_force) (as := [.int (σ1 3000 ((l3 + 1 : Int32).toNatClampNeg))]) (S := [.int v1]) (kc2 := 0) (ks2 := 0) mv_mX8_force (Or.inl ⟨8, _, rfl, rfl, (gA_57 hg)⟩) dL_law_363 lk_L_44 mo_mX8_force rfl rfl (Nat.le_of_ble_eq_true rfl) (Or.inl rfl) rfl rfl h ?_
  rintro _ _ σ2 ⟨v2, rfl, rfl, h⟩
  change zX _ _ 0 0 366 _ [.int v2, .int v1] _ _ _
  refine x_icmp_eq (tgt := 1175) dL_law_366 rfl (fun q3 => ?_) (fun q3 => ?_)
  · replace h := itT q3 h
    exact h
  · replace h := itF q3 h
    refine x_iconst (v := 0) dL_law_369 rfl ?_
    exact x_iret (S := []) dL_law_370 rfl rfl ⟨_, rfl, rfl, h⟩
set_option maxRecDepth 20000 in
theorem s_L_law_371 {nm : String} {d : Nat} {g : zG} {σ : zI} {K : Int32 → zI → Prop} (hg : zGA g) {n0 : Nat} (h0 : g.2.1 3000 = (9, 0, n0)) {l3 : Int32} (h : vp_in (l3 + 1) n0 ∧ vp_in (l3 + 2) n0 ∧ vp_in (l3 + 3) n0 ∧ zCI mX7_says d [.ref 0, .int (σ 3000 ((l3 + 1 : Int32).toNatClampNeg)), .int (σ 3000 ((l3 + 2 : Int32).toNatClampNeg)), .int (σ 3000 ((l3 + 3 : Int32).toNatClampNeg))] g σ (fun v1 σ1 => vp_in (l3 + 1) n0 ∧ vp_in (l3 + 2) n0 ∧ vp_in (l3 + 3) n0 ∧ zCI mX8_says d [.ref 57, .int (σ1 3000 ((l3 + 1 : Int32).toNatClampNeg)), .int (σ1 3000 ((l3 + 2 : Int32).toNatClampNeg)), .int (σ1 3000 ((l3 + 3 : Int32).toNatClampNeg))] g σ1 (fun v2 σ2 => (if (v1 = v2 : Prop) then p_L_law_1175 nm d g K σ2 l3 else K 0 σ2)))) : p_L_law_371 nm d g K σ l3 := by
  refine x_aload_n dL_law_371 rfl ?_
  refine x_aload_n dL_law_372 rfl ?_
  refine x_iload_n dL_law_373 rfl ?_
  refine x_iconst (v := 1) dL_law_374 rfl ?_
  refine x_iadd dL_law_375 ?_
  obtain ⟨q1, h⟩ := h
  refine x_xld dL_law_376 h0 q1 ?_
  refine x_aload_n dL_law_377 rfl ?_
  refine x_iload_n dL_law_378 rfl ?_
  refine x_iconst (v := 2) dL_law_379 rfl ?_
  refine x_iadd dL_law_380 ?_
  obtain ⟨q2, h⟩ := h
  refine x_xld dL_law_381 h0 q2 ?_
  refine x_aload_n dL_law_382 rfl ?_
  refine x_iload_n dL_law_383 rfl ?_
  refine x_iconst (v := 3) dL_law_384 rfl ?_
  refine x_iadd dL_law_385 ?_
  obtain ⟨q3, h⟩ := h
  refine x_xld dL_law_386 h0 q3 ?_
  refine x_callV (Y2 := mX7_says) (as := [.int (σ 3000 ((l3 + 1 : Int32).toNatClampNeg)), .int (σ 3000 ((l3 + 2 : Int32).toNatClampNeg)), .int (σ 3000 ((l3 + 3 : Int32).toNatClampNeg))]) (S := []) (kc2 := 0) (ks2 := 0) mv_mX7_says (Or.inl ⟨7, _, rfl, rfl, (gA_0 hg)⟩) dL_law_387 lk_L_45 mo_mX7_says rfl rfl (Nat.le_of_ble_eq_true rfl) (Or.inl rfl) rfl rfl h ?_
  rintro _ _ σ1 ⟨v1, rfl, rfl, h⟩
  change zX _ _ 0 0 390 _ [.int v1] _ _ _
  refine x_aload_n dL_law_390 rfl ?_
  refine x_aload_n dL_law_391 rfl ?_
  refine x_iload_n dL_law_392 rfl ?_
  refine x_iconst (v := 1) dL_law_393 rfl ?_
  refine x_iadd dL_law_394 ?_
  obtain ⟨q4, h⟩ := h
  refine x_xld dL_law_395 h0 q4 ?_
  refine x_aload_n dL_law_396 rfl ?_
  refine x_iload_n dL_law_397 rfl ?_
  refine x_iconst (v := 2) dL_law_398 rfl ?_
  refine x_iadd dL_law_399 ?_
  obtain ⟨q5, h⟩ := h
  refine x_xld dL_law_400 h0 q5 ?_
  refine x_aload_n dL_law_401 rfl ?_
  refine x_iload_n dL_law_402 rfl ?_
  refine x_iconst (v := 3) dL_law_403 rfl ?_
  refine x_iadd dL_law_404 ?_
  obtain ⟨q6, h⟩ := h
  refine x_xld dL_law_405 h0 q6 ?_
  refine x_callV (Y2 := mX8_says) (as := [.int (σ1 3000 ((l3 + 1 : Int32).toNatClampNeg)), .int (σ1 3000 ((l3 + 2 : Int32).toNatClampNeg)), .int (σ1 3000 ((l3 + 3 : Int32).toNatClampNeg))]) (S := [.int v1]) (kc2 := 0) (ks2 := 0) mv_mX8_says (Or.inl ⟨8, _, rfl, rfl, (gA_57 hg)⟩) dL_law_406 lk_L_48 mo_mX8_says rfl rfl (Nat.le_of_ble_eq_true rfl) (Or.inl rfl) rfl rfl h ?_
  rintro _ _ σ2 ⟨v2, rfl, rfl, h⟩
  change zX _ _ 0 0 409 _ [.int v2, .int v1] _ _ _
  refine x_icmp_eq (tgt := 1175) dL_law_409 rfl (fun q7 => ?_) (fun q7 => ?_)
  · replace h := itT q7 h
    exact h
  · replace h := itF q7 h
    refine x_iconst (v := 0) dL_law_412 rfl ?_
    exact x_iret (S := []) dL_law_413 rfl rfl ⟨_, rfl, rfl, h⟩
set_option maxRecDepth 20000 in
theorem s_L_law_414 {nm : String} {d : Nat} {g : zG} {σ : zI} {K : Int32 → zI → Prop} (hg : zGA g) {n0 : Nat} (h0 : g.2.1 3000 = (9, 0, n0)) {l3 : Int32} (h : vp_in (l3 + 1) n0 ∧ vp_in (l3 + 2) n0 ∧ zCI mX7_common d [.ref 0, .int (σ 3000 ((l3 + 1 : Int32).toNatClampNeg)), .int (σ 3000 ((l3 + 2 : Int32).toNatClampNeg))] g σ (fun v1 σ1 => vp_in (l3 + 1) n0 ∧ vp_in (l3 + 2) n0 ∧ zCI mX8_common d [.ref 57, .int (σ1 3000 ((l3 + 1 : Int32).toNatClampNeg)), .int (σ1 3000 ((l3 + 2 : Int32).toNatClampNeg))] g σ1 (fun v2 σ2 => (if (v1 = v2 : Prop) then p_L_law_1175 nm d g K σ2 l3 else K 0 σ2)))) : p_L_law_414 nm d g K σ l3 := by
  refine x_aload_n dL_law_414 rfl ?_
  refine x_aload_n dL_law_415 rfl ?_
  refine x_iload_n dL_law_416 rfl ?_
  refine x_iconst (v := 1) dL_law_417 rfl ?_
  refine x_iadd dL_law_418 ?_
  obtain ⟨q1, h⟩ := h
  refine x_xld dL_law_419 h0 q1 ?_
  refine x_aload_n dL_law_420 rfl ?_
  refine x_iload_n dL_law_421 rfl ?_
  refine x_iconst (v := 2) dL_law_422 rfl ?_
  refine x_iadd dL_law_423 ?_
  obtain ⟨q2, h⟩ := h
  refine x_xld dL_law_424 h0 q2 ?_
  refine x_callV (Y2 := mX7_common) (as := [.int (σ 3000 ((l3 + 1 : Int32).toNatClampNeg)), .int (σ 3000 ((l3 + 2 : Int32).toNatClampNeg))]) (S := []) (kc2 := 0) (ks2 := 0) mv_mX7_common (Or.inl ⟨7, _, rfl, rfl, (gA_0 hg)⟩) dL_law_425 lk_L_49 mo_mX7_common rfl rfl (Nat.le_of_ble_eq_true rfl) (Or.inl rfl) rfl rfl h ?_
  rintro _ _ σ1 ⟨v1, rfl, rfl, h⟩
  change zX _ _ 0 0 428 _ [.int v1] _ _ _
  refine x_aload_n dL_law_428 rfl ?_
  refine x_aload_n dL_law_429 rfl ?_
  refine x_iload_n dL_law_430 rfl ?_
  refine x_iconst (v := 1) dL_law_431 rfl ?_
  refine x_iadd dL_law_432 ?_
  obtain ⟨q3, h⟩ := h
  refine x_xld dL_law_433 h0 q3 ?_
  refine x_aload_n dL_law_434 rfl ?_
  refine x_iload_n dL_law_435 rfl ?_
  refine x_iconst (v := 2) dL_law_436 rfl ?_
  refine x_iadd dL_law_437 ?_
  obtain ⟨q4, h⟩ := h
  refine x_xld dL_law_438 h0 q4 ?_
  refine x_callV (Y2 := mX8_common) (as := [.int (σ1 3000 ((l3 + 1 : Int32).toNatClampNeg)), .int (σ1 3000 ((l3 + 2 : Int32).toNatClampNeg))]) (S := [.int v1]) (kc2 := 0) (ks2 := 0) mv_mX8_common (Or.inl ⟨8, _, rfl, rfl, (gA_57 hg)⟩) dL_law_439 lk_L_52 mo_mX8_common rfl rfl (Nat.le_of_ble_eq_true rfl) (Or.inl rfl) rfl rfl h ?_
  rintro _ _ σ2 ⟨v2, rfl, rfl, h⟩
  change zX _ _ 0 0 442 _ [.int v2, .int v1] _ _ _
  refine x_icmp_eq (tgt := 1175) dL_law_442 rfl (fun q5 => ?_) (fun q5 => ?_)
  · replace h := itT q5 h
    exact h
  · replace h := itF q5 h
    refine x_iconst (v := 0) dL_law_445 rfl ?_
    exact x_iret (S := []) dL_law_446 rfl rfl ⟨_, rfl, rfl, h⟩
set_option maxRecDepth 20000 in
theorem s_L_law_447 {nm : String} {d : Nat} {g : zG} {σ : zI} {K : Int32 → zI → Prop} (hg : zGA g) {n0 : Nat} (h0 : g.2.1 3000 = (9, 0, n0)) {l3 : Int32} (h : vp_in (l3 + 1) n0 ∧ vp_in (l3 + 2) n0 ∧ vp_in (l3 + 3) n0 ∧ vp_in (l3 + 4) n0 ∧ zCI mX7_pays d [.ref 0, .int (σ 3000 ((l3 + 1 : Int32).toNatClampNeg)), .int (σ 3000 ((l3 + 2 : Int32).toNatClampNeg)), .int (σ 3000 ((l3 + 3 : Int32).toNatClampNeg)), .int (σ 3000 ((l3 + 4 : Int32).toNatClampNeg))] g σ (fun v1 σ1 => vp_in (l3 + 1) n0 ∧ vp_in (l3 + 2) n0 ∧ vp_in (l3 + 3) n0 ∧ vp_in (l3 + 4) n0 ∧ zCI mX8_pays d [.ref 57, .int (σ1 3000 ((l3 + 1 : Int32).toNatClampNeg)), .int (σ1 3000 ((l3 + 2 : Int32).toNatClampNeg)), .int (σ1 3000 ((l3 + 3 : Int32).toNatClampNeg)), .int (σ1 3000 ((l3 + 4 : Int32).toNatClampNeg))] g σ1 (fun v2 σ2 => (if (v1 = v2 : Prop) then p_L_law_1175 nm d g K σ2 l3 else K 0 σ2)))) : p_L_law_447 nm d g K σ l3 := by
  refine x_aload_n dL_law_447 rfl ?_
  refine x_aload_n dL_law_448 rfl ?_
  refine x_iload_n dL_law_449 rfl ?_
  refine x_iconst (v := 1) dL_law_450 rfl ?_
  refine x_iadd dL_law_451 ?_
  obtain ⟨q1, h⟩ := h
  refine x_xld dL_law_452 h0 q1 ?_
  refine x_aload_n dL_law_453 rfl ?_
  refine x_iload_n dL_law_454 rfl ?_
  refine x_iconst (v := 2) dL_law_455 rfl ?_
  refine x_iadd dL_law_456 ?_
  obtain ⟨q2, h⟩ := h
  refine x_xld dL_law_457 h0 q2 ?_
  refine x_aload_n dL_law_458 rfl ?_
  refine x_iload_n dL_law_459 rfl ?_
  refine x_iconst (v := 3) dL_law_460 rfl ?_
  refine x_iadd dL_law_461 ?_
  obtain ⟨q3, h⟩ := h
  refine x_xld dL_law_462 h0 q3 ?_
  refine x_aload_n dL_law_463 rfl ?_
  refine x_iload_n dL_law_464 rfl ?_
  refine x_iconst (v := 4) dL_law_465 rfl ?_
  refine x_iadd dL_law_466 ?_
  obtain ⟨q4, h⟩ := h
  refine x_xld dL_law_467 h0 q4 ?_
  refine x_callV (Y2 := mX7_pays) (as := [.int (σ 3000 ((l3 + 1 : Int32).toNatClampNeg)), .int (σ 3000 ((l3 + 2 : Int32).toNatClampNeg)), .int (σ 3000 ((l3 + 3 : Int32).toNatClampNeg)), .int (σ 3000 ((l3 + 4 : Int32).toNatClampNeg))]) (S := []) (kc2 := 0) (ks2 := 0) mv_mX7_pays (Or.inl ⟨7, _, rfl, rfl, (gA_0 hg)⟩) dL_law_468 lk_L_53 mo_mX7_pays rfl rfl (Nat.le_of_ble_eq_true rfl) (Or.inl rfl) rfl rfl h ?_
  rintro _ _ σ1 ⟨v1, rfl, rfl, h⟩
  change zX _ _ 0 0 471 _ [.int v1] _ _ _
  refine x_aload_n dL_law_471 rfl ?_
  refine x_aload_n dL_law_472 rfl ?_
  refine x_iload_n dL_law_473 rfl ?_
  refine x_iconst (v := 1) dL_law_474 rfl ?_
  refine x_iadd dL_law_475 ?_
  obtain ⟨q5, h⟩ := h
  refine x_xld dL_law_476 h0 q5 ?_
  refine x_aload_n dL_law_477 rfl ?_
  refine x_iload_n dL_law_478 rfl ?_
  refine x_iconst (v := 2) dL_law_479 rfl ?_
  refine x_iadd dL_law_480 ?_
  obtain ⟨q6, h⟩ := h
  refine x_xld dL_law_481 h0 q6 ?_
  refine x_aload_n dL_law_482 rfl ?_
  refine x_iload_n dL_law_483 rfl ?_
  refine x_iconst (v := 3) dL_law_484 rfl ?_
  refine x_iadd dL_law_485 ?_
  obtain ⟨q7, h⟩ := h
  refine x_xld dL_law_486 h0 q7 ?_
  refine x_aload_n dL_law_487 rfl ?_
  refine x_iload_n dL_law_488 rfl ?_
  refine x_iconst (v := 4) dL_law_489 rfl ?_
  refine x_iadd dL_law_490 ?_
  obtain ⟨q8, h⟩ := h
  refine x_xld dL_law_491 h0 q8 ?_
  refine x_callV (Y2 := mX8_pays) (as := [.int (σ1 3000 ((l3 + 1 : Int32).toNatClampNeg)), .int (σ1 3000 ((l3 + 2 : Int32).toNatClampNeg)), .int (σ1 3000 ((l3 + 3 : Int32).toNatClampNeg)), .int (σ1 3000 ((l3 + 4 : Int32).toNatClampNeg))]) (S := [.int v1]) (kc2 := 0) (ks2 := 0) mv_mX8_pays (Or.inl ⟨8, _, rfl, rfl, (gA_57 hg)⟩) dL_law_492 lk_L_57 mo_mX8_pays rfl rfl (Nat.le_of_ble_eq_true rfl) (Or.inl rfl) rfl rfl h ?_
  rintro _ _ σ2 ⟨v2, rfl, rfl, h⟩
  change zX _ _ 0 0 495 _ [.int v2, .int v1] _ _ _
  refine x_icmp_eq (tgt := 1175) dL_law_495 rfl (fun q9 => ?_) (fun q9 => ?_)
  · replace h := itT q9 h
    exact h
  · replace h := itF q9 h
    refine x_iconst (v := 0) dL_law_498 rfl ?_
    exact x_iret (S := []) dL_law_499 rfl rfl ⟨_, rfl, rfl, h⟩
set_option maxRecDepth 20000 in
theorem s_L_law_500 {nm : String} {d : Nat} {g : zG} {σ : zI} {K : Int32 → zI → Prop} (hg : zGA g) {n0 : Nat} (h0 : g.2.1 3000 = (9, 0, n0)) {l3 : Int32} (h : vp_in (l3 + 1) n0 ∧ vp_in (l3 + 2) n0 ∧ vp_in (l3 + 3) n0 ∧ zCI mX7_barred d [.ref 0, .int (σ 3000 ((l3 + 1 : Int32).toNatClampNeg)), .int (σ 3000 ((l3 + 2 : Int32).toNatClampNeg)), .int (σ 3000 ((l3 + 3 : Int32).toNatClampNeg))] g σ (fun v1 σ1 => vp_in (l3 + 1) n0 ∧ vp_in (l3 + 2) n0 ∧ vp_in (l3 + 3) n0 ∧ zCI mX8_barred d [.ref 57, .int (σ1 3000 ((l3 + 1 : Int32).toNatClampNeg)), .int (σ1 3000 ((l3 + 2 : Int32).toNatClampNeg)), .int (σ1 3000 ((l3 + 3 : Int32).toNatClampNeg))] g σ1 (fun v2 σ2 => (if (v1 = v2 : Prop) then p_L_law_1175 nm d g K σ2 l3 else K 0 σ2)))) : p_L_law_500 nm d g K σ l3 := by
  refine x_aload_n dL_law_500 rfl ?_
  refine x_aload_n dL_law_501 rfl ?_
  refine x_iload_n dL_law_502 rfl ?_
  refine x_iconst (v := 1) dL_law_503 rfl ?_
  refine x_iadd dL_law_504 ?_
  obtain ⟨q1, h⟩ := h
  refine x_xld dL_law_505 h0 q1 ?_
  refine x_aload_n dL_law_506 rfl ?_
  refine x_iload_n dL_law_507 rfl ?_
  refine x_iconst (v := 2) dL_law_508 rfl ?_
  refine x_iadd dL_law_509 ?_
  obtain ⟨q2, h⟩ := h
  refine x_xld dL_law_510 h0 q2 ?_
  refine x_aload_n dL_law_511 rfl ?_
  refine x_iload_n dL_law_512 rfl ?_
  refine x_iconst (v := 3) dL_law_513 rfl ?_
  refine x_iadd dL_law_514 ?_
  obtain ⟨q3, h⟩ := h
  refine x_xld dL_law_515 h0 q3 ?_
  refine x_callV (Y2 := mX7_barred) (as := [.int (σ 3000 ((l3 + 1 : Int32).toNatClampNeg)), .int (σ 3000 ((l3 + 2 : Int32).toNatClampNeg)), .int (σ 3000 ((l3 + 3 : Int32).toNatClampNeg))]) (S := []) (kc2 := 0) (ks2 := 0) mv_mX7_barred (Or.inl ⟨7, _, rfl, rfl, (gA_0 hg)⟩) dL_law_516 lk_L_58 mo_mX7_barred rfl rfl (Nat.le_of_ble_eq_true rfl) (Or.inl rfl) rfl rfl h ?_
  rintro _ _ σ1 ⟨v1, rfl, rfl, h⟩
  change zX _ _ 0 0 519 _ [.int v1] _ _ _
  refine x_aload_n dL_law_519 rfl ?_
  refine x_aload_n dL_law_520 rfl ?_
  refine x_iload_n dL_law_521 rfl ?_
  refine x_iconst (v := 1) dL_law_522 rfl ?_
  refine x_iadd dL_law_523 ?_
  obtain ⟨q4, h⟩ := h
  refine x_xld dL_law_524 h0 q4 ?_
  refine x_aload_n dL_law_525 rfl ?_
  refine x_iload_n dL_law_526 rfl ?_
  refine x_iconst (v := 2) dL_law_527 rfl ?_
  refine x_iadd dL_law_528 ?_
  obtain ⟨q5, h⟩ := h
  refine x_xld dL_law_529 h0 q5 ?_
  refine x_aload_n dL_law_530 rfl ?_
  refine x_iload_n dL_law_531 rfl ?_
  refine x_iconst (v := 3) dL_law_532 rfl ?_
  refine x_iadd dL_law_533 ?_
  obtain ⟨q6, h⟩ := h
  refine x_xld dL_law_534 h0 q6 ?_
  refine x_callV (Y2 := mX8_barred) (as := [.int (σ1 3000 ((l3 + 1 : Int32).toNatClampNeg)), .int (σ1 3000 ((l3 + 2 : Int32).toNatClampNeg)), .int (σ1 3000 ((l3 + 3 : Int32).toNatClampNeg))]) (S := [.int v1]) (kc2 := 0) (ks2 := 0) mv_mX8_barred (Or.inl ⟨8, _, rfl, rfl, (gA_57 hg)⟩) dL_law_535 lk_L_61 mo_mX8_barred rfl rfl (Nat.le_of_ble_eq_true rfl) (Or.inl rfl) rfl rfl h ?_
  rintro _ _ σ2 ⟨v2, rfl, rfl, h⟩
  change zX _ _ 0 0 538 _ [.int v2, .int v1] _ _ _
  refine x_icmp_eq (tgt := 1175) dL_law_538 rfl (fun q7 => ?_) (fun q7 => ?_)
  · replace h := itT q7 h
    exact h
  · replace h := itF q7 h
    refine x_iconst (v := 0) dL_law_541 rfl ?_
    exact x_iret (S := []) dL_law_542 rfl rfl ⟨_, rfl, rfl, h⟩
set_option maxRecDepth 20000 in
theorem s_L_law_543 {nm : String} {d : Nat} {g : zG} {σ : zI} {K : Int32 → zI → Prop} (hg : zGA g) {n0 : Nat} (h0 : g.2.1 3000 = (9, 0, n0)) {l3 : Int32} (h : vp_in (l3 + 1) n0 ∧ zCI mX7_silent d [.ref 0, .int (σ 3000 ((l3 + 1 : Int32).toNatClampNeg))] g σ (fun v1 σ1 => vp_in (l3 + 1) n0 ∧ zCI mX8_silent d [.ref 57, .int (σ1 3000 ((l3 + 1 : Int32).toNatClampNeg))] g σ1 (fun v2 σ2 => (if (v1 = v2 : Prop) then p_L_law_1175 nm d g K σ2 l3 else K 0 σ2)))) : p_L_law_543 nm d g K σ l3 := by
  refine x_aload_n dL_law_543 rfl ?_
  refine x_aload_n dL_law_544 rfl ?_
  refine x_iload_n dL_law_545 rfl ?_
  refine x_iconst (v := 1) dL_law_546 rfl ?_
  refine x_iadd dL_law_547 ?_
  obtain ⟨q1, h⟩ := h
  refine x_xld dL_law_548 h0 q1 ?_
  refine x_callV (Y2 := mX7_silent) (as := [.int (σ 3000 ((l3 + 1 : Int32).toNatClampNeg))]) (S := []) (kc2 := 0) (ks2 := 0) mv_mX7_silent (Or.inl ⟨7, _, rfl, rfl, (gA_0 hg)⟩) dL_law_549 lk_L_62 mo_mX7_silent rfl rfl (Nat.le_of_ble_eq_true rfl) (Or.inl rfl) rfl rfl h ?_
  rintro _ _ σ1 ⟨v1, rfl, rfl, h⟩
  change zX _ _ 0 0 552 _ [.int v1] _ _ _
  refine x_aload_n dL_law_552 rfl ?_
  refine x_aload_n dL_law_553 rfl ?_
  refine x_iload_n dL_law_554 rfl ?_
  refine x_iconst (v := 1) dL_law_555 rfl ?_
  refine x_iadd dL_law_556 ?_
  obtain ⟨q2, h⟩ := h
  refine x_xld dL_law_557 h0 q2 ?_
  refine x_callV (Y2 := mX8_silent) (as := [.int (σ1 3000 ((l3 + 1 : Int32).toNatClampNeg))]) (S := [.int v1]) (kc2 := 0) (ks2 := 0) mv_mX8_silent (Or.inl ⟨8, _, rfl, rfl, (gA_57 hg)⟩) dL_law_558 lk_L_65 mo_mX8_silent rfl rfl (Nat.le_of_ble_eq_true rfl) (Or.inl rfl) rfl rfl h ?_
  rintro _ _ σ2 ⟨v2, rfl, rfl, h⟩
  change zX _ _ 0 0 561 _ [.int v2, .int v1] _ _ _
  refine x_icmp_eq (tgt := 1175) dL_law_561 rfl (fun q3 => ?_) (fun q3 => ?_)
  · replace h := itT q3 h
    exact h
  · replace h := itF q3 h
    refine x_iconst (v := 0) dL_law_564 rfl ?_
    exact x_iret (S := []) dL_law_565 rfl rfl ⟨_, rfl, rfl, h⟩
set_option maxRecDepth 20000 in
theorem s_L_law_566 {nm : String} {d : Nat} {g : zG} {σ : zI} {K : Int32 → zI → Prop} (hg : zGA g) {n0 : Nat} (h0 : g.2.1 3000 = (9, 0, n0)) {l3 : Int32} (h : vp_in (l3 + 1) n0 ∧ vp_in (l3 + 2) n0 ∧ zCI mX7_middle d [.ref 0, .int (σ 3000 ((l3 + 1 : Int32).toNatClampNeg)), .int (σ 3000 ((l3 + 2 : Int32).toNatClampNeg))] g σ (fun v1 σ1 => vp_in (l3 + 1) n0 ∧ vp_in (l3 + 2) n0 ∧ zCI mX8_middle d [.ref 57, .int (σ1 3000 ((l3 + 1 : Int32).toNatClampNeg)), .int (σ1 3000 ((l3 + 2 : Int32).toNatClampNeg))] g σ1 (fun v2 σ2 => (if (v1 = v2 : Prop) then p_L_law_1175 nm d g K σ2 l3 else K 0 σ2)))) : p_L_law_566 nm d g K σ l3 := by
  refine x_aload_n dL_law_566 rfl ?_
  refine x_aload_n dL_law_567 rfl ?_
  refine x_iload_n dL_law_568 rfl ?_
  refine x_iconst (v := 1) dL_law_569 rfl ?_
  refine x_iadd dL_law_570 ?_
  obtain ⟨q1, h⟩ := h
  refine x_xld dL_law_571 h0 q1 ?_
  refine x_aload_n dL_law_572 rfl ?_
  refine x_iload_n dL_law_573 rfl ?_
  refine x_iconst (v := 2) dL_law_574 rfl ?_
  refine x_iadd dL_law_575 ?_
  obtain ⟨q2, h⟩ := h
  refine x_xld dL_law_576 h0 q2 ?_
  refine x_callV (Y2 := mX7_middle) (as := [.int (σ 3000 ((l3 + 1 : Int32).toNatClampNeg)), .int (σ 3000 ((l3 + 2 : Int32).toNatClampNeg))]) (S := []) (kc2 := 0) (ks2 := 0) mv_mX7_middle (Or.inl ⟨7, _, rfl, rfl, (gA_0 hg)⟩) dL_law_577 lk_L_66 mo_mX7_middle rfl rfl (Nat.le_of_ble_eq_true rfl) (Or.inl rfl) rfl rfl h ?_
  rintro _ _ σ1 ⟨v1, rfl, rfl, h⟩
  change zX _ _ 0 0 580 _ [.int v1] _ _ _
  refine x_aload_n dL_law_580 rfl ?_
  refine x_aload_n dL_law_581 rfl ?_
  refine x_iload_n dL_law_582 rfl ?_
  refine x_iconst (v := 1) dL_law_583 rfl ?_
  refine x_iadd dL_law_584 ?_
  obtain ⟨q3, h⟩ := h
  refine x_xld dL_law_585 h0 q3 ?_
  refine x_aload_n dL_law_586 rfl ?_
  refine x_iload_n dL_law_587 rfl ?_
  refine x_iconst (v := 2) dL_law_588 rfl ?_
  refine x_iadd dL_law_589 ?_
  obtain ⟨q4, h⟩ := h
  refine x_xld dL_law_590 h0 q4 ?_
  refine x_callV (Y2 := mX8_middle) (as := [.int (σ1 3000 ((l3 + 1 : Int32).toNatClampNeg)), .int (σ1 3000 ((l3 + 2 : Int32).toNatClampNeg))]) (S := [.int v1]) (kc2 := 0) (ks2 := 0) mv_mX8_middle (Or.inl ⟨8, _, rfl, rfl, (gA_57 hg)⟩) dL_law_591 lk_L_69 mo_mX8_middle rfl rfl (Nat.le_of_ble_eq_true rfl) (Or.inl rfl) rfl rfl h ?_
  rintro _ _ σ2 ⟨v2, rfl, rfl, h⟩
  change zX _ _ 0 0 594 _ [.int v2, .int v1] _ _ _
  refine x_icmp_eq (tgt := 1175) dL_law_594 rfl (fun q5 => ?_) (fun q5 => ?_)
  · replace h := itT q5 h
    exact h
  · replace h := itF q5 h
    refine x_iconst (v := 0) dL_law_597 rfl ?_
    exact x_iret (S := []) dL_law_598 rfl rfl ⟨_, rfl, rfl, h⟩
set_option maxRecDepth 20000 in
theorem s_L_law_599 {nm : String} {d : Nat} {g : zG} {σ : zI} {K : Int32 → zI → Prop} (hg : zGA g) {n0 : Nat} (h0 : g.2.1 3000 = (9, 0, n0)) {l3 : Int32} (h : vp_in (l3 + 1) n0 ∧ vp_in (l3 + 2) n0 ∧ zCI mX7_leave d [.ref 0, .int (σ 3000 ((l3 + 1 : Int32).toNatClampNeg)), .int (σ 3000 ((l3 + 2 : Int32).toNatClampNeg))] g σ (fun v1 σ1 => vp_in (l3 + 1) n0 ∧ vp_in (l3 + 2) n0 ∧ zCI mX8_leave d [.ref 57, .int (σ1 3000 ((l3 + 1 : Int32).toNatClampNeg)), .int (σ1 3000 ((l3 + 2 : Int32).toNatClampNeg))] g σ1 (fun v2 σ2 => (if (v1 = v2 : Prop) then p_L_law_1175 nm d g K σ2 l3 else K 0 σ2)))) : p_L_law_599 nm d g K σ l3 := by
  refine x_aload_n dL_law_599 rfl ?_
  refine x_aload_n dL_law_600 rfl ?_
  refine x_iload_n dL_law_601 rfl ?_
  refine x_iconst (v := 1) dL_law_602 rfl ?_
  refine x_iadd dL_law_603 ?_
  obtain ⟨q1, h⟩ := h
  refine x_xld dL_law_604 h0 q1 ?_
  refine x_aload_n dL_law_605 rfl ?_
  refine x_iload_n dL_law_606 rfl ?_
  refine x_iconst (v := 2) dL_law_607 rfl ?_
  refine x_iadd dL_law_608 ?_
  obtain ⟨q2, h⟩ := h
  refine x_xld dL_law_609 h0 q2 ?_
  refine x_callV (Y2 := mX7_leave) (as := [.int (σ 3000 ((l3 + 1 : Int32).toNatClampNeg)), .int (σ 3000 ((l3 + 2 : Int32).toNatClampNeg))]) (S := []) (kc2 := 0) (ks2 := 0) mv_mX7_leave (Or.inl ⟨7, _, rfl, rfl, (gA_0 hg)⟩) dL_law_610 lk_L_70 mo_mX7_leave rfl rfl (Nat.le_of_ble_eq_true rfl) (Or.inl rfl) rfl rfl h ?_
  rintro _ _ σ1 ⟨v1, rfl, rfl, h⟩
  change zX _ _ 0 0 613 _ [.int v1] _ _ _
  refine x_aload_n dL_law_613 rfl ?_
  refine x_aload_n dL_law_614 rfl ?_
  refine x_iload_n dL_law_615 rfl ?_
  refine x_iconst (v := 1) dL_law_616 rfl ?_
  refine x_iadd dL_law_617 ?_
  obtain ⟨q3, h⟩ := h
  refine x_xld dL_law_618 h0 q3 ?_
  refine x_aload_n dL_law_619 rfl ?_
  refine x_iload_n dL_law_620 rfl ?_
  refine x_iconst (v := 2) dL_law_621 rfl ?_
  refine x_iadd dL_law_622 ?_
  obtain ⟨q4, h⟩ := h
  refine x_xld dL_law_623 h0 q4 ?_
  refine x_callV (Y2 := mX8_leave) (as := [.int (σ1 3000 ((l3 + 1 : Int32).toNatClampNeg)), .int (σ1 3000 ((l3 + 2 : Int32).toNatClampNeg))]) (S := [.int v1]) (kc2 := 0) (ks2 := 0) mv_mX8_leave (Or.inl ⟨8, _, rfl, rfl, (gA_57 hg)⟩) dL_law_624 lk_L_73 mo_mX8_leave rfl rfl (Nat.le_of_ble_eq_true rfl) (Or.inl rfl) rfl rfl h ?_
  rintro _ _ σ2 ⟨v2, rfl, rfl, h⟩
  change zX _ _ 0 0 627 _ [.int v2, .int v1] _ _ _
  refine x_icmp_eq (tgt := 1175) dL_law_627 rfl (fun q5 => ?_) (fun q5 => ?_)
  · replace h := itT q5 h
    exact h
  · replace h := itF q5 h
    refine x_iconst (v := 0) dL_law_630 rfl ?_
    exact x_iret (S := []) dL_law_631 rfl rfl ⟨_, rfl, rfl, h⟩
set_option maxRecDepth 20000 in
theorem s_L_law_632 {nm : String} {d : Nat} {g : zG} {σ : zI} {K : Int32 → zI → Prop} (hg : zGA g) {n0 : Nat} (h0 : g.2.1 3000 = (9, 0, n0)) {l3 : Int32} (h : vp_in (l3 + 1) n0 ∧ vp_in (l3 + 2) n0 ∧ vp_in (l3 + 3) n0 ∧ zCI mX7_buy d [.ref 0, .int (σ 3000 ((l3 + 1 : Int32).toNatClampNeg)), .int (σ 3000 ((l3 + 2 : Int32).toNatClampNeg)), .int (σ 3000 ((l3 + 3 : Int32).toNatClampNeg))] g σ (fun v1 σ1 => vp_in (l3 + 1) n0 ∧ vp_in (l3 + 2) n0 ∧ vp_in (l3 + 3) n0 ∧ zCI mX8_buy d [.ref 57, .int (σ1 3000 ((l3 + 1 : Int32).toNatClampNeg)), .int (σ1 3000 ((l3 + 2 : Int32).toNatClampNeg)), .int (σ1 3000 ((l3 + 3 : Int32).toNatClampNeg))] g σ1 (fun v2 σ2 => (if (v1 = v2 : Prop) then p_L_law_1175 nm d g K σ2 l3 else K 0 σ2)))) : p_L_law_632 nm d g K σ l3 := by
  refine x_aload_n dL_law_632 rfl ?_
  refine x_aload_n dL_law_633 rfl ?_
  refine x_iload_n dL_law_634 rfl ?_
  refine x_iconst (v := 1) dL_law_635 rfl ?_
  refine x_iadd dL_law_636 ?_
  obtain ⟨q1, h⟩ := h
  refine x_xld dL_law_637 h0 q1 ?_
  refine x_aload_n dL_law_638 rfl ?_
  refine x_iload_n dL_law_639 rfl ?_
  refine x_iconst (v := 2) dL_law_640 rfl ?_
  refine x_iadd dL_law_641 ?_
  obtain ⟨q2, h⟩ := h
  refine x_xld dL_law_642 h0 q2 ?_
  refine x_aload_n dL_law_643 rfl ?_
  refine x_iload_n dL_law_644 rfl ?_
  refine x_iconst (v := 3) dL_law_645 rfl ?_
  refine x_iadd dL_law_646 ?_
  obtain ⟨q3, h⟩ := h
  refine x_xld dL_law_647 h0 q3 ?_
  refine x_callV (Y2 := mX7_buy) (as := [.int (σ 3000 ((l3 + 1 : Int32).toNatClampNeg)), .int (σ 3000 ((l3 + 2 : Int32).toNatClampNeg)), .int (σ 3000 ((l3 + 3 : Int32).toNatClampNeg))]) (S := []) (kc2 := 0) (ks2 := 0) mv_mX7_buy (Or.inl ⟨7, _, rfl, rfl, (gA_0 hg)⟩) dL_law_648 lk_L_74 mo_mX7_buy rfl rfl (Nat.le_of_ble_eq_true rfl) (Or.inl rfl) rfl rfl h ?_
  rintro _ _ σ1 ⟨v1, rfl, rfl, h⟩
  change zX _ _ 0 0 651 _ [.int v1] _ _ _
  refine x_aload_n dL_law_651 rfl ?_
  refine x_aload_n dL_law_652 rfl ?_
  refine x_iload_n dL_law_653 rfl ?_
  refine x_iconst (v := 1) dL_law_654 rfl ?_
  refine x_iadd dL_law_655 ?_
  obtain ⟨q4, h⟩ := h
  refine x_xld dL_law_656 h0 q4 ?_
  refine x_aload_n dL_law_657 rfl ?_
  refine x_iload_n dL_law_658 rfl ?_
  refine x_iconst (v := 2) dL_law_659 rfl ?_
  refine x_iadd dL_law_660 ?_
  obtain ⟨q5, h⟩ := h
  refine x_xld dL_law_661 h0 q5 ?_
  refine x_aload_n dL_law_662 rfl ?_
  refine x_iload_n dL_law_663 rfl ?_
  refine x_iconst (v := 3) dL_law_664 rfl ?_
  refine x_iadd dL_law_665 ?_
  obtain ⟨q6, h⟩ := h
  refine x_xld dL_law_666 h0 q6 ?_
  refine x_callV (Y2 := mX8_buy) (as := [.int (σ1 3000 ((l3 + 1 : Int32).toNatClampNeg)), .int (σ1 3000 ((l3 + 2 : Int32).toNatClampNeg)), .int (σ1 3000 ((l3 + 3 : Int32).toNatClampNeg))]) (S := [.int v1]) (kc2 := 0) (ks2 := 0) mv_mX8_buy (Or.inl ⟨8, _, rfl, rfl, (gA_57 hg)⟩) dL_law_667 lk_L_77 mo_mX8_buy rfl rfl (Nat.le_of_ble_eq_true rfl) (Or.inl rfl) rfl rfl h ?_
  rintro _ _ σ2 ⟨v2, rfl, rfl, h⟩
  change zX _ _ 0 0 670 _ [.int v2, .int v1] _ _ _
  refine x_icmp_eq (tgt := 1175) dL_law_670 rfl (fun q7 => ?_) (fun q7 => ?_)
  · replace h := itT q7 h
    exact h
  · replace h := itF q7 h
    refine x_iconst (v := 0) dL_law_673 rfl ?_
    exact x_iret (S := []) dL_law_674 rfl rfl ⟨_, rfl, rfl, h⟩
set_option maxRecDepth 20000 in
theorem s_L_law_675 {nm : String} {d : Nat} {g : zG} {σ : zI} {K : Int32 → zI → Prop} (hg : zGA g) {n0 : Nat} (h0 : g.2.1 3000 = (9, 0, n0)) {l3 : Int32} (h : vp_in (l3 + 1) n0 ∧ vp_in (l3 + 2) n0 ∧ vp_in (l3 + 3) n0 ∧ zCI mX7_pawn d [.ref 0, .int (σ 3000 ((l3 + 1 : Int32).toNatClampNeg)), .int (σ 3000 ((l3 + 2 : Int32).toNatClampNeg)), .int (σ 3000 ((l3 + 3 : Int32).toNatClampNeg))] g σ (fun v1 σ1 => vp_in (l3 + 1) n0 ∧ vp_in (l3 + 2) n0 ∧ vp_in (l3 + 3) n0 ∧ zCI mX8_pawn d [.ref 57, .int (σ1 3000 ((l3 + 1 : Int32).toNatClampNeg)), .int (σ1 3000 ((l3 + 2 : Int32).toNatClampNeg)), .int (σ1 3000 ((l3 + 3 : Int32).toNatClampNeg))] g σ1 (fun v2 σ2 => (if (v1 = v2 : Prop) then p_L_law_1175 nm d g K σ2 l3 else K 0 σ2)))) : p_L_law_675 nm d g K σ l3 := by
  refine x_aload_n dL_law_675 rfl ?_
  refine x_aload_n dL_law_676 rfl ?_
  refine x_iload_n dL_law_677 rfl ?_
  refine x_iconst (v := 1) dL_law_678 rfl ?_
  refine x_iadd dL_law_679 ?_
  obtain ⟨q1, h⟩ := h
  refine x_xld dL_law_680 h0 q1 ?_
  refine x_aload_n dL_law_681 rfl ?_
  refine x_iload_n dL_law_682 rfl ?_
  refine x_iconst (v := 2) dL_law_683 rfl ?_
  refine x_iadd dL_law_684 ?_
  obtain ⟨q2, h⟩ := h
  refine x_xld dL_law_685 h0 q2 ?_
  refine x_aload_n dL_law_686 rfl ?_
  refine x_iload_n dL_law_687 rfl ?_
  refine x_iconst (v := 3) dL_law_688 rfl ?_
  refine x_iadd dL_law_689 ?_
  obtain ⟨q3, h⟩ := h
  refine x_xld dL_law_690 h0 q3 ?_
  refine x_callV (Y2 := mX7_pawn) (as := [.int (σ 3000 ((l3 + 1 : Int32).toNatClampNeg)), .int (σ 3000 ((l3 + 2 : Int32).toNatClampNeg)), .int (σ 3000 ((l3 + 3 : Int32).toNatClampNeg))]) (S := []) (kc2 := 0) (ks2 := 0) mv_mX7_pawn (Or.inl ⟨7, _, rfl, rfl, (gA_0 hg)⟩) dL_law_691 lk_L_78 mo_mX7_pawn rfl rfl (Nat.le_of_ble_eq_true rfl) (Or.inl rfl) rfl rfl h ?_
  rintro _ _ σ1 ⟨v1, rfl, rfl, h⟩
  change zX _ _ 0 0 694 _ [.int v1] _ _ _
  refine x_aload_n dL_law_694 rfl ?_
  refine x_aload_n dL_law_695 rfl ?_
  refine x_iload_n dL_law_696 rfl ?_
  refine x_iconst (v := 1) dL_law_697 rfl ?_
  refine x_iadd dL_law_698 ?_
  obtain ⟨q4, h⟩ := h
  refine x_xld dL_law_699 h0 q4 ?_
  refine x_aload_n dL_law_700 rfl ?_
  refine x_iload_n dL_law_701 rfl ?_
  refine x_iconst (v := 2) dL_law_702 rfl ?_
  refine x_iadd dL_law_703 ?_
  obtain ⟨q5, h⟩ := h
  refine x_xld dL_law_704 h0 q5 ?_
  refine x_aload_n dL_law_705 rfl ?_
  refine x_iload_n dL_law_706 rfl ?_
  refine x_iconst (v := 3) dL_law_707 rfl ?_
  refine x_iadd dL_law_708 ?_
  obtain ⟨q6, h⟩ := h
  refine x_xld dL_law_709 h0 q6 ?_
  refine x_callV (Y2 := mX8_pawn) (as := [.int (σ1 3000 ((l3 + 1 : Int32).toNatClampNeg)), .int (σ1 3000 ((l3 + 2 : Int32).toNatClampNeg)), .int (σ1 3000 ((l3 + 3 : Int32).toNatClampNeg))]) (S := [.int v1]) (kc2 := 0) (ks2 := 0) mv_mX8_pawn (Or.inl ⟨8, _, rfl, rfl, (gA_57 hg)⟩) dL_law_710 lk_L_81 mo_mX8_pawn rfl rfl (Nat.le_of_ble_eq_true rfl) (Or.inl rfl) rfl rfl h ?_
  rintro _ _ σ2 ⟨v2, rfl, rfl, h⟩
  change zX _ _ 0 0 713 _ [.int v2, .int v1] _ _ _
  refine x_icmp_eq (tgt := 1175) dL_law_713 rfl (fun q7 => ?_) (fun q7 => ?_)
  · replace h := itT q7 h
    exact h
  · replace h := itF q7 h
    refine x_iconst (v := 0) dL_law_716 rfl ?_
    exact x_iret (S := []) dL_law_717 rfl rfl ⟨_, rfl, rfl, h⟩
set_option maxRecDepth 20000 in
theorem s_L_law_718 {nm : String} {d : Nat} {g : zG} {σ : zI} {K : Int32 → zI → Prop} (hg : zGA g) {n0 : Nat} (h0 : g.2.1 3000 = (9, 0, n0)) {l3 : Int32} (h : vp_in (l3 + 1) n0 ∧ vp_in (l3 + 2) n0 ∧ vp_in (l3 + 3) n0 ∧ vp_in (l3 + 4) n0 ∧ zCI mX7_rows d [.ref 0, .int (σ 3000 ((l3 + 1 : Int32).toNatClampNeg)), .int (σ 3000 ((l3 + 2 : Int32).toNatClampNeg)), .int (σ 3000 ((l3 + 3 : Int32).toNatClampNeg)), .int (σ 3000 ((l3 + 4 : Int32).toNatClampNeg))] g σ (fun v1 σ1 => vp_in (l3 + 1) n0 ∧ vp_in (l3 + 2) n0 ∧ vp_in (l3 + 3) n0 ∧ vp_in (l3 + 4) n0 ∧ zCI mX8_rows d [.ref 57, .int (σ1 3000 ((l3 + 1 : Int32).toNatClampNeg)), .int (σ1 3000 ((l3 + 2 : Int32).toNatClampNeg)), .int (σ1 3000 ((l3 + 3 : Int32).toNatClampNeg)), .int (σ1 3000 ((l3 + 4 : Int32).toNatClampNeg))] g σ1 (fun v2 σ2 => (if (v1 = v2 : Prop) then p_L_law_1175 nm d g K σ2 l3 else K 0 σ2)))) : p_L_law_718 nm d g K σ l3 := by
  refine x_aload_n dL_law_718 rfl ?_
  refine x_aload_n dL_law_719 rfl ?_
  refine x_iload_n dL_law_720 rfl ?_
  refine x_iconst (v := 1) dL_law_721 rfl ?_
  refine x_iadd dL_law_722 ?_
  obtain ⟨q1, h⟩ := h
  refine x_xld dL_law_723 h0 q1 ?_
  refine x_aload_n dL_law_724 rfl ?_
  refine x_iload_n dL_law_725 rfl ?_
  refine x_iconst (v := 2) dL_law_726 rfl ?_
  refine x_iadd dL_law_727 ?_
  obtain ⟨q2, h⟩ := h
  refine x_xld dL_law_728 h0 q2 ?_
  refine x_aload_n dL_law_729 rfl ?_
  refine x_iload_n dL_law_730 rfl ?_
  refine x_iconst (v := 3) dL_law_731 rfl ?_
  refine x_iadd dL_law_732 ?_
  obtain ⟨q3, h⟩ := h
  refine x_xld dL_law_733 h0 q3 ?_
  refine x_aload_n dL_law_734 rfl ?_
  refine x_iload_n dL_law_735 rfl ?_
  refine x_iconst (v := 4) dL_law_736 rfl ?_
  refine x_iadd dL_law_737 ?_
  obtain ⟨q4, h⟩ := h
  refine x_xld dL_law_738 h0 q4 ?_
  refine x_callV (Y2 := mX7_rows) (as := [.int (σ 3000 ((l3 + 1 : Int32).toNatClampNeg)), .int (σ 3000 ((l3 + 2 : Int32).toNatClampNeg)), .int (σ 3000 ((l3 + 3 : Int32).toNatClampNeg)), .int (σ 3000 ((l3 + 4 : Int32).toNatClampNeg))]) (S := []) (kc2 := 0) (ks2 := 0) mv_mX7_rows (Or.inl ⟨7, _, rfl, rfl, (gA_0 hg)⟩) dL_law_739 lk_L_82 mo_mX7_rows rfl rfl (Nat.le_of_ble_eq_true rfl) (Or.inl rfl) rfl rfl h ?_
  rintro _ _ σ1 ⟨v1, rfl, rfl, h⟩
  change zX _ _ 0 0 742 _ [.int v1] _ _ _
  refine x_aload_n dL_law_742 rfl ?_
  refine x_aload_n dL_law_743 rfl ?_
  refine x_iload_n dL_law_744 rfl ?_
  refine x_iconst (v := 1) dL_law_745 rfl ?_
  refine x_iadd dL_law_746 ?_
  obtain ⟨q5, h⟩ := h
  refine x_xld dL_law_747 h0 q5 ?_
  refine x_aload_n dL_law_748 rfl ?_
  refine x_iload_n dL_law_749 rfl ?_
  refine x_iconst (v := 2) dL_law_750 rfl ?_
  refine x_iadd dL_law_751 ?_
  obtain ⟨q6, h⟩ := h
  refine x_xld dL_law_752 h0 q6 ?_
  refine x_aload_n dL_law_753 rfl ?_
  refine x_iload_n dL_law_754 rfl ?_
  refine x_iconst (v := 3) dL_law_755 rfl ?_
  refine x_iadd dL_law_756 ?_
  obtain ⟨q7, h⟩ := h
  refine x_xld dL_law_757 h0 q7 ?_
  refine x_aload_n dL_law_758 rfl ?_
  refine x_iload_n dL_law_759 rfl ?_
  refine x_iconst (v := 4) dL_law_760 rfl ?_
  refine x_iadd dL_law_761 ?_
  obtain ⟨q8, h⟩ := h
  refine x_xld dL_law_762 h0 q8 ?_
  refine x_callV (Y2 := mX8_rows) (as := [.int (σ1 3000 ((l3 + 1 : Int32).toNatClampNeg)), .int (σ1 3000 ((l3 + 2 : Int32).toNatClampNeg)), .int (σ1 3000 ((l3 + 3 : Int32).toNatClampNeg)), .int (σ1 3000 ((l3 + 4 : Int32).toNatClampNeg))]) (S := [.int v1]) (kc2 := 0) (ks2 := 0) mv_mX8_rows (Or.inl ⟨8, _, rfl, rfl, (gA_57 hg)⟩) dL_law_763 lk_L_85 mo_mX8_rows rfl rfl (Nat.le_of_ble_eq_true rfl) (Or.inl rfl) rfl rfl h ?_
  rintro _ _ σ2 ⟨v2, rfl, rfl, h⟩
  change zX _ _ 0 0 766 _ [.int v2, .int v1] _ _ _
  refine x_icmp_eq (tgt := 1175) dL_law_766 rfl (fun q9 => ?_) (fun q9 => ?_)
  · replace h := itT q9 h
    exact h
  · replace h := itF q9 h
    refine x_iconst (v := 0) dL_law_769 rfl ?_
    exact x_iret (S := []) dL_law_770 rfl rfl ⟨_, rfl, rfl, h⟩
set_option maxRecDepth 20000 in
theorem s_L_law_771 {nm : String} {d : Nat} {g : zG} {σ : zI} {K : Int32 → zI → Prop} (hg : zGA g) {n0 : Nat} (h0 : g.2.1 3000 = (9, 0, n0)) {l3 : Int32} (h : vp_in (l3 + 1) n0 ∧ vp_in (l3 + 2) n0 ∧ vp_in (l3 + 3) n0 ∧ vp_in (l3 + 4) n0 ∧ zCI mX7_film d [.ref 0, .int (σ 3000 ((l3 + 1 : Int32).toNatClampNeg)), .int (σ 3000 ((l3 + 2 : Int32).toNatClampNeg)), .int (σ 3000 ((l3 + 3 : Int32).toNatClampNeg)), .int (σ 3000 ((l3 + 4 : Int32).toNatClampNeg))] g σ (fun v1 σ1 => vp_in (l3 + 1) n0 ∧ vp_in (l3 + 2) n0 ∧ vp_in (l3 + 3) n0 ∧ vp_in (l3 + 4) n0 ∧ zCI mX8_film d [.ref 57, .int (σ1 3000 ((l3 + 1 : Int32).toNatClampNeg)), .int (σ1 3000 ((l3 + 2 : Int32).toNatClampNeg)), .int (σ1 3000 ((l3 + 3 : Int32).toNatClampNeg)), .int (σ1 3000 ((l3 + 4 : Int32).toNatClampNeg))] g σ1 (fun v2 σ2 => (if (v1 = v2 : Prop) then p_L_law_1175 nm d g K σ2 l3 else K 0 σ2)))) : p_L_law_771 nm d g K σ l3 := by
  refine x_aload_n dL_law_771 rfl ?_
  refine x_aload_n dL_law_772 rfl ?_
  refine x_iload_n dL_law_773 rfl ?_
  refine x_iconst (v := 1) dL_law_774 rfl ?_
  refine x_iadd dL_law_775 ?_
  obtain ⟨q1, h⟩ := h
  refine x_xld dL_law_776 h0 q1 ?_
  refine x_aload_n dL_law_777 rfl ?_
  refine x_iload_n dL_law_778 rfl ?_
  refine x_iconst (v := 2) dL_law_779 rfl ?_
  refine x_iadd dL_law_780 ?_
  obtain ⟨q2, h⟩ := h
  refine x_xld dL_law_781 h0 q2 ?_
  refine x_aload_n dL_law_782 rfl ?_
  refine x_iload_n dL_law_783 rfl ?_
  refine x_iconst (v := 3) dL_law_784 rfl ?_
  refine x_iadd dL_law_785 ?_
  obtain ⟨q3, h⟩ := h
  refine x_xld dL_law_786 h0 q3 ?_
  refine x_aload_n dL_law_787 rfl ?_
  refine x_iload_n dL_law_788 rfl ?_
  refine x_iconst (v := 4) dL_law_789 rfl ?_
  refine x_iadd dL_law_790 ?_
  obtain ⟨q4, h⟩ := h
  refine x_xld dL_law_791 h0 q4 ?_
  refine x_callV (Y2 := mX7_film) (as := [.int (σ 3000 ((l3 + 1 : Int32).toNatClampNeg)), .int (σ 3000 ((l3 + 2 : Int32).toNatClampNeg)), .int (σ 3000 ((l3 + 3 : Int32).toNatClampNeg)), .int (σ 3000 ((l3 + 4 : Int32).toNatClampNeg))]) (S := []) (kc2 := 0) (ks2 := 0) mv_mX7_film (Or.inl ⟨7, _, rfl, rfl, (gA_0 hg)⟩) dL_law_792 lk_L_86 mo_mX7_film rfl rfl (Nat.le_of_ble_eq_true rfl) (Or.inl rfl) rfl rfl h ?_
  rintro _ _ σ1 ⟨v1, rfl, rfl, h⟩
  change zX _ _ 0 0 795 _ [.int v1] _ _ _
  refine x_aload_n dL_law_795 rfl ?_
  refine x_aload_n dL_law_796 rfl ?_
  refine x_iload_n dL_law_797 rfl ?_
  refine x_iconst (v := 1) dL_law_798 rfl ?_
  refine x_iadd dL_law_799 ?_
  obtain ⟨q5, h⟩ := h
  refine x_xld dL_law_800 h0 q5 ?_
  refine x_aload_n dL_law_801 rfl ?_
  refine x_iload_n dL_law_802 rfl ?_
  refine x_iconst (v := 2) dL_law_803 rfl ?_
  refine x_iadd dL_law_804 ?_
  obtain ⟨q6, h⟩ := h
  refine x_xld dL_law_805 h0 q6 ?_
  refine x_aload_n dL_law_806 rfl ?_
  refine x_iload_n dL_law_807 rfl ?_
  refine x_iconst (v := 3) dL_law_808 rfl ?_
  refine x_iadd dL_law_809 ?_
  obtain ⟨q7, h⟩ := h
  refine x_xld dL_law_810 h0 q7 ?_
  refine x_aload_n dL_law_811 rfl ?_
  refine x_iload_n dL_law_812 rfl ?_
  refine x_iconst (v := 4) dL_law_813 rfl ?_
  refine x_iadd dL_law_814 ?_
  obtain ⟨q8, h⟩ := h
  refine x_xld dL_law_815 h0 q8 ?_
  refine x_callV (Y2 := mX8_film) (as := [.int (σ1 3000 ((l3 + 1 : Int32).toNatClampNeg)), .int (σ1 3000 ((l3 + 2 : Int32).toNatClampNeg)), .int (σ1 3000 ((l3 + 3 : Int32).toNatClampNeg)), .int (σ1 3000 ((l3 + 4 : Int32).toNatClampNeg))]) (S := [.int v1]) (kc2 := 0) (ks2 := 0) mv_mX8_film (Or.inl ⟨8, _, rfl, rfl, (gA_57 hg)⟩) dL_law_816 lk_L_89 mo_mX8_film rfl rfl (Nat.le_of_ble_eq_true rfl) (Or.inl rfl) rfl rfl h ?_
  rintro _ _ σ2 ⟨v2, rfl, rfl, h⟩
  change zX _ _ 0 0 819 _ [.int v2, .int v1] _ _ _
  refine x_icmp_eq (tgt := 1175) dL_law_819 rfl (fun q9 => ?_) (fun q9 => ?_)
  · replace h := itT q9 h
    exact h
  · replace h := itF q9 h
    refine x_iconst (v := 0) dL_law_822 rfl ?_
    exact x_iret (S := []) dL_law_823 rfl rfl ⟨_, rfl, rfl, h⟩
set_option maxRecDepth 20000 in
theorem s_L_law_824 {nm : String} {d : Nat} {g : zG} {σ : zI} {K : Int32 → zI → Prop} (hg : zGA g) {n0 : Nat} (h0 : g.2.1 3000 = (9, 0, n0)) {l3 : Int32} (h : vp_in (l3 + 1) n0 ∧ zCI mX7_drawn d [.ref 0, .int (σ 3000 ((l3 + 1 : Int32).toNatClampNeg))] g σ (fun v1 σ1 => vp_in (l3 + 1) n0 ∧ zCI mX8_drawn d [.ref 57, .int (σ1 3000 ((l3 + 1 : Int32).toNatClampNeg))] g σ1 (fun v2 σ2 => (if (v1 = v2 : Prop) then p_L_law_1175 nm d g K σ2 l3 else K 0 σ2)))) : p_L_law_824 nm d g K σ l3 := by
  refine x_aload_n dL_law_824 rfl ?_
  refine x_aload_n dL_law_825 rfl ?_
  refine x_iload_n dL_law_826 rfl ?_
  refine x_iconst (v := 1) dL_law_827 rfl ?_
  refine x_iadd dL_law_828 ?_
  obtain ⟨q1, h⟩ := h
  refine x_xld dL_law_829 h0 q1 ?_
  refine x_callV (Y2 := mX7_drawn) (as := [.int (σ 3000 ((l3 + 1 : Int32).toNatClampNeg))]) (S := []) (kc2 := 0) (ks2 := 0) mv_mX7_drawn (Or.inl ⟨7, _, rfl, rfl, (gA_0 hg)⟩) dL_law_830 lk_L_90 mo_mX7_drawn rfl rfl (Nat.le_of_ble_eq_true rfl) (Or.inl rfl) rfl rfl h ?_
  rintro _ _ σ1 ⟨v1, rfl, rfl, h⟩
  change zX _ _ 0 0 833 _ [.int v1] _ _ _
  refine x_aload_n dL_law_833 rfl ?_
  refine x_aload_n dL_law_834 rfl ?_
  refine x_iload_n dL_law_835 rfl ?_
  refine x_iconst (v := 1) dL_law_836 rfl ?_
  refine x_iadd dL_law_837 ?_
  obtain ⟨q2, h⟩ := h
  refine x_xld dL_law_838 h0 q2 ?_
  refine x_callV (Y2 := mX8_drawn) (as := [.int (σ1 3000 ((l3 + 1 : Int32).toNatClampNeg))]) (S := [.int v1]) (kc2 := 0) (ks2 := 0) mv_mX8_drawn (Or.inl ⟨8, _, rfl, rfl, (gA_57 hg)⟩) dL_law_839 lk_L_93 mo_mX8_drawn rfl rfl (Nat.le_of_ble_eq_true rfl) (Or.inl rfl) rfl rfl h ?_
  rintro _ _ σ2 ⟨v2, rfl, rfl, h⟩
  change zX _ _ 0 0 842 _ [.int v2, .int v1] _ _ _
  refine x_icmp_eq (tgt := 1175) dL_law_842 rfl (fun q3 => ?_) (fun q3 => ?_)
  · replace h := itT q3 h
    exact h
  · replace h := itF q3 h
    refine x_iconst (v := 0) dL_law_845 rfl ?_
    exact x_iret (S := []) dL_law_846 rfl rfl ⟨_, rfl, rfl, h⟩
set_option maxRecDepth 20000 in
theorem s_L_law_847 {nm : String} {d : Nat} {g : zG} {σ : zI} {K : Int32 → zI → Prop} (hg : zGA g) {n0 : Nat} (h0 : g.2.1 3000 = (9, 0, n0)) {l3 : Int32} (h : vp_in (l3 + 1) n0 ∧ vp_in (l3 + 2) n0 ∧ vp_in (l3 + 3) n0 ∧ zCL mX7_chance d [.ref 0, .int (σ 3000 ((l3 + 1 : Int32).toNatClampNeg)), .int (σ 3000 ((l3 + 2 : Int32).toNatClampNeg)), .int (σ 3000 ((l3 + 3 : Int32).toNatClampNeg))] g σ (fun v1 σ1 => vp_in (l3 + 1) n0 ∧ vp_in (l3 + 2) n0 ∧ vp_in (l3 + 3) n0 ∧ zCL mX8_chance d [.ref 57, .int (σ1 3000 ((l3 + 1 : Int32).toNatClampNeg)), .int (σ1 3000 ((l3 + 2 : Int32).toNatClampNeg)), .int (σ1 3000 ((l3 + 3 : Int32).toNatClampNeg))] g σ1 (fun v2 σ2 => (if ((lg_cmp v1 v2) = 0 : Prop) then p_L_law_1175 nm d g K σ2 l3 else K 0 σ2)))) : p_L_law_847 nm d g K σ l3 := by
  refine x_aload_n dL_law_847 rfl ?_
  refine x_aload_n dL_law_848 rfl ?_
  refine x_iload_n dL_law_849 rfl ?_
  refine x_iconst (v := 1) dL_law_850 rfl ?_
  refine x_iadd dL_law_851 ?_
  obtain ⟨q1, h⟩ := h
  refine x_xld dL_law_852 h0 q1 ?_
  refine x_aload_n dL_law_853 rfl ?_
  refine x_iload_n dL_law_854 rfl ?_
  refine x_iconst (v := 2) dL_law_855 rfl ?_
  refine x_iadd dL_law_856 ?_
  obtain ⟨q2, h⟩ := h
  refine x_xld dL_law_857 h0 q2 ?_
  refine x_aload_n dL_law_858 rfl ?_
  refine x_iload_n dL_law_859 rfl ?_
  refine x_iconst (v := 3) dL_law_860 rfl ?_
  refine x_iadd dL_law_861 ?_
  obtain ⟨q3, h⟩ := h
  refine x_xld dL_law_862 h0 q3 ?_
  refine x_callV (Y2 := mX7_chance) (as := [.int (σ 3000 ((l3 + 1 : Int32).toNatClampNeg)), .int (σ 3000 ((l3 + 2 : Int32).toNatClampNeg)), .int (σ 3000 ((l3 + 3 : Int32).toNatClampNeg))]) (S := []) (kc2 := 0) (ks2 := 0) mv_mX7_chance (Or.inl ⟨7, _, rfl, rfl, (gA_0 hg)⟩) dL_law_863 lk_L_94 mo_mX7_chance rfl rfl (Nat.le_of_ble_eq_true rfl) (Or.inl rfl) rfl rfl h ?_
  rintro _ _ σ1 ⟨v1, rfl, rfl, h⟩
  change zX _ _ 0 0 866 _ [.long v1] _ _ _
  refine x_aload_n dL_law_866 rfl ?_
  refine x_aload_n dL_law_867 rfl ?_
  refine x_iload_n dL_law_868 rfl ?_
  refine x_iconst (v := 1) dL_law_869 rfl ?_
  refine x_iadd dL_law_870 ?_
  obtain ⟨q4, h⟩ := h
  refine x_xld dL_law_871 h0 q4 ?_
  refine x_aload_n dL_law_872 rfl ?_
  refine x_iload_n dL_law_873 rfl ?_
  refine x_iconst (v := 2) dL_law_874 rfl ?_
  refine x_iadd dL_law_875 ?_
  obtain ⟨q5, h⟩ := h
  refine x_xld dL_law_876 h0 q5 ?_
  refine x_aload_n dL_law_877 rfl ?_
  refine x_iload_n dL_law_878 rfl ?_
  refine x_iconst (v := 3) dL_law_879 rfl ?_
  refine x_iadd dL_law_880 ?_
  obtain ⟨q6, h⟩ := h
  refine x_xld dL_law_881 h0 q6 ?_
  refine x_callV (Y2 := mX8_chance) (as := [.int (σ1 3000 ((l3 + 1 : Int32).toNatClampNeg)), .int (σ1 3000 ((l3 + 2 : Int32).toNatClampNeg)), .int (σ1 3000 ((l3 + 3 : Int32).toNatClampNeg))]) (S := [.long v1]) (kc2 := 0) (ks2 := 0) mv_mX8_chance (Or.inl ⟨8, _, rfl, rfl, (gA_57 hg)⟩) dL_law_882 lk_L_98 mo_mX8_chance rfl rfl (Nat.le_of_ble_eq_true rfl) (Or.inl rfl) rfl rfl h ?_
  rintro _ _ σ2 ⟨v2, rfl, rfl, h⟩
  change zX _ _ 0 0 885 _ [.long v2, .long v1] _ _ _
  refine x_lcmp dL_law_885 ?_
  refine x_if_eq (tgt := 1175) dL_law_886 rfl (fun q7 => ?_) (fun q7 => ?_)
  · replace h := itT q7 h
    exact h
  · replace h := itF q7 h
    refine x_iconst (v := 0) dL_law_889 rfl ?_
    exact x_iret (S := []) dL_law_890 rfl rfl ⟨_, rfl, rfl, h⟩
set_option maxRecDepth 20000 in
theorem s_L_law_891 {nm : String} {d : Nat} {g : zG} {σ : zI} {K : Int32 → zI → Prop} (hg : zGA g) {n0 : Nat} (h0 : g.2.1 3000 = (9, 0, n0)) {l3 : Int32} (h : zCI mX7_image d [.ref 0] g σ (fun v1 σ1 => zCI mX8_image d [.ref 57] g σ1 (fun v2 σ2 => (if (v1 = v2 : Prop) then p_L_law_1175 nm d g K σ2 l3 else K 0 σ2)))) : p_L_law_891 nm d g K σ l3 := by
  refine x_aload_n dL_law_891 rfl ?_
  refine x_callV (Y2 := mX7_image) (as := []) (S := []) (kc2 := 0) (ks2 := 0) mv_mX7_image (Or.inl ⟨7, _, rfl, rfl, (gA_0 hg)⟩) dL_law_892 lk_L_99 mo_mX7_image rfl rfl (Nat.le_of_ble_eq_true rfl) (Or.inl rfl) rfl rfl h ?_
  rintro _ _ σ1 ⟨v1, rfl, rfl, h⟩
  change zX _ _ 0 0 895 _ [.int v1] _ _ _
  refine x_aload_n dL_law_895 rfl ?_
  refine x_callV (Y2 := mX8_image) (as := []) (S := [.int v1]) (kc2 := 0) (ks2 := 0) mv_mX8_image (Or.inl ⟨8, _, rfl, rfl, (gA_57 hg)⟩) dL_law_896 lk_L_102 mo_mX8_image rfl rfl (Nat.le_of_ble_eq_true rfl) (Or.inl rfl) rfl rfl h ?_
  rintro _ _ σ2 ⟨v2, rfl, rfl, h⟩
  change zX _ _ 0 0 899 _ [.int v2, .int v1] _ _ _
  refine x_icmp_eq (tgt := 1175) dL_law_899 rfl (fun q1 => ?_) (fun q1 => ?_)
  · replace h := itT q1 h
    exact h
  · replace h := itF q1 h
    refine x_iconst (v := 0) dL_law_902 rfl ?_
    exact x_iret (S := []) dL_law_903 rfl rfl ⟨_, rfl, rfl, h⟩
set_option maxRecDepth 20000 in
theorem s_L_law_904 {nm : String} {d : Nat} {g : zG} {σ : zI} {K : Int32 → zI → Prop} (hg : zGA g) {n0 : Nat} (h0 : g.2.1 3000 = (9, 0, n0)) {l3 : Int32} (h : zCI mX7_back d [.ref 0] g σ (fun v1 σ1 => zCI mX8_back d [.ref 57] g σ1 (fun v2 σ2 => (if (v1 = v2 : Prop) then p_L_law_1175 nm d g K σ2 l3 else K 0 σ2)))) : p_L_law_904 nm d g K σ l3 := by
  refine x_aload_n dL_law_904 rfl ?_
  refine x_callV (Y2 := mX7_back) (as := []) (S := []) (kc2 := 0) (ks2 := 0) mv_mX7_back (Or.inl ⟨7, _, rfl, rfl, (gA_0 hg)⟩) dL_law_905 lk_L_103 mo_mX7_back rfl rfl (Nat.le_of_ble_eq_true rfl) (Or.inl rfl) rfl rfl h ?_
  rintro _ _ σ1 ⟨v1, rfl, rfl, h⟩
  change zX _ _ 0 0 908 _ [.int v1] _ _ _
  refine x_aload_n dL_law_908 rfl ?_
  refine x_callV (Y2 := mX8_back) (as := []) (S := [.int v1]) (kc2 := 0) (ks2 := 0) mv_mX8_back (Or.inl ⟨8, _, rfl, rfl, (gA_57 hg)⟩) dL_law_909 lk_L_106 mo_mX8_back rfl rfl (Nat.le_of_ble_eq_true rfl) (Or.inl rfl) rfl rfl h ?_
  rintro _ _ σ2 ⟨v2, rfl, rfl, h⟩
  change zX _ _ 0 0 912 _ [.int v2, .int v1] _ _ _
  refine x_icmp_eq (tgt := 1175) dL_law_912 rfl (fun q1 => ?_) (fun q1 => ?_)
  · replace h := itT q1 h
    exact h
  · replace h := itF q1 h
    refine x_iconst (v := 0) dL_law_915 rfl ?_
    exact x_iret (S := []) dL_law_916 rfl rfl ⟨_, rfl, rfl, h⟩
set_option maxRecDepth 20000 in
theorem s_L_law_917 {nm : String} {d : Nat} {g : zG} {σ : zI} {K : Int32 → zI → Prop} (hg : zGA g) {n0 : Nat} (h0 : g.2.1 3000 = (9, 0, n0)) {l3 : Int32} (h : vp_in (l3 + 1) n0 ∧ zCI mX7_count d [.ref 0, .int (σ 3000 ((l3 + 1 : Int32).toNatClampNeg))] g σ (fun v1 σ1 => vp_in (l3 + 1) n0 ∧ zCI mX8_count d [.ref 57, .int (σ1 3000 ((l3 + 1 : Int32).toNatClampNeg))] g σ1 (fun v2 σ2 => (if (v1 = v2 : Prop) then p_L_law_1175 nm d g K σ2 l3 else K 0 σ2)))) : p_L_law_917 nm d g K σ l3 := by
  refine x_aload_n dL_law_917 rfl ?_
  refine x_aload_n dL_law_918 rfl ?_
  refine x_iload_n dL_law_919 rfl ?_
  refine x_iconst (v := 1) dL_law_920 rfl ?_
  refine x_iadd dL_law_921 ?_
  obtain ⟨q1, h⟩ := h
  refine x_xld dL_law_922 h0 q1 ?_
  refine x_callV (Y2 := mX7_count) (as := [.int (σ 3000 ((l3 + 1 : Int32).toNatClampNeg))]) (S := []) (kc2 := 0) (ks2 := 0) mv_mX7_count (Or.inl ⟨7, _, rfl, rfl, (gA_0 hg)⟩) dL_law_923 lk_L_107 mo_mX7_count rfl rfl (Nat.le_of_ble_eq_true rfl) (Or.inl rfl) rfl rfl h ?_
  rintro _ _ σ1 ⟨v1, rfl, rfl, h⟩
  change zX _ _ 0 0 926 _ [.int v1] _ _ _
  refine x_aload_n dL_law_926 rfl ?_
  refine x_aload_n dL_law_927 rfl ?_
  refine x_iload_n dL_law_928 rfl ?_
  refine x_iconst (v := 1) dL_law_929 rfl ?_
  refine x_iadd dL_law_930 ?_
  obtain ⟨q2, h⟩ := h
  refine x_xld dL_law_931 h0 q2 ?_
  refine x_callV (Y2 := mX8_count) (as := [.int (σ1 3000 ((l3 + 1 : Int32).toNatClampNeg))]) (S := [.int v1]) (kc2 := 0) (ks2 := 0) mv_mX8_count (Or.inl ⟨8, _, rfl, rfl, (gA_57 hg)⟩) dL_law_932 lk_L_110 mo_mX8_count rfl rfl (Nat.le_of_ble_eq_true rfl) (Or.inl rfl) rfl rfl h ?_
  rintro _ _ σ2 ⟨v2, rfl, rfl, h⟩
  change zX _ _ 0 0 935 _ [.int v2, .int v1] _ _ _
  refine x_icmp_eq (tgt := 1175) dL_law_935 rfl (fun q3 => ?_) (fun q3 => ?_)
  · replace h := itT q3 h
    exact h
  · replace h := itF q3 h
    refine x_iconst (v := 0) dL_law_938 rfl ?_
    exact x_iret (S := []) dL_law_939 rfl rfl ⟨_, rfl, rfl, h⟩
set_option maxRecDepth 20000 in
theorem s_L_law_940 {nm : String} {d : Nat} {g : zG} {σ : zI} {K : Int32 → zI → Prop} (hg : zGA g) {n0 : Nat} (h0 : g.2.1 3000 = (9, 0, n0)) {l3 : Int32} (h : vp_in (l3 + 1) n0 ∧ vp_in (l3 + 2) n0 ∧ vp_in (l3 + 3) n0 ∧ zCI mX7_sheet d [.ref 0, .int (σ 3000 ((l3 + 1 : Int32).toNatClampNeg)), .int (σ 3000 ((l3 + 2 : Int32).toNatClampNeg)), .int (σ 3000 ((l3 + 3 : Int32).toNatClampNeg))] g σ (fun v1 σ1 => vp_in (l3 + 1) n0 ∧ vp_in (l3 + 2) n0 ∧ vp_in (l3 + 3) n0 ∧ zCI mX8_sheet d [.ref 57, .int (σ1 3000 ((l3 + 1 : Int32).toNatClampNeg)), .int (σ1 3000 ((l3 + 2 : Int32).toNatClampNeg)), .int (σ1 3000 ((l3 + 3 : Int32).toNatClampNeg))] g σ1 (fun v2 σ2 => (if (v1 = v2 : Prop) then p_L_law_1175 nm d g K σ2 l3 else K 0 σ2)))) : p_L_law_940 nm d g K σ l3 := by
  refine x_aload_n dL_law_940 rfl ?_
  refine x_aload_n dL_law_941 rfl ?_
  refine x_iload_n dL_law_942 rfl ?_
  refine x_iconst (v := 1) dL_law_943 rfl ?_
  refine x_iadd dL_law_944 ?_
  obtain ⟨q1, h⟩ := h
  refine x_xld dL_law_945 h0 q1 ?_
  refine x_aload_n dL_law_946 rfl ?_
  refine x_iload_n dL_law_947 rfl ?_
  refine x_iconst (v := 2) dL_law_948 rfl ?_
  refine x_iadd dL_law_949 ?_
  obtain ⟨q2, h⟩ := h
  refine x_xld dL_law_950 h0 q2 ?_
  refine x_aload_n dL_law_951 rfl ?_
  refine x_iload_n dL_law_952 rfl ?_
  refine x_iconst (v := 3) dL_law_953 rfl ?_
  refine x_iadd dL_law_954 ?_
  obtain ⟨q3, h⟩ := h
  refine x_xld dL_law_955 h0 q3 ?_
  refine x_callV (Y2 := mX7_sheet) (as := [.int (σ 3000 ((l3 + 1 : Int32).toNatClampNeg)), .int (σ 3000 ((l3 + 2 : Int32).toNatClampNeg)), .int (σ 3000 ((l3 + 3 : Int32).toNatClampNeg))]) (S := []) (kc2 := 0) (ks2 := 0) mv_mX7_sheet (Or.inl ⟨7, _, rfl, rfl, (gA_0 hg)⟩) dL_law_956 lk_L_111 mo_mX7_sheet rfl rfl (Nat.le_of_ble_eq_true rfl) (Or.inl rfl) rfl rfl h ?_
  rintro _ _ σ1 ⟨v1, rfl, rfl, h⟩
  change zX _ _ 0 0 959 _ [.int v1] _ _ _
  refine x_aload_n dL_law_959 rfl ?_
  refine x_aload_n dL_law_960 rfl ?_
  refine x_iload_n dL_law_961 rfl ?_
  refine x_iconst (v := 1) dL_law_962 rfl ?_
  refine x_iadd dL_law_963 ?_
  obtain ⟨q4, h⟩ := h
  refine x_xld dL_law_964 h0 q4 ?_
  refine x_aload_n dL_law_965 rfl ?_
  refine x_iload_n dL_law_966 rfl ?_
  refine x_iconst (v := 2) dL_law_967 rfl ?_
  refine x_iadd dL_law_968 ?_
  obtain ⟨q5, h⟩ := h
  refine x_xld dL_law_969 h0 q5 ?_
  refine x_aload_n dL_law_970 rfl ?_
  refine x_iload_n dL_law_971 rfl ?_
  refine x_iconst (v := 3) dL_law_972 rfl ?_
  refine x_iadd dL_law_973 ?_
  obtain ⟨q6, h⟩ := h
  refine x_xld dL_law_974 h0 q6 ?_
  refine x_callV (Y2 := mX8_sheet) (as := [.int (σ1 3000 ((l3 + 1 : Int32).toNatClampNeg)), .int (σ1 3000 ((l3 + 2 : Int32).toNatClampNeg)), .int (σ1 3000 ((l3 + 3 : Int32).toNatClampNeg))]) (S := [.int v1]) (kc2 := 0) (ks2 := 0) mv_mX8_sheet (Or.inl ⟨8, _, rfl, rfl, (gA_57 hg)⟩) dL_law_975 lk_L_114 mo_mX8_sheet rfl rfl (Nat.le_of_ble_eq_true rfl) (Or.inl rfl) rfl rfl h ?_
  rintro _ _ σ2 ⟨v2, rfl, rfl, h⟩
  change zX _ _ 0 0 978 _ [.int v2, .int v1] _ _ _
  refine x_icmp_eq (tgt := 1175) dL_law_978 rfl (fun q7 => ?_) (fun q7 => ?_)
  · replace h := itT q7 h
    exact h
  · replace h := itF q7 h
    refine x_iconst (v := 0) dL_law_981 rfl ?_
    exact x_iret (S := []) dL_law_982 rfl rfl ⟨_, rfl, rfl, h⟩
set_option maxRecDepth 20000 in
theorem s_L_law_983 {nm : String} {d : Nat} {g : zG} {σ : zI} {K : Int32 → zI → Prop} (hg : zGA g) {n0 : Nat} (h0 : g.2.1 3000 = (9, 0, n0)) {l3 : Int32} (h : vp_in (l3 + 1) n0 ∧ vp_in (l3 + 2) n0 ∧ vp_in (l3 + 3) n0 ∧ zCI mX7_cell d [.ref 0, .int (σ 3000 ((l3 + 1 : Int32).toNatClampNeg)), .int (σ 3000 ((l3 + 2 : Int32).toNatClampNeg)), .int (σ 3000 ((l3 + 3 : Int32).toNatClampNeg))] g σ (fun v1 σ1 => vp_in (l3 + 1) n0 ∧ vp_in (l3 + 2) n0 ∧ vp_in (l3 + 3) n0 ∧ zCI mX8_cell d [.ref 57, .int (σ1 3000 ((l3 + 1 : Int32).toNatClampNeg)), .int (σ1 3000 ((l3 + 2 : Int32).toNatClampNeg)), .int (σ1 3000 ((l3 + 3 : Int32).toNatClampNeg))] g σ1 (fun v2 σ2 => (if (v1 = v2 : Prop) then p_L_law_1175 nm d g K σ2 l3 else K 0 σ2)))) : p_L_law_983 nm d g K σ l3 := by
  refine x_aload_n dL_law_983 rfl ?_
  refine x_aload_n dL_law_984 rfl ?_
  refine x_iload_n dL_law_985 rfl ?_
  refine x_iconst (v := 1) dL_law_986 rfl ?_
  refine x_iadd dL_law_987 ?_
  obtain ⟨q1, h⟩ := h
  refine x_xld dL_law_988 h0 q1 ?_
  refine x_aload_n dL_law_989 rfl ?_
  refine x_iload_n dL_law_990 rfl ?_
  refine x_iconst (v := 2) dL_law_991 rfl ?_
  refine x_iadd dL_law_992 ?_
  obtain ⟨q2, h⟩ := h
  refine x_xld dL_law_993 h0 q2 ?_
  refine x_aload_n dL_law_994 rfl ?_
  refine x_iload_n dL_law_995 rfl ?_
  refine x_iconst (v := 3) dL_law_996 rfl ?_
  refine x_iadd dL_law_997 ?_
  obtain ⟨q3, h⟩ := h
  refine x_xld dL_law_998 h0 q3 ?_
  refine x_callV (Y2 := mX7_cell) (as := [.int (σ 3000 ((l3 + 1 : Int32).toNatClampNeg)), .int (σ 3000 ((l3 + 2 : Int32).toNatClampNeg)), .int (σ 3000 ((l3 + 3 : Int32).toNatClampNeg))]) (S := []) (kc2 := 0) (ks2 := 0) mv_mX7_cell (Or.inl ⟨7, _, rfl, rfl, (gA_0 hg)⟩) dL_law_999 lk_L_115 mo_mX7_cell rfl rfl (Nat.le_of_ble_eq_true rfl) (Or.inl rfl) rfl rfl h ?_
  rintro _ _ σ1 ⟨v1, rfl, rfl, h⟩
  change zX _ _ 0 0 1002 _ [.int v1] _ _ _
  refine x_aload_n dL_law_1002 rfl ?_
  refine x_aload_n dL_law_1003 rfl ?_
  refine x_iload_n dL_law_1004 rfl ?_
  refine x_iconst (v := 1) dL_law_1005 rfl ?_
  refine x_iadd dL_law_1006 ?_
  obtain ⟨q4, h⟩ := h
  refine x_xld dL_law_1007 h0 q4 ?_
  refine x_aload_n dL_law_1008 rfl ?_
  refine x_iload_n dL_law_1009 rfl ?_
  refine x_iconst (v := 2) dL_law_1010 rfl ?_
  refine x_iadd dL_law_1011 ?_
  obtain ⟨q5, h⟩ := h
  refine x_xld dL_law_1012 h0 q5 ?_
  refine x_aload_n dL_law_1013 rfl ?_
  refine x_iload_n dL_law_1014 rfl ?_
  refine x_iconst (v := 3) dL_law_1015 rfl ?_
  refine x_iadd dL_law_1016 ?_
  obtain ⟨q6, h⟩ := h
  refine x_xld dL_law_1017 h0 q6 ?_
  refine x_callV (Y2 := mX8_cell) (as := [.int (σ1 3000 ((l3 + 1 : Int32).toNatClampNeg)), .int (σ1 3000 ((l3 + 2 : Int32).toNatClampNeg)), .int (σ1 3000 ((l3 + 3 : Int32).toNatClampNeg))]) (S := [.int v1]) (kc2 := 0) (ks2 := 0) mv_mX8_cell (Or.inl ⟨8, _, rfl, rfl, (gA_57 hg)⟩) dL_law_1018 lk_L_118 mo_mX8_cell rfl rfl (Nat.le_of_ble_eq_true rfl) (Or.inl rfl) rfl rfl h ?_
  rintro _ _ σ2 ⟨v2, rfl, rfl, h⟩
  change zX _ _ 0 0 1021 _ [.int v2, .int v1] _ _ _
  refine x_icmp_eq (tgt := 1175) dL_law_1021 rfl (fun q7 => ?_) (fun q7 => ?_)
  · replace h := itT q7 h
    exact h
  · replace h := itF q7 h
    refine x_iconst (v := 0) dL_law_1024 rfl ?_
    exact x_iret (S := []) dL_law_1025 rfl rfl ⟨_, rfl, rfl, h⟩
set_option maxRecDepth 20000 in
theorem s_L_law_1026 {nm : String} {d : Nat} {g : zG} {σ : zI} {K : Int32 → zI → Prop} (hg : zGA g) {n0 : Nat} (h0 : g.2.1 3000 = (9, 0, n0)) {l3 : Int32} (h : vp_in (l3 + 1) n0 ∧ vp_in (l3 + 2) n0 ∧ vp_in (l3 + 3) n0 ∧ vp_in (l3 + 4) n0 ∧ vp_in (l3 + 5) n0 ∧ zCI mX7_copy d [.ref 0, .int (σ 3000 ((l3 + 1 : Int32).toNatClampNeg)), .int (σ 3000 ((l3 + 2 : Int32).toNatClampNeg)), .int (σ 3000 ((l3 + 3 : Int32).toNatClampNeg)), .int (σ 3000 ((l3 + 4 : Int32).toNatClampNeg)), .int (σ 3000 ((l3 + 5 : Int32).toNatClampNeg))] g σ (fun v1 σ1 => vp_in (l3 + 1) n0 ∧ vp_in (l3 + 2) n0 ∧ vp_in (l3 + 3) n0 ∧ vp_in (l3 + 4) n0 ∧ vp_in (l3 + 5) n0 ∧ zCI mX8_copy d [.ref 57, .int (σ1 3000 ((l3 + 1 : Int32).toNatClampNeg)), .int (σ1 3000 ((l3 + 2 : Int32).toNatClampNeg)), .int (σ1 3000 ((l3 + 3 : Int32).toNatClampNeg)), .int (σ1 3000 ((l3 + 4 : Int32).toNatClampNeg)), .int (σ1 3000 ((l3 + 5 : Int32).toNatClampNeg))] g σ1 (fun v2 σ2 => (if (v1 = v2 : Prop) then p_L_law_1175 nm d g K σ2 l3 else K 0 σ2)))) : p_L_law_1026 nm d g K σ l3 := by
  refine x_aload_n dL_law_1026 rfl ?_
  refine x_aload_n dL_law_1027 rfl ?_
  refine x_iload_n dL_law_1028 rfl ?_
  refine x_iconst (v := 1) dL_law_1029 rfl ?_
  refine x_iadd dL_law_1030 ?_
  obtain ⟨q1, h⟩ := h
  refine x_xld dL_law_1031 h0 q1 ?_
  refine x_aload_n dL_law_1032 rfl ?_
  refine x_iload_n dL_law_1033 rfl ?_
  refine x_iconst (v := 2) dL_law_1034 rfl ?_
  refine x_iadd dL_law_1035 ?_
  obtain ⟨q2, h⟩ := h
  refine x_xld dL_law_1036 h0 q2 ?_
  refine x_aload_n dL_law_1037 rfl ?_
  refine x_iload_n dL_law_1038 rfl ?_
  refine x_iconst (v := 3) dL_law_1039 rfl ?_
  refine x_iadd dL_law_1040 ?_
  obtain ⟨q3, h⟩ := h
  refine x_xld dL_law_1041 h0 q3 ?_
  refine x_aload_n dL_law_1042 rfl ?_
  refine x_iload_n dL_law_1043 rfl ?_
  refine x_iconst (v := 4) dL_law_1044 rfl ?_
  refine x_iadd dL_law_1045 ?_
  obtain ⟨q4, h⟩ := h
  refine x_xld dL_law_1046 h0 q4 ?_
  refine x_aload_n dL_law_1047 rfl ?_
  refine x_iload_n dL_law_1048 rfl ?_
  refine x_iconst (v := 5) dL_law_1049 rfl ?_
  refine x_iadd dL_law_1050 ?_
  obtain ⟨q5, h⟩ := h
  refine x_xld dL_law_1051 h0 q5 ?_
  refine x_callV (Y2 := mX7_copy) (as := [.int (σ 3000 ((l3 + 1 : Int32).toNatClampNeg)), .int (σ 3000 ((l3 + 2 : Int32).toNatClampNeg)), .int (σ 3000 ((l3 + 3 : Int32).toNatClampNeg)), .int (σ 3000 ((l3 + 4 : Int32).toNatClampNeg)), .int (σ 3000 ((l3 + 5 : Int32).toNatClampNeg))]) (S := []) (kc2 := 0) (ks2 := 0) mv_mX7_copy (Or.inl ⟨7, _, rfl, rfl, (gA_0 hg)⟩) dL_law_1052 lk_L_119 mo_mX7_copy rfl rfl (Nat.le_of_ble_eq_true rfl) (Or.inl rfl) rfl rfl h ?_
  rintro _ _ σ1 ⟨v1, rfl, rfl, h⟩
  change zX _ _ 0 0 1055 _ [.int v1] _ _ _
  refine x_aload_n dL_law_1055 rfl ?_
  refine x_aload_n dL_law_1056 rfl ?_
  refine x_iload_n dL_law_1057 rfl ?_
  refine x_iconst (v := 1) dL_law_1058 rfl ?_
  refine x_iadd dL_law_1059 ?_
  obtain ⟨q6, h⟩ := h
  refine x_xld dL_law_1060 h0 q6 ?_
  refine x_aload_n dL_law_1061 rfl ?_
  refine x_iload_n dL_law_1062 rfl ?_
  refine x_iconst (v := 2) dL_law_1063 rfl ?_
  refine x_iadd dL_law_1064 ?_
  obtain ⟨q7, h⟩ := h
  refine x_xld dL_law_1065 h0 q7 ?_
  refine x_aload_n dL_law_1066 rfl ?_
  refine x_iload_n dL_law_1067 rfl ?_
  refine x_iconst (v := 3) dL_law_1068 rfl ?_
  refine x_iadd dL_law_1069 ?_
  obtain ⟨q8, h⟩ := h
  refine x_xld dL_law_1070 h0 q8 ?_
  refine x_aload_n dL_law_1071 rfl ?_
  refine x_iload_n dL_law_1072 rfl ?_
  refine x_iconst (v := 4) dL_law_1073 rfl ?_
  refine x_iadd dL_law_1074 ?_
  obtain ⟨q9, h⟩ := h
  refine x_xld dL_law_1075 h0 q9 ?_
  refine x_aload_n dL_law_1076 rfl ?_
  refine x_iload_n dL_law_1077 rfl ?_
  refine x_iconst (v := 5) dL_law_1078 rfl ?_
  refine x_iadd dL_law_1079 ?_
  obtain ⟨q10, h⟩ := h
  refine x_xld dL_law_1080 h0 q10 ?_
  refine x_callV (Y2 := mX8_copy) (as := [.int (σ1 3000 ((l3 + 1 : Int32).toNatClampNeg)), .int (σ1 3000 ((l3 + 2 : Int32).toNatClampNeg)), .int (σ1 3000 ((l3 + 3 : Int32).toNatClampNeg)), .int (σ1 3000 ((l3 + 4 : Int32).toNatClampNeg)), .int (σ1 3000 ((l3 + 5 : Int32).toNatClampNeg))]) (S := [.int v1]) (kc2 := 0) (ks2 := 0) mv_mX8_copy (Or.inl ⟨8, _, rfl, rfl, (gA_57 hg)⟩) dL_law_1081 lk_L_123 mo_mX8_copy rfl rfl (Nat.le_of_ble_eq_true rfl) (Or.inl rfl) rfl rfl h ?_
  rintro _ _ σ2 ⟨v2, rfl, rfl, h⟩
  change zX _ _ 0 0 1084 _ [.int v2, .int v1] _ _ _
  refine x_icmp_eq (tgt := 1175) dL_law_1084 rfl (fun q11 => ?_) (fun q11 => ?_)
  · replace h := itT q11 h
    exact h
  · replace h := itF q11 h
    refine x_iconst (v := 0) dL_law_1087 rfl ?_
    exact x_iret (S := []) dL_law_1088 rfl rfl ⟨_, rfl, rfl, h⟩
set_option maxRecDepth 20000 in
theorem s_L_law_1089 {nm : String} {d : Nat} {g : zG} {σ : zI} {K : Int32 → zI → Prop} (hg : zGA g) {n0 : Nat} (h0 : g.2.1 3000 = (9, 0, n0)) {l3 : Int32} (h : vp_in (l3 + 1) n0 ∧ vp_in (l3 + 2) n0 ∧ vp_in (l3 + 3) n0 ∧ vp_in (l3 + 4) n0 ∧ zCI mX7_heirs d [.ref 0, .int (σ 3000 ((l3 + 1 : Int32).toNatClampNeg)), .int (σ 3000 ((l3 + 2 : Int32).toNatClampNeg)), .int (σ 3000 ((l3 + 3 : Int32).toNatClampNeg)), .int (σ 3000 ((l3 + 4 : Int32).toNatClampNeg))] g σ (fun v1 σ1 => vp_in (l3 + 1) n0 ∧ vp_in (l3 + 2) n0 ∧ vp_in (l3 + 3) n0 ∧ vp_in (l3 + 4) n0 ∧ zCI mX8_heirs d [.ref 57, .int (σ1 3000 ((l3 + 1 : Int32).toNatClampNeg)), .int (σ1 3000 ((l3 + 2 : Int32).toNatClampNeg)), .int (σ1 3000 ((l3 + 3 : Int32).toNatClampNeg)), .int (σ1 3000 ((l3 + 4 : Int32).toNatClampNeg))] g σ1 (fun v2 σ2 => (if (v1 = v2 : Prop) then p_L_law_1175 nm d g K σ2 l3 else K 0 σ2)))) : p_L_law_1089 nm d g K σ l3 := by
  refine x_aload_n dL_law_1089 rfl ?_
  refine x_aload_n dL_law_1090 rfl ?_
  refine x_iload_n dL_law_1091 rfl ?_
  refine x_iconst (v := 1) dL_law_1092 rfl ?_
  refine x_iadd dL_law_1093 ?_
  obtain ⟨q1, h⟩ := h
  refine x_xld dL_law_1094 h0 q1 ?_
  refine x_aload_n dL_law_1095 rfl ?_
  refine x_iload_n dL_law_1096 rfl ?_
  refine x_iconst (v := 2) dL_law_1097 rfl ?_
  refine x_iadd dL_law_1098 ?_
  obtain ⟨q2, h⟩ := h
  refine x_xld dL_law_1099 h0 q2 ?_
  refine x_aload_n dL_law_1100 rfl ?_
  refine x_iload_n dL_law_1101 rfl ?_
  refine x_iconst (v := 3) dL_law_1102 rfl ?_
  refine x_iadd dL_law_1103 ?_
  obtain ⟨q3, h⟩ := h
  refine x_xld dL_law_1104 h0 q3 ?_
  refine x_aload_n dL_law_1105 rfl ?_
  refine x_iload_n dL_law_1106 rfl ?_
  refine x_iconst (v := 4) dL_law_1107 rfl ?_
  refine x_iadd dL_law_1108 ?_
  obtain ⟨q4, h⟩ := h
  refine x_xld dL_law_1109 h0 q4 ?_
  refine x_callV (Y2 := mX7_heirs) (as := [.int (σ 3000 ((l3 + 1 : Int32).toNatClampNeg)), .int (σ 3000 ((l3 + 2 : Int32).toNatClampNeg)), .int (σ 3000 ((l3 + 3 : Int32).toNatClampNeg)), .int (σ 3000 ((l3 + 4 : Int32).toNatClampNeg))]) (S := []) (kc2 := 0) (ks2 := 0) mv_mX7_heirs (Or.inl ⟨7, _, rfl, rfl, (gA_0 hg)⟩) dL_law_1110 lk_L_124 mo_mX7_heirs rfl rfl (Nat.le_of_ble_eq_true rfl) (Or.inl rfl) rfl rfl h ?_
  rintro _ _ σ1 ⟨v1, rfl, rfl, h⟩
  change zX _ _ 0 0 1113 _ [.int v1] _ _ _
  refine x_aload_n dL_law_1113 rfl ?_
  refine x_aload_n dL_law_1114 rfl ?_
  refine x_iload_n dL_law_1115 rfl ?_
  refine x_iconst (v := 1) dL_law_1116 rfl ?_
  refine x_iadd dL_law_1117 ?_
  obtain ⟨q5, h⟩ := h
  refine x_xld dL_law_1118 h0 q5 ?_
  refine x_aload_n dL_law_1119 rfl ?_
  refine x_iload_n dL_law_1120 rfl ?_
  refine x_iconst (v := 2) dL_law_1121 rfl ?_
  refine x_iadd dL_law_1122 ?_
  obtain ⟨q6, h⟩ := h
  refine x_xld dL_law_1123 h0 q6 ?_
  refine x_aload_n dL_law_1124 rfl ?_
  refine x_iload_n dL_law_1125 rfl ?_
  refine x_iconst (v := 3) dL_law_1126 rfl ?_
  refine x_iadd dL_law_1127 ?_
  obtain ⟨q7, h⟩ := h
  refine x_xld dL_law_1128 h0 q7 ?_
  refine x_aload_n dL_law_1129 rfl ?_
  refine x_iload_n dL_law_1130 rfl ?_
  refine x_iconst (v := 4) dL_law_1131 rfl ?_
  refine x_iadd dL_law_1132 ?_
  obtain ⟨q8, h⟩ := h
  refine x_xld dL_law_1133 h0 q8 ?_
  refine x_callV (Y2 := mX8_heirs) (as := [.int (σ1 3000 ((l3 + 1 : Int32).toNatClampNeg)), .int (σ1 3000 ((l3 + 2 : Int32).toNatClampNeg)), .int (σ1 3000 ((l3 + 3 : Int32).toNatClampNeg)), .int (σ1 3000 ((l3 + 4 : Int32).toNatClampNeg))]) (S := [.int v1]) (kc2 := 0) (ks2 := 0) mv_mX8_heirs (Or.inl ⟨8, _, rfl, rfl, (gA_57 hg)⟩) dL_law_1134 lk_L_127 mo_mX8_heirs rfl rfl (Nat.le_of_ble_eq_true rfl) (Or.inl rfl) rfl rfl h ?_
  rintro _ _ σ2 ⟨v2, rfl, rfl, h⟩
  change zX _ _ 0 0 1137 _ [.int v2, .int v1] _ _ _
  refine x_icmp_eq (tgt := 1175) dL_law_1137 rfl (fun q9 => ?_) (fun q9 => ?_)
  · replace h := itT q9 h
    exact h
  · replace h := itF q9 h
    refine x_iconst (v := 0) dL_law_1140 rfl ?_
    exact x_iret (S := []) dL_law_1141 rfl rfl ⟨_, rfl, rfl, h⟩
set_option maxRecDepth 20000 in
theorem s_L_law_1142 {nm : String} {d : Nat} {g : zG} {σ : zI} {K : Int32 → zI → Prop} (hg : zGA g) {n0 : Nat} (h0 : g.2.1 3000 = (9, 0, n0)) {l3 : Int32} (h : vp_in (l3 + 1) n0 ∧ vp_in (l3 + 2) n0 ∧ zCI mX7_taken d [.ref 0, .int (σ 3000 ((l3 + 1 : Int32).toNatClampNeg)), .int (σ 3000 ((l3 + 2 : Int32).toNatClampNeg))] g σ (fun v1 σ1 => vp_in (l3 + 1) n0 ∧ vp_in (l3 + 2) n0 ∧ zCI mX8_taken d [.ref 57, .int (σ1 3000 ((l3 + 1 : Int32).toNatClampNeg)), .int (σ1 3000 ((l3 + 2 : Int32).toNatClampNeg))] g σ1 (fun v2 σ2 => (if (v1 = v2 : Prop) then p_L_law_1175 nm d g K σ2 l3 else K 0 σ2)))) : p_L_law_1142 nm d g K σ l3 := by
  refine x_aload_n dL_law_1142 rfl ?_
  refine x_aload_n dL_law_1143 rfl ?_
  refine x_iload_n dL_law_1144 rfl ?_
  refine x_iconst (v := 1) dL_law_1145 rfl ?_
  refine x_iadd dL_law_1146 ?_
  obtain ⟨q1, h⟩ := h
  refine x_xld dL_law_1147 h0 q1 ?_
  refine x_aload_n dL_law_1148 rfl ?_
  refine x_iload_n dL_law_1149 rfl ?_
  refine x_iconst (v := 2) dL_law_1150 rfl ?_
  refine x_iadd dL_law_1151 ?_
  obtain ⟨q2, h⟩ := h
  refine x_xld dL_law_1152 h0 q2 ?_
  refine x_callV (Y2 := mX7_taken) (as := [.int (σ 3000 ((l3 + 1 : Int32).toNatClampNeg)), .int (σ 3000 ((l3 + 2 : Int32).toNatClampNeg))]) (S := []) (kc2 := 0) (ks2 := 0) mv_mX7_taken (Or.inl ⟨7, _, rfl, rfl, (gA_0 hg)⟩) dL_law_1153 lk_L_128 mo_mX7_taken rfl rfl (Nat.le_of_ble_eq_true rfl) (Or.inl rfl) rfl rfl h ?_
  rintro _ _ σ1 ⟨v1, rfl, rfl, h⟩
  change zX _ _ 0 0 1156 _ [.int v1] _ _ _
  refine x_aload_n dL_law_1156 rfl ?_
  refine x_aload_n dL_law_1157 rfl ?_
  refine x_iload_n dL_law_1158 rfl ?_
  refine x_iconst (v := 1) dL_law_1159 rfl ?_
  refine x_iadd dL_law_1160 ?_
  obtain ⟨q3, h⟩ := h
  refine x_xld dL_law_1161 h0 q3 ?_
  refine x_aload_n dL_law_1162 rfl ?_
  refine x_iload_n dL_law_1163 rfl ?_
  refine x_iconst (v := 2) dL_law_1164 rfl ?_
  refine x_iadd dL_law_1165 ?_
  obtain ⟨q4, h⟩ := h
  refine x_xld dL_law_1166 h0 q4 ?_
  refine x_callV (Y2 := mX8_taken) (as := [.int (σ1 3000 ((l3 + 1 : Int32).toNatClampNeg)), .int (σ1 3000 ((l3 + 2 : Int32).toNatClampNeg))]) (S := [.int v1]) (kc2 := 0) (ks2 := 0) mv_mX8_taken (Or.inl ⟨8, _, rfl, rfl, (gA_57 hg)⟩) dL_law_1167 lk_L_131 mo_mX8_taken rfl rfl (Nat.le_of_ble_eq_true rfl) (Or.inl rfl) rfl rfl h ?_
  rintro _ _ σ2 ⟨v2, rfl, rfl, h⟩
  change zX _ _ 0 0 1170 _ [.int v2, .int v1] _ _ _
  refine x_icmp_eq (tgt := 1175) dL_law_1170 rfl (fun q5 => ?_) (fun q5 => ?_)
  · replace h := itT q5 h
    exact h
  · replace h := itF q5 h
    refine x_iconst (v := 0) dL_law_1173 rfl ?_
    exact x_iret (S := []) dL_law_1174 rfl rfl ⟨_, rfl, rfl, h⟩
set_option maxRecDepth 20000 in
theorem s_L_law_1175 {nm : String} {d : Nat} {g : zG} {σ : zI} {K : Int32 → zI → Prop} (hg : zGA g) {n0 : Nat} (h0 : g.2.1 3000 = (9, 0, n0)) {l3 : Int32} (h : p_L_law_18 nm d g K σ (l3 + 6)) : p_L_law_1175 nm d g K σ l3 := by
  refine x_iinc dL_law_1175 rfl (v := l3 + 6) rfl rfl (Nat.le_of_ble_eq_true rfl) (L2 := [_, _, _, _]) rfl ?_
  refine x_goto (tgt := 18) dL_law_1178 rfl ?_
  exact h
