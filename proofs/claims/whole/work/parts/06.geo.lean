def zSHL : List (Nat × Nat × Nat) := [(0, 7, 0), (3, 0, 6), (4, 0, 4), (0, 2, 0), (0, 4, 0), (1, 0, 160), (5, 0, 6), (1, 0, 160), (1, 0, 160), (1, 0, 160), (1, 0, 160), (1, 0, 160), (1, 0, 160), (5, 0, 6), (1, 0, 3), (1, 0, 3), (1, 0, 3), (1, 0, 3), (1, 0, 3), (1, 0, 3), (1, 0, 6), (1, 0, 64), (0, 3, 0), (1, 0, 30), (1, 0, 30), (1, 0, 100), (2, 0, 100), (2, 0, 100), (0, 6, 0), (5, 0, 6), (1, 0, 6), (1, 0, 6), (1, 0, 6), (1, 0, 6), (1, 0, 6), (1, 0, 6), (1, 0, 6), (1, 0, 6), (0, 1, 0), (1, 0, 6), (1, 0, 6), (0, 0, 0), (0, 0, 0), (0, 0, 0), (0, 0, 0), (0, 0, 0), (0, 0, 0), (0, 0, 0), (0, 0, 0), (0, 5, 0), (1, 0, 40), (0, 5, 0), (1, 0, 40), (0, 5, 0), (1, 0, 40), (0, 5, 0), (1, 0, 40), (0, 8, 0), (1, 0, 6), (1, 0, 6), (1, 0, 6), (1, 0, 160), (1, 0, 18), (1, 0, 18), (1, 0, 3000), (1, 0, 200), (1, 0, 200), (1, 0, 31), (1, 0, 100), (1, 0, 100), (2, 0, 100), (1, 0, 36), (1, 0, 6), (1, 0, 6), (1, 0, 14), (1, 0, 4), (1, 0, 4), (1, 0, 160), (1, 0, 6)]
def zRFL : List (List (Option Nat)) := [[some 1, some 2, some 3, some 22, some 28, some 38, some 41, some 42], [some 43, some 44, some 45, some 46, some 47, some 48], [some 49, some 51, some 53, some 55], [some 4, some 6, some 13, some 20, some 21], [some 5], [], [some 7, some 8, some 9, some 10, some 11, some 12], [], [], [], [], [], [], [some 14, some 15, some 16, some 17, some 18, some 19], [], [], [], [], [], [], [], [], [some 3, some 23, some 24, some 25, some 26, some 27], [], [], [], [], [], [some 22, some 29, some 36, some 37], [some 30, some 31, some 32, some 33, some 34, some 35], [], [], [], [], [], [], [], [], [none, none, none, some 39, some 40], [], [], [], [], [], [], [], [], [], [], [none, none, some 50], [], [none, none, some 52], [], [none, none, some 54], [], [none, none, some 56], [], [none, none, some 58, some 59, some 60, none, none, some 61, none, some 62, some 63, some 64, none, none, none, none, none, none, some 65, none, none, none, none, none, some 66, some 67, some 68, some 69, some 70, some 71, some 72, some 73, none, none, some 74, some 75, some 76, some 77, some 78], [], [], [], [], [], [], [], [], [], [], [], [], [], [], [], [], [], [], [], [], []]
def zSH (i : Nat) : Nat × Nat × Nat := zSHL.getD i (0, 0, 0)
def zRF (i k : Nat) : Option Nat := (zRFL.getD i []).getD k none
/-- the world's shape is as the constructors leave it, from lo to hi -/
def zGe (lo hi : Nat) (g : zG) : Prop := hi ≤ g.1 ∧ ∀ i, lo ≤ i → i < hi → g.2.1 i = zSH i ∧ ∀ k, k < 200 → g.2.2 i k = zRF i k
theorem zGe_sub {lo hi a b : Nat} {g : zG} (h : zGe lo hi g) (h1 : lo ≤ a) (h2 : b ≤ hi) : zGe a b g := ⟨Nat.le_trans h2 h.1, fun i x y => h.2 i (Nat.le_trans h1 x) (Nat.lt_of_lt_of_le y h2)⟩
def zGL (g : zG) : Prop := zGe 3 22 g
def zGA (g : zG) : Prop := zGe 0 79 g
theorem zGA.L {g : zG} (h : zGA g) : zGL g := zGe_sub h (by decide) (by decide)
theorem gL_3 {g : zG} (h : zGL g) : zOb g 3 2 := ⟨Nat.lt_of_lt_of_le (by decide) h.1, (h.2 3 (by decide) (by decide)).1⟩
theorem gL_3_0 {g : zG} (h : zGL g) : g.2.2 3 0 = some 4 := (h.2 3 (by decide) (by decide)).2 0 (by decide)
theorem gL_3_1 {g : zG} (h : zGL g) : g.2.2 3 1 = some 6 := (h.2 3 (by decide) (by decide)).2 1 (by decide)
theorem gL_3_2 {g : zG} (h : zGL g) : g.2.2 3 2 = some 13 := (h.2 3 (by decide) (by decide)).2 2 (by decide)
theorem gL_3_3 {g : zG} (h : zGL g) : g.2.2 3 3 = some 20 := (h.2 3 (by decide) (by decide)).2 3 (by decide)
theorem gL_3_4 {g : zG} (h : zGL g) : g.2.2 3 4 = some 21 := (h.2 3 (by decide) (by decide)).2 4 (by decide)
theorem gL_4 {g : zG} (h : zGL g) : zOb g 4 4 := ⟨Nat.lt_of_lt_of_le (by decide) h.1, (h.2 4 (by decide) (by decide)).1⟩
theorem gL_4_0 {g : zG} (h : zGL g) : g.2.2 4 0 = some 5 := (h.2 4 (by decide) (by decide)).2 0 (by decide)
theorem gL_5 {g : zG} (h : zGL g) : zAr g 5 1 160 := ⟨Nat.lt_of_lt_of_le (by decide) h.1, (h.2 5 (by decide) (by decide)).1⟩
theorem gL_6 {g : zG} (h : zGL g) : zAr g 6 5 6 := ⟨Nat.lt_of_lt_of_le (by decide) h.1, (h.2 6 (by decide) (by decide)).1⟩
theorem gL_7 {g : zG} (h : zGL g) : zAr g 7 1 160 := ⟨Nat.lt_of_lt_of_le (by decide) h.1, (h.2 7 (by decide) (by decide)).1⟩
theorem gL_8 {g : zG} (h : zGL g) : zAr g 8 1 160 := ⟨Nat.lt_of_lt_of_le (by decide) h.1, (h.2 8 (by decide) (by decide)).1⟩
theorem gL_9 {g : zG} (h : zGL g) : zAr g 9 1 160 := ⟨Nat.lt_of_lt_of_le (by decide) h.1, (h.2 9 (by decide) (by decide)).1⟩
theorem gL_10 {g : zG} (h : zGL g) : zAr g 10 1 160 := ⟨Nat.lt_of_lt_of_le (by decide) h.1, (h.2 10 (by decide) (by decide)).1⟩
theorem gL_11 {g : zG} (h : zGL g) : zAr g 11 1 160 := ⟨Nat.lt_of_lt_of_le (by decide) h.1, (h.2 11 (by decide) (by decide)).1⟩
theorem gL_12 {g : zG} (h : zGL g) : zAr g 12 1 160 := ⟨Nat.lt_of_lt_of_le (by decide) h.1, (h.2 12 (by decide) (by decide)).1⟩
theorem gL_13 {g : zG} (h : zGL g) : zAr g 13 5 6 := ⟨Nat.lt_of_lt_of_le (by decide) h.1, (h.2 13 (by decide) (by decide)).1⟩
theorem gL_14 {g : zG} (h : zGL g) : zAr g 14 1 3 := ⟨Nat.lt_of_lt_of_le (by decide) h.1, (h.2 14 (by decide) (by decide)).1⟩
theorem gL_15 {g : zG} (h : zGL g) : zAr g 15 1 3 := ⟨Nat.lt_of_lt_of_le (by decide) h.1, (h.2 15 (by decide) (by decide)).1⟩
theorem gL_16 {g : zG} (h : zGL g) : zAr g 16 1 3 := ⟨Nat.lt_of_lt_of_le (by decide) h.1, (h.2 16 (by decide) (by decide)).1⟩
theorem gL_17 {g : zG} (h : zGL g) : zAr g 17 1 3 := ⟨Nat.lt_of_lt_of_le (by decide) h.1, (h.2 17 (by decide) (by decide)).1⟩
theorem gL_18 {g : zG} (h : zGL g) : zAr g 18 1 3 := ⟨Nat.lt_of_lt_of_le (by decide) h.1, (h.2 18 (by decide) (by decide)).1⟩
theorem gL_19 {g : zG} (h : zGL g) : zAr g 19 1 3 := ⟨Nat.lt_of_lt_of_le (by decide) h.1, (h.2 19 (by decide) (by decide)).1⟩
theorem gL_20 {g : zG} (h : zGL g) : zAr g 20 1 6 := ⟨Nat.lt_of_lt_of_le (by decide) h.1, (h.2 20 (by decide) (by decide)).1⟩
theorem gL_21 {g : zG} (h : zGL g) : zAr g 21 1 64 := ⟨Nat.lt_of_lt_of_le (by decide) h.1, (h.2 21 (by decide) (by decide)).1⟩
theorem gA_0 {g : zG} (h : zGA g) : zOb g 0 7 := ⟨Nat.lt_of_lt_of_le (by decide) h.1, (h.2 0 (by decide) (by decide)).1⟩
theorem gA_0_0 {g : zG} (h : zGA g) : g.2.2 0 0 = some 1 := (h.2 0 (by decide) (by decide)).2 0 (by decide)
theorem gA_0_1 {g : zG} (h : zGA g) : g.2.2 0 1 = some 2 := (h.2 0 (by decide) (by decide)).2 1 (by decide)
theorem gA_0_2 {g : zG} (h : zGA g) : g.2.2 0 2 = some 3 := (h.2 0 (by decide) (by decide)).2 2 (by decide)
theorem gA_0_3 {g : zG} (h : zGA g) : g.2.2 0 3 = some 22 := (h.2 0 (by decide) (by decide)).2 3 (by decide)
theorem gA_0_4 {g : zG} (h : zGA g) : g.2.2 0 4 = some 28 := (h.2 0 (by decide) (by decide)).2 4 (by decide)
theorem gA_0_5 {g : zG} (h : zGA g) : g.2.2 0 5 = some 38 := (h.2 0 (by decide) (by decide)).2 5 (by decide)
theorem gA_0_6 {g : zG} (h : zGA g) : g.2.2 0 6 = some 41 := (h.2 0 (by decide) (by decide)).2 6 (by decide)
theorem gA_0_7 {g : zG} (h : zGA g) : g.2.2 0 7 = some 42 := (h.2 0 (by decide) (by decide)).2 7 (by decide)
theorem gA_1 {g : zG} (h : zGA g) : zAr g 1 3 6 := ⟨Nat.lt_of_lt_of_le (by decide) h.1, (h.2 1 (by decide) (by decide)).1⟩
theorem gA_2 {g : zG} (h : zGA g) : zAr g 2 4 4 := ⟨Nat.lt_of_lt_of_le (by decide) h.1, (h.2 2 (by decide) (by decide)).1⟩
theorem gA_3 {g : zG} (h : zGA g) : zOb g 3 2 := ⟨Nat.lt_of_lt_of_le (by decide) h.1, (h.2 3 (by decide) (by decide)).1⟩
theorem gA_3_0 {g : zG} (h : zGA g) : g.2.2 3 0 = some 4 := (h.2 3 (by decide) (by decide)).2 0 (by decide)
theorem gA_3_1 {g : zG} (h : zGA g) : g.2.2 3 1 = some 6 := (h.2 3 (by decide) (by decide)).2 1 (by decide)
theorem gA_3_2 {g : zG} (h : zGA g) : g.2.2 3 2 = some 13 := (h.2 3 (by decide) (by decide)).2 2 (by decide)
theorem gA_3_3 {g : zG} (h : zGA g) : g.2.2 3 3 = some 20 := (h.2 3 (by decide) (by decide)).2 3 (by decide)
theorem gA_3_4 {g : zG} (h : zGA g) : g.2.2 3 4 = some 21 := (h.2 3 (by decide) (by decide)).2 4 (by decide)
theorem gA_4 {g : zG} (h : zGA g) : zOb g 4 4 := ⟨Nat.lt_of_lt_of_le (by decide) h.1, (h.2 4 (by decide) (by decide)).1⟩
theorem gA_4_0 {g : zG} (h : zGA g) : g.2.2 4 0 = some 5 := (h.2 4 (by decide) (by decide)).2 0 (by decide)
theorem gA_5 {g : zG} (h : zGA g) : zAr g 5 1 160 := ⟨Nat.lt_of_lt_of_le (by decide) h.1, (h.2 5 (by decide) (by decide)).1⟩
theorem gA_6 {g : zG} (h : zGA g) : zAr g 6 5 6 := ⟨Nat.lt_of_lt_of_le (by decide) h.1, (h.2 6 (by decide) (by decide)).1⟩
theorem gA_7 {g : zG} (h : zGA g) : zAr g 7 1 160 := ⟨Nat.lt_of_lt_of_le (by decide) h.1, (h.2 7 (by decide) (by decide)).1⟩
theorem gA_8 {g : zG} (h : zGA g) : zAr g 8 1 160 := ⟨Nat.lt_of_lt_of_le (by decide) h.1, (h.2 8 (by decide) (by decide)).1⟩
theorem gA_9 {g : zG} (h : zGA g) : zAr g 9 1 160 := ⟨Nat.lt_of_lt_of_le (by decide) h.1, (h.2 9 (by decide) (by decide)).1⟩
theorem gA_10 {g : zG} (h : zGA g) : zAr g 10 1 160 := ⟨Nat.lt_of_lt_of_le (by decide) h.1, (h.2 10 (by decide) (by decide)).1⟩
theorem gA_11 {g : zG} (h : zGA g) : zAr g 11 1 160 := ⟨Nat.lt_of_lt_of_le (by decide) h.1, (h.2 11 (by decide) (by decide)).1⟩
theorem gA_12 {g : zG} (h : zGA g) : zAr g 12 1 160 := ⟨Nat.lt_of_lt_of_le (by decide) h.1, (h.2 12 (by decide) (by decide)).1⟩
theorem gA_13 {g : zG} (h : zGA g) : zAr g 13 5 6 := ⟨Nat.lt_of_lt_of_le (by decide) h.1, (h.2 13 (by decide) (by decide)).1⟩
theorem gA_14 {g : zG} (h : zGA g) : zAr g 14 1 3 := ⟨Nat.lt_of_lt_of_le (by decide) h.1, (h.2 14 (by decide) (by decide)).1⟩
theorem gA_15 {g : zG} (h : zGA g) : zAr g 15 1 3 := ⟨Nat.lt_of_lt_of_le (by decide) h.1, (h.2 15 (by decide) (by decide)).1⟩
theorem gA_16 {g : zG} (h : zGA g) : zAr g 16 1 3 := ⟨Nat.lt_of_lt_of_le (by decide) h.1, (h.2 16 (by decide) (by decide)).1⟩
theorem gA_17 {g : zG} (h : zGA g) : zAr g 17 1 3 := ⟨Nat.lt_of_lt_of_le (by decide) h.1, (h.2 17 (by decide) (by decide)).1⟩
theorem gA_18 {g : zG} (h : zGA g) : zAr g 18 1 3 := ⟨Nat.lt_of_lt_of_le (by decide) h.1, (h.2 18 (by decide) (by decide)).1⟩
theorem gA_19 {g : zG} (h : zGA g) : zAr g 19 1 3 := ⟨Nat.lt_of_lt_of_le (by decide) h.1, (h.2 19 (by decide) (by decide)).1⟩
theorem gA_20 {g : zG} (h : zGA g) : zAr g 20 1 6 := ⟨Nat.lt_of_lt_of_le (by decide) h.1, (h.2 20 (by decide) (by decide)).1⟩
theorem gA_21 {g : zG} (h : zGA g) : zAr g 21 1 64 := ⟨Nat.lt_of_lt_of_le (by decide) h.1, (h.2 21 (by decide) (by decide)).1⟩
theorem gA_22 {g : zG} (h : zGA g) : zOb g 22 3 := ⟨Nat.lt_of_lt_of_le (by decide) h.1, (h.2 22 (by decide) (by decide)).1⟩
theorem gA_22_1 {g : zG} (h : zGA g) : g.2.2 22 1 = some 23 := (h.2 22 (by decide) (by decide)).2 1 (by decide)
theorem gA_22_2 {g : zG} (h : zGA g) : g.2.2 22 2 = some 24 := (h.2 22 (by decide) (by decide)).2 2 (by decide)
theorem gA_22_3 {g : zG} (h : zGA g) : g.2.2 22 3 = some 25 := (h.2 22 (by decide) (by decide)).2 3 (by decide)
theorem gA_22_4 {g : zG} (h : zGA g) : g.2.2 22 4 = some 26 := (h.2 22 (by decide) (by decide)).2 4 (by decide)
theorem gA_22_5 {g : zG} (h : zGA g) : g.2.2 22 5 = some 27 := (h.2 22 (by decide) (by decide)).2 5 (by decide)
theorem gA_22_0 {g : zG} (h : zGA g) : g.2.2 22 0 = some 3 := (h.2 22 (by decide) (by decide)).2 0 (by decide)
theorem gA_23 {g : zG} (h : zGA g) : zAr g 23 1 30 := ⟨Nat.lt_of_lt_of_le (by decide) h.1, (h.2 23 (by decide) (by decide)).1⟩
theorem gA_24 {g : zG} (h : zGA g) : zAr g 24 1 30 := ⟨Nat.lt_of_lt_of_le (by decide) h.1, (h.2 24 (by decide) (by decide)).1⟩
theorem gA_25 {g : zG} (h : zGA g) : zAr g 25 1 100 := ⟨Nat.lt_of_lt_of_le (by decide) h.1, (h.2 25 (by decide) (by decide)).1⟩
theorem gA_26 {g : zG} (h : zGA g) : zAr g 26 2 100 := ⟨Nat.lt_of_lt_of_le (by decide) h.1, (h.2 26 (by decide) (by decide)).1⟩
theorem gA_27 {g : zG} (h : zGA g) : zAr g 27 2 100 := ⟨Nat.lt_of_lt_of_le (by decide) h.1, (h.2 27 (by decide) (by decide)).1⟩
theorem gA_28 {g : zG} (h : zGA g) : zOb g 28 6 := ⟨Nat.lt_of_lt_of_le (by decide) h.1, (h.2 28 (by decide) (by decide)).1⟩
theorem gA_28_1 {g : zG} (h : zGA g) : g.2.2 28 1 = some 29 := (h.2 28 (by decide) (by decide)).2 1 (by decide)
theorem gA_28_2 {g : zG} (h : zGA g) : g.2.2 28 2 = some 36 := (h.2 28 (by decide) (by decide)).2 2 (by decide)
theorem gA_28_3 {g : zG} (h : zGA g) : g.2.2 28 3 = some 37 := (h.2 28 (by decide) (by decide)).2 3 (by decide)
theorem gA_28_0 {g : zG} (h : zGA g) : g.2.2 28 0 = some 22 := (h.2 28 (by decide) (by decide)).2 0 (by decide)
theorem gA_29 {g : zG} (h : zGA g) : zAr g 29 5 6 := ⟨Nat.lt_of_lt_of_le (by decide) h.1, (h.2 29 (by decide) (by decide)).1⟩
theorem gA_30 {g : zG} (h : zGA g) : zAr g 30 1 6 := ⟨Nat.lt_of_lt_of_le (by decide) h.1, (h.2 30 (by decide) (by decide)).1⟩
theorem gA_31 {g : zG} (h : zGA g) : zAr g 31 1 6 := ⟨Nat.lt_of_lt_of_le (by decide) h.1, (h.2 31 (by decide) (by decide)).1⟩
theorem gA_32 {g : zG} (h : zGA g) : zAr g 32 1 6 := ⟨Nat.lt_of_lt_of_le (by decide) h.1, (h.2 32 (by decide) (by decide)).1⟩
theorem gA_33 {g : zG} (h : zGA g) : zAr g 33 1 6 := ⟨Nat.lt_of_lt_of_le (by decide) h.1, (h.2 33 (by decide) (by decide)).1⟩
theorem gA_34 {g : zG} (h : zGA g) : zAr g 34 1 6 := ⟨Nat.lt_of_lt_of_le (by decide) h.1, (h.2 34 (by decide) (by decide)).1⟩
theorem gA_35 {g : zG} (h : zGA g) : zAr g 35 1 6 := ⟨Nat.lt_of_lt_of_le (by decide) h.1, (h.2 35 (by decide) (by decide)).1⟩
theorem gA_36 {g : zG} (h : zGA g) : zAr g 36 1 6 := ⟨Nat.lt_of_lt_of_le (by decide) h.1, (h.2 36 (by decide) (by decide)).1⟩
theorem gA_37 {g : zG} (h : zGA g) : zAr g 37 1 6 := ⟨Nat.lt_of_lt_of_le (by decide) h.1, (h.2 37 (by decide) (by decide)).1⟩
theorem gA_38 {g : zG} (h : zGA g) : zOb g 38 1 := ⟨Nat.lt_of_lt_of_le (by decide) h.1, (h.2 38 (by decide) (by decide)).1⟩
theorem gA_38_3 {g : zG} (h : zGA g) : g.2.2 38 3 = some 39 := (h.2 38 (by decide) (by decide)).2 3 (by decide)
theorem gA_38_4 {g : zG} (h : zGA g) : g.2.2 38 4 = some 40 := (h.2 38 (by decide) (by decide)).2 4 (by decide)
theorem gA_39 {g : zG} (h : zGA g) : zAr g 39 1 6 := ⟨Nat.lt_of_lt_of_le (by decide) h.1, (h.2 39 (by decide) (by decide)).1⟩
theorem gA_40 {g : zG} (h : zGA g) : zAr g 40 1 6 := ⟨Nat.lt_of_lt_of_le (by decide) h.1, (h.2 40 (by decide) (by decide)).1⟩
theorem gA_41 {g : zG} (h : zGA g) : zOb g 41 0 := ⟨Nat.lt_of_lt_of_le (by decide) h.1, (h.2 41 (by decide) (by decide)).1⟩
theorem gA_42 {g : zG} (h : zGA g) : zOb g 42 0 := ⟨Nat.lt_of_lt_of_le (by decide) h.1, (h.2 42 (by decide) (by decide)).1⟩
theorem gA_43 {g : zG} (h : zGA g) : zOb g 43 0 := ⟨Nat.lt_of_lt_of_le (by decide) h.1, (h.2 43 (by decide) (by decide)).1⟩
theorem gA_44 {g : zG} (h : zGA g) : zOb g 44 0 := ⟨Nat.lt_of_lt_of_le (by decide) h.1, (h.2 44 (by decide) (by decide)).1⟩
theorem gA_45 {g : zG} (h : zGA g) : zOb g 45 0 := ⟨Nat.lt_of_lt_of_le (by decide) h.1, (h.2 45 (by decide) (by decide)).1⟩
theorem gA_46 {g : zG} (h : zGA g) : zOb g 46 0 := ⟨Nat.lt_of_lt_of_le (by decide) h.1, (h.2 46 (by decide) (by decide)).1⟩
theorem gA_47 {g : zG} (h : zGA g) : zOb g 47 0 := ⟨Nat.lt_of_lt_of_le (by decide) h.1, (h.2 47 (by decide) (by decide)).1⟩
theorem gA_48 {g : zG} (h : zGA g) : zOb g 48 0 := ⟨Nat.lt_of_lt_of_le (by decide) h.1, (h.2 48 (by decide) (by decide)).1⟩
theorem gA_49 {g : zG} (h : zGA g) : zOb g 49 5 := ⟨Nat.lt_of_lt_of_le (by decide) h.1, (h.2 49 (by decide) (by decide)).1⟩
theorem gA_49_2 {g : zG} (h : zGA g) : g.2.2 49 2 = some 50 := (h.2 49 (by decide) (by decide)).2 2 (by decide)
theorem gA_50 {g : zG} (h : zGA g) : zAr g 50 1 40 := ⟨Nat.lt_of_lt_of_le (by decide) h.1, (h.2 50 (by decide) (by decide)).1⟩
theorem gA_51 {g : zG} (h : zGA g) : zOb g 51 5 := ⟨Nat.lt_of_lt_of_le (by decide) h.1, (h.2 51 (by decide) (by decide)).1⟩
theorem gA_51_2 {g : zG} (h : zGA g) : g.2.2 51 2 = some 52 := (h.2 51 (by decide) (by decide)).2 2 (by decide)
theorem gA_52 {g : zG} (h : zGA g) : zAr g 52 1 40 := ⟨Nat.lt_of_lt_of_le (by decide) h.1, (h.2 52 (by decide) (by decide)).1⟩
theorem gA_53 {g : zG} (h : zGA g) : zOb g 53 5 := ⟨Nat.lt_of_lt_of_le (by decide) h.1, (h.2 53 (by decide) (by decide)).1⟩
theorem gA_53_2 {g : zG} (h : zGA g) : g.2.2 53 2 = some 54 := (h.2 53 (by decide) (by decide)).2 2 (by decide)
theorem gA_54 {g : zG} (h : zGA g) : zAr g 54 1 40 := ⟨Nat.lt_of_lt_of_le (by decide) h.1, (h.2 54 (by decide) (by decide)).1⟩
theorem gA_55 {g : zG} (h : zGA g) : zOb g 55 5 := ⟨Nat.lt_of_lt_of_le (by decide) h.1, (h.2 55 (by decide) (by decide)).1⟩
theorem gA_55_2 {g : zG} (h : zGA g) : g.2.2 55 2 = some 56 := (h.2 55 (by decide) (by decide)).2 2 (by decide)
theorem gA_56 {g : zG} (h : zGA g) : zAr g 56 1 40 := ⟨Nat.lt_of_lt_of_le (by decide) h.1, (h.2 56 (by decide) (by decide)).1⟩
theorem gA_57 {g : zG} (h : zGA g) : zOb g 57 8 := ⟨Nat.lt_of_lt_of_le (by decide) h.1, (h.2 57 (by decide) (by decide)).1⟩
theorem gA_57_2 {g : zG} (h : zGA g) : g.2.2 57 2 = some 58 := (h.2 57 (by decide) (by decide)).2 2 (by decide)
theorem gA_57_3 {g : zG} (h : zGA g) : g.2.2 57 3 = some 59 := (h.2 57 (by decide) (by decide)).2 3 (by decide)
theorem gA_57_4 {g : zG} (h : zGA g) : g.2.2 57 4 = some 60 := (h.2 57 (by decide) (by decide)).2 4 (by decide)
theorem gA_57_7 {g : zG} (h : zGA g) : g.2.2 57 7 = some 61 := (h.2 57 (by decide) (by decide)).2 7 (by decide)
theorem gA_57_9 {g : zG} (h : zGA g) : g.2.2 57 9 = some 62 := (h.2 57 (by decide) (by decide)).2 9 (by decide)
theorem gA_57_10 {g : zG} (h : zGA g) : g.2.2 57 10 = some 63 := (h.2 57 (by decide) (by decide)).2 10 (by decide)
theorem gA_57_11 {g : zG} (h : zGA g) : g.2.2 57 11 = some 64 := (h.2 57 (by decide) (by decide)).2 11 (by decide)
theorem gA_57_18 {g : zG} (h : zGA g) : g.2.2 57 18 = some 65 := (h.2 57 (by decide) (by decide)).2 18 (by decide)
theorem gA_57_24 {g : zG} (h : zGA g) : g.2.2 57 24 = some 66 := (h.2 57 (by decide) (by decide)).2 24 (by decide)
theorem gA_57_25 {g : zG} (h : zGA g) : g.2.2 57 25 = some 67 := (h.2 57 (by decide) (by decide)).2 25 (by decide)
theorem gA_57_26 {g : zG} (h : zGA g) : g.2.2 57 26 = some 68 := (h.2 57 (by decide) (by decide)).2 26 (by decide)
theorem gA_57_27 {g : zG} (h : zGA g) : g.2.2 57 27 = some 69 := (h.2 57 (by decide) (by decide)).2 27 (by decide)
theorem gA_57_28 {g : zG} (h : zGA g) : g.2.2 57 28 = some 70 := (h.2 57 (by decide) (by decide)).2 28 (by decide)
theorem gA_57_29 {g : zG} (h : zGA g) : g.2.2 57 29 = some 71 := (h.2 57 (by decide) (by decide)).2 29 (by decide)
theorem gA_57_30 {g : zG} (h : zGA g) : g.2.2 57 30 = some 72 := (h.2 57 (by decide) (by decide)).2 30 (by decide)
theorem gA_57_31 {g : zG} (h : zGA g) : g.2.2 57 31 = some 73 := (h.2 57 (by decide) (by decide)).2 31 (by decide)
theorem gA_57_34 {g : zG} (h : zGA g) : g.2.2 57 34 = some 74 := (h.2 57 (by decide) (by decide)).2 34 (by decide)
theorem gA_57_35 {g : zG} (h : zGA g) : g.2.2 57 35 = some 75 := (h.2 57 (by decide) (by decide)).2 35 (by decide)
theorem gA_57_36 {g : zG} (h : zGA g) : g.2.2 57 36 = some 76 := (h.2 57 (by decide) (by decide)).2 36 (by decide)
theorem gA_57_37 {g : zG} (h : zGA g) : g.2.2 57 37 = some 77 := (h.2 57 (by decide) (by decide)).2 37 (by decide)
theorem gA_57_38 {g : zG} (h : zGA g) : g.2.2 57 38 = some 78 := (h.2 57 (by decide) (by decide)).2 38 (by decide)
theorem gA_58 {g : zG} (h : zGA g) : zAr g 58 1 6 := ⟨Nat.lt_of_lt_of_le (by decide) h.1, (h.2 58 (by decide) (by decide)).1⟩
theorem gA_59 {g : zG} (h : zGA g) : zAr g 59 1 6 := ⟨Nat.lt_of_lt_of_le (by decide) h.1, (h.2 59 (by decide) (by decide)).1⟩
theorem gA_60 {g : zG} (h : zGA g) : zAr g 60 1 6 := ⟨Nat.lt_of_lt_of_le (by decide) h.1, (h.2 60 (by decide) (by decide)).1⟩
theorem gA_61 {g : zG} (h : zGA g) : zAr g 61 1 160 := ⟨Nat.lt_of_lt_of_le (by decide) h.1, (h.2 61 (by decide) (by decide)).1⟩
theorem gA_62 {g : zG} (h : zGA g) : zAr g 62 1 18 := ⟨Nat.lt_of_lt_of_le (by decide) h.1, (h.2 62 (by decide) (by decide)).1⟩
theorem gA_63 {g : zG} (h : zGA g) : zAr g 63 1 18 := ⟨Nat.lt_of_lt_of_le (by decide) h.1, (h.2 63 (by decide) (by decide)).1⟩
theorem gA_64 {g : zG} (h : zGA g) : zAr g 64 1 3000 := ⟨Nat.lt_of_lt_of_le (by decide) h.1, (h.2 64 (by decide) (by decide)).1⟩
theorem gA_65 {g : zG} (h : zGA g) : zAr g 65 1 200 := ⟨Nat.lt_of_lt_of_le (by decide) h.1, (h.2 65 (by decide) (by decide)).1⟩
theorem gA_66 {g : zG} (h : zGA g) : zAr g 66 1 200 := ⟨Nat.lt_of_lt_of_le (by decide) h.1, (h.2 66 (by decide) (by decide)).1⟩
theorem gA_67 {g : zG} (h : zGA g) : zAr g 67 1 31 := ⟨Nat.lt_of_lt_of_le (by decide) h.1, (h.2 67 (by decide) (by decide)).1⟩
theorem gA_68 {g : zG} (h : zGA g) : zAr g 68 1 100 := ⟨Nat.lt_of_lt_of_le (by decide) h.1, (h.2 68 (by decide) (by decide)).1⟩
theorem gA_69 {g : zG} (h : zGA g) : zAr g 69 1 100 := ⟨Nat.lt_of_lt_of_le (by decide) h.1, (h.2 69 (by decide) (by decide)).1⟩
theorem gA_70 {g : zG} (h : zGA g) : zAr g 70 2 100 := ⟨Nat.lt_of_lt_of_le (by decide) h.1, (h.2 70 (by decide) (by decide)).1⟩
theorem gA_71 {g : zG} (h : zGA g) : zAr g 71 1 36 := ⟨Nat.lt_of_lt_of_le (by decide) h.1, (h.2 71 (by decide) (by decide)).1⟩
theorem gA_72 {g : zG} (h : zGA g) : zAr g 72 1 6 := ⟨Nat.lt_of_lt_of_le (by decide) h.1, (h.2 72 (by decide) (by decide)).1⟩
theorem gA_73 {g : zG} (h : zGA g) : zAr g 73 1 6 := ⟨Nat.lt_of_lt_of_le (by decide) h.1, (h.2 73 (by decide) (by decide)).1⟩
theorem gA_74 {g : zG} (h : zGA g) : zAr g 74 1 14 := ⟨Nat.lt_of_lt_of_le (by decide) h.1, (h.2 74 (by decide) (by decide)).1⟩
theorem gA_75 {g : zG} (h : zGA g) : zAr g 75 1 4 := ⟨Nat.lt_of_lt_of_le (by decide) h.1, (h.2 75 (by decide) (by decide)).1⟩
theorem gA_76 {g : zG} (h : zGA g) : zAr g 76 1 4 := ⟨Nat.lt_of_lt_of_le (by decide) h.1, (h.2 76 (by decide) (by decide)).1⟩
theorem gA_77 {g : zG} (h : zGA g) : zAr g 77 1 160 := ⟨Nat.lt_of_lt_of_le (by decide) h.1, (h.2 77 (by decide) (by decide)).1⟩
theorem gA_78 {g : zG} (h : zGA g) : zAr g 78 1 6 := ⟨Nat.lt_of_lt_of_le (by decide) h.1, (h.2 78 (by decide) (by decide)).1⟩
/-- a SHEET and its row -/
def zSt (g : zG) (s : Nat) : Prop := zOb g s 5 ∧ g.2.2 s 2 = some (s + 1) ∧ zAr g (s + 1) 1 40
theorem gr_family_n {g : zG} (h : zGA g) : ∀ i, i < 6 → g.2.2 1 i = some (43 + i) ∧ zOb g (43 + i) 0
  | 0, _ => ⟨(h.2 1 (by decide) (by decide)).2 0 (by decide), gA_43 h⟩
  | 1, _ => ⟨(h.2 1 (by decide) (by decide)).2 1 (by decide), gA_44 h⟩
  | 2, _ => ⟨(h.2 1 (by decide) (by decide)).2 2 (by decide), gA_45 h⟩
  | 3, _ => ⟨(h.2 1 (by decide) (by decide)).2 3 (by decide), gA_46 h⟩
  | 4, _ => ⟨(h.2 1 (by decide) (by decide)).2 4 (by decide), gA_47 h⟩
  | 5, _ => ⟨(h.2 1 (by decide) (by decide)).2 5 (by decide), gA_48 h⟩
  | i + 6, h => by omega
theorem gr_family {g : zG} (h : zGA g) {j : Int32} (hj : vp_in j 6) : g.2.2 1 j.toNatClampNeg = some (43 + j.toNatClampNeg) ∧ zOb g (43 + j.toNatClampNeg) 0 := gr_family_n h _ (Nat.not_le.mp fun q => hj (Or.inr q))
theorem gr_sheets_n {g : zG} (h : zGA g) : ∀ i, i < 4 → g.2.2 2 i = some (49 + 2 * i) ∧ zSt g (49 + 2 * i)
  | 0, _ => ⟨(h.2 2 (by decide) (by decide)).2 0 (by decide), ⟨gA_49 h, gA_49_2 h, gA_50 h⟩⟩
  | 1, _ => ⟨(h.2 2 (by decide) (by decide)).2 1 (by decide), ⟨gA_51 h, gA_51_2 h, gA_52 h⟩⟩
  | 2, _ => ⟨(h.2 2 (by decide) (by decide)).2 2 (by decide), ⟨gA_53 h, gA_53_2 h, gA_54 h⟩⟩
  | 3, _ => ⟨(h.2 2 (by decide) (by decide)).2 3 (by decide), ⟨gA_55 h, gA_55_2 h, gA_56 h⟩⟩
  | i + 4, h => by omega
theorem gr_sheets {g : zG} (h : zGA g) {j : Int32} (hj : vp_in j 4) : g.2.2 2 j.toNatClampNeg = some (49 + 2 * j.toNatClampNeg) ∧ zSt g (49 + 2 * j.toNatClampNeg) := gr_sheets_n h _ (Nat.not_le.mp fun q => hj (Or.inr q))
theorem gr_codesL_n {g : zG} (h : zGL g) : ∀ i, i < 6 → g.2.2 6 i = some (7 + i) ∧ zAr g (7 + i) 1 160
  | 0, _ => ⟨(h.2 6 (by decide) (by decide)).2 0 (by decide), gL_7 h⟩
  | 1, _ => ⟨(h.2 6 (by decide) (by decide)).2 1 (by decide), gL_8 h⟩
  | 2, _ => ⟨(h.2 6 (by decide) (by decide)).2 2 (by decide), gL_9 h⟩
  | 3, _ => ⟨(h.2 6 (by decide) (by decide)).2 3 (by decide), gL_10 h⟩
  | 4, _ => ⟨(h.2 6 (by decide) (by decide)).2 4 (by decide), gL_11 h⟩
  | 5, _ => ⟨(h.2 6 (by decide) (by decide)).2 5 (by decide), gL_12 h⟩
  | i + 6, h => by omega
theorem gr_codesL {g : zG} (h : zGL g) {j : Int32} (hj : vp_in j 6) : g.2.2 6 j.toNatClampNeg = some (7 + j.toNatClampNeg) ∧ zAr g (7 + j.toNatClampNeg) 1 160 := gr_codesL_n h _ (Nat.not_le.mp fun q => hj (Or.inr q))
theorem gr_startsL_n {g : zG} (h : zGL g) : ∀ i, i < 6 → g.2.2 13 i = some (14 + i) ∧ zAr g (14 + i) 1 3
  | 0, _ => ⟨(h.2 13 (by decide) (by decide)).2 0 (by decide), gL_14 h⟩
  | 1, _ => ⟨(h.2 13 (by decide) (by decide)).2 1 (by decide), gL_15 h⟩
  | 2, _ => ⟨(h.2 13 (by decide) (by decide)).2 2 (by decide), gL_16 h⟩
  | 3, _ => ⟨(h.2 13 (by decide) (by decide)).2 3 (by decide), gL_17 h⟩
  | 4, _ => ⟨(h.2 13 (by decide) (by decide)).2 4 (by decide), gL_18 h⟩
  | 5, _ => ⟨(h.2 13 (by decide) (by decide)).2 5 (by decide), gL_19 h⟩
  | i + 6, h => by omega
theorem gr_startsL {g : zG} (h : zGL g) {j : Int32} (hj : vp_in j 6) : g.2.2 13 j.toNatClampNeg = some (14 + j.toNatClampNeg) ∧ zAr g (14 + j.toNatClampNeg) 1 3 := gr_startsL_n h _ (Nat.not_le.mp fun q => hj (Or.inr q))
theorem gr_codesA_n {g : zG} (h : zGA g) : ∀ i, i < 6 → g.2.2 6 i = some (7 + i) ∧ zAr g (7 + i) 1 160
  | 0, _ => ⟨(h.2 6 (by decide) (by decide)).2 0 (by decide), gA_7 h⟩
  | 1, _ => ⟨(h.2 6 (by decide) (by decide)).2 1 (by decide), gA_8 h⟩
  | 2, _ => ⟨(h.2 6 (by decide) (by decide)).2 2 (by decide), gA_9 h⟩
  | 3, _ => ⟨(h.2 6 (by decide) (by decide)).2 3 (by decide), gA_10 h⟩
  | 4, _ => ⟨(h.2 6 (by decide) (by decide)).2 4 (by decide), gA_11 h⟩
  | 5, _ => ⟨(h.2 6 (by decide) (by decide)).2 5 (by decide), gA_12 h⟩
  | i + 6, h => by omega
theorem gr_codesA {g : zG} (h : zGA g) {j : Int32} (hj : vp_in j 6) : g.2.2 6 j.toNatClampNeg = some (7 + j.toNatClampNeg) ∧ zAr g (7 + j.toNatClampNeg) 1 160 := gr_codesA_n h _ (Nat.not_le.mp fun q => hj (Or.inr q))
theorem gr_startsA_n {g : zG} (h : zGA g) : ∀ i, i < 6 → g.2.2 13 i = some (14 + i) ∧ zAr g (14 + i) 1 3
  | 0, _ => ⟨(h.2 13 (by decide) (by decide)).2 0 (by decide), gA_14 h⟩
  | 1, _ => ⟨(h.2 13 (by decide) (by decide)).2 1 (by decide), gA_15 h⟩
  | 2, _ => ⟨(h.2 13 (by decide) (by decide)).2 2 (by decide), gA_16 h⟩
  | 3, _ => ⟨(h.2 13 (by decide) (by decide)).2 3 (by decide), gA_17 h⟩
  | 4, _ => ⟨(h.2 13 (by decide) (by decide)).2 4 (by decide), gA_18 h⟩
  | 5, _ => ⟨(h.2 13 (by decide) (by decide)).2 5 (by decide), gA_19 h⟩
  | i + 6, h => by omega
theorem gr_startsA {g : zG} (h : zGA g) {j : Int32} (hj : vp_in j 6) : g.2.2 13 j.toNatClampNeg = some (14 + j.toNatClampNeg) ∧ zAr g (14 + j.toNatClampNeg) 1 3 := gr_startsA_n h _ (Nat.not_le.mp fun q => hj (Or.inr q))
theorem gr_toll_n {g : zG} (h : zGA g) : ∀ i, i < 6 → g.2.2 29 i = some (30 + i) ∧ zAr g (30 + i) 1 6
  | 0, _ => ⟨(h.2 29 (by decide) (by decide)).2 0 (by decide), gA_30 h⟩
  | 1, _ => ⟨(h.2 29 (by decide) (by decide)).2 1 (by decide), gA_31 h⟩
  | 2, _ => ⟨(h.2 29 (by decide) (by decide)).2 2 (by decide), gA_32 h⟩
  | 3, _ => ⟨(h.2 29 (by decide) (by decide)).2 3 (by decide), gA_33 h⟩
  | 4, _ => ⟨(h.2 29 (by decide) (by decide)).2 4 (by decide), gA_34 h⟩
  | 5, _ => ⟨(h.2 29 (by decide) (by decide)).2 5 (by decide), gA_35 h⟩
  | i + 6, h => by omega
theorem gr_toll {g : zG} (h : zGA g) {j : Int32} (hj : vp_in j 6) : g.2.2 29 j.toNatClampNeg = some (30 + j.toNatClampNeg) ∧ zAr g (30 + j.toNatClampNeg) 1 6 := gr_toll_n h _ (Nat.not_le.mp fun q => hj (Or.inr q))
theorem itT {c A B : Prop} {i : Decidable c} (hc : c) (h : if c then A else B) : A := by rwa [if_pos hc] at h
theorem itF {c A B : Prop} {i : Decidable c} (hc : ¬ c) (h : if c then A else B) : B := by rwa [if_neg hc] at h
def zqI (g : zG) (K : Int32 → zI → Prop) : Option Value → zG → zI → Prop := fun r g1 σ1 => ∃ v, r = some (.int v) ∧ g = g1 ∧ K v σ1
def zqL (g : zG) (K : Int64 → zI → Prop) : Option Value → zG → zI → Prop := fun r g1 σ1 => ∃ v, r = some (.long v) ∧ g = g1 ∧ K v σ1
def zqV (g : zG) (K : zI → Prop) : Option Value → zG → zI → Prop := fun r g1 σ1 => r = none ∧ g = g1 ∧ K σ1
def zqR (g : zG) (K : Option Nat → zI → Prop) : Option Value → zG → zI → Prop := fun r g1 σ1 => ∃ x, r = some (va_rf x) ∧ g = g1 ∧ K x σ1
def zCI (Y : zM) (d : Nat) (as : List Value) (g : zG) (σ : zI) (K : Int32 → zI → Prop) : Prop := zCx Y d as g σ (zqI g K)
def zCL (Y : zM) (d : Nat) (as : List Value) (g : zG) (σ : zI) (K : Int64 → zI → Prop) : Prop := zCx Y d as g σ (zqL g K)
def zCV (Y : zM) (d : Nat) (as : List Value) (g : zG) (σ : zI) (K : zI → Prop) : Prop := zCx Y d as g σ (zqV g K)
def zCR (Y : zM) (d : Nat) (as : List Value) (g : zG) (σ : zI) (K : Option Nat → zI → Prop) : Prop := zCx Y d as g σ (zqR g K)
theorem zCI.up {Y : zM} {d d2 : Nat} {as : List Value} {g : zG} {σ : zI} {K K2 : Int32 → zI → Prop} (h : zCI Y d as g σ K) (hd : d ≤ d2) (hk : ∀ v σ1, K v σ1 → K2 v σ1) : zCI Y d2 as g σ K2 := zCx_mono h hd (fun r g1 σ1 ⟨v, a, b, c⟩ => ⟨v, a, b, hk _ _ c⟩)
theorem zCL.up {Y : zM} {d d2 : Nat} {as : List Value} {g : zG} {σ : zI} {K K2 : Int64 → zI → Prop} (h : zCL Y d as g σ K) (hd : d ≤ d2) (hk : ∀ v σ1, K v σ1 → K2 v σ1) : zCL Y d2 as g σ K2 := zCx_mono h hd (fun r g1 σ1 ⟨v, a, b, c⟩ => ⟨v, a, b, hk _ _ c⟩)
theorem zCV.up {Y : zM} {d d2 : Nat} {as : List Value} {g : zG} {σ : zI} {K K2 : zI → Prop} (h : zCV Y d as g σ K) (hd : d ≤ d2) (hk : ∀ σ1, K σ1 → K2 σ1) : zCV Y d2 as g σ K2 := zCx_mono h hd (fun r g1 σ1 ⟨a, b, c⟩ => ⟨a, b, hk _ c⟩)
theorem zCR.up {Y : zM} {d d2 : Nat} {as : List Value} {g : zG} {σ : zI} {K K2 : Option Nat → zI → Prop} (h : zCR Y d as g σ K) (hd : d ≤ d2) (hk : ∀ v σ1, K v σ1 → K2 v σ1) : zCR Y d2 as g σ K2 := zCx_mono h hd (fun r g1 σ1 ⟨v, a, b, c⟩ => ⟨v, a, b, hk _ _ c⟩)
theorem zbz {v : Int32} (h : v = 0 ∨ v = 1) : narrow .boolean (.int v) = .int v := by rcases h with rfl | rfl <;> rfl
/-- fewer locals known -/
def zwk : List Value → List Value → Prop
  | [], _ => True
  | v :: l, w :: m => (v = .retAddr 0 ∨ v = w) ∧ zwk l m
  | _ :: _, [] => False
theorem zwk_get : ∀ (l m : List Value), zwk l m → ∀ (i : Nat) (v : Value), l[i]? = some v → v = .retAddr 0 ∨ m[i]? = some v
  | [], _, _, i, v, h => by simp at h
  | a :: l, b :: m, hw, 0, v, h => by
    cases h
    rcases hw.1 with q | q
    · exact Or.inl q
    · exact Or.inr (by rw [q]; rfl)
  | a :: l, b :: m, hw, i + 1, v, h => zwk_get l m hw.2 i v h
  | a :: l, [], hw, _, _, _ => hw.elim
theorem x_wk {Y : zM} {d kc ks pc : Nat} {L L2 S : List Value} {g : zG} {σ : zI} {Q : Option Value → zG → zI → Prop} (hw0 : zwk L2 L) (k : zX Y d kc ks pc L2 S g σ Q) : zX Y d kc ks pc L S g σ Q := by
  intro p l e R s m args below meth c H locs cells slots Q2 dC dI cy ρ A ls hC hRO hK hA hc hs hw hl hP hD hS ret
  refine k p l e R s m args below meth c H locs cells slots Q2 dC dI cy ρ A ls hC hRO hK hA hc hs hw ⟨hl.1, hl.2.1, fun i v hv hj => ?_⟩ hP hD hS ret
  rw [List.getElem?_map] at hv
  cases hx : L2[i]? with
  | none => rw [hx] at hv; cases hv
  | some w =>
    rw [hx] at hv
    cases hv
    rcases zwk_get L2 L hw0 i w hx with q | q
    · subst q
      exact absurd rfl hj
    · exact hl.2.2 i _ (by rw [List.getElem?_map, q]; rfl) hj
theorem wN (L : List Value) : zwk [] L := trivial
theorem wC {v : Value} {l m : List Value} (h : zwk l m) : zwk (v :: l) (v :: m) := ⟨Or.inr rfl, h⟩
theorem wJ {v : Value} {l m : List Value} (h : zwk l m) : zwk (.retAddr 0 :: l) (v :: m) := ⟨Or.inl rfl, h⟩
