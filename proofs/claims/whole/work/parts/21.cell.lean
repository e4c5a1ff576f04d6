/-! reads and writes of each cell -/
section ZCELL
variable {L : Nat} {m : Nat → Int → Int} {k z : Int}
set_option maxRecDepth 20000 in
theorem zh_0 : zSH L 0 = (0, 0) := rfl
theorem zgi_0 : zGI (zW L m) 0 0 k = some (m 0 k) := zw_gi (congrArg Prod.fst zh_0)
theorem zpi_0 : zPI (zW L m) 0 0 k z = some (zW L (zup m 0 k z)) := zw_pi (congrArg Prod.fst zh_0) (by decide)
theorem zpz_0 (h : z = 0 ∨ z = 1) : zPZ (zW L m) 0 0 k z = some (zW L (zup m 0 k z)) := zw_pz (congrArg Prod.fst zh_0) (by decide) h
theorem zcv_0 {K : zmK} {y : Nat} {A : List zmV} : zcv K y 0 0 A (zW L m) = K y A (zW L m) := zw_cv (congrArg Prod.fst zh_0)
set_option maxRecDepth 20000 in
theorem zgr_0_0 : zGR (zW L m) 0 0 0 = some 1 := (zw_gr (congrArg Prod.fst zh_0)).trans rfl
set_option maxRecDepth 20000 in
theorem zgr_0_1 : zGR (zW L m) 0 0 1 = some 8 := (zw_gr (congrArg Prod.fst zh_0)).trans rfl
set_option maxRecDepth 20000 in
theorem zgr_0_2 : zGR (zW L m) 0 0 2 = some 10 := (zw_gr (congrArg Prod.fst zh_0)).trans rfl
set_option maxRecDepth 20000 in
theorem zgr_0_3 : zGR (zW L m) 0 0 3 = some 11 := (zw_gr (congrArg Prod.fst zh_0)).trans rfl
set_option maxRecDepth 20000 in
theorem zgr_0_4 : zGR (zW L m) 0 0 4 = some 12 := (zw_gr (congrArg Prod.fst zh_0)).trans rfl
set_option maxRecDepth 20000 in
theorem zgr_0_5 : zGR (zW L m) 0 0 5 = some 13 := (zw_gr (congrArg Prod.fst zh_0)).trans rfl
set_option maxRecDepth 20000 in
theorem zgr_0_6 : zGR (zW L m) 0 0 6 = some 17 := (zw_gr (congrArg Prod.fst zh_0)).trans rfl
set_option maxRecDepth 20000 in
theorem zgr_0_7 : zGR (zW L m) 0 0 7 = some 19 := (zw_gr (congrArg Prod.fst zh_0)).trans rfl
set_option maxRecDepth 20000 in
theorem zgr_0_8 : zGR (zW L m) 0 0 8 = some 20 := (zw_gr (congrArg Prod.fst zh_0)).trans rfl
set_option maxRecDepth 20000 in
theorem zgr_0_9 : zGR (zW L m) 0 0 9 = some 23 := (zw_gr (congrArg Prod.fst zh_0)).trans rfl
set_option maxRecDepth 20000 in
theorem zgr_0_10 : zGR (zW L m) 0 0 10 = some 42 := (zw_gr (congrArg Prod.fst zh_0)).trans rfl
set_option maxRecDepth 20000 in
theorem zgr_0_11 : zGR (zW L m) 0 0 11 = some 64 := (zw_gr (congrArg Prod.fst zh_0)).trans rfl
set_option maxRecDepth 20000 in
theorem zgr_0_12 : zGR (zW L m) 0 0 12 = some 89 := (zw_gr (congrArg Prod.fst zh_0)).trans rfl
set_option maxRecDepth 20000 in
theorem zh_1 : zSH L 1 = (103, 3) := rfl
set_option maxRecDepth 20000 in
theorem zar_1_0 : zAR (zW L m) 103 1 0 = some 2 := (zw_ar (congrArg Prod.fst zh_1) (by decide) (by rw [zh_1]; decide)).trans rfl
set_option maxRecDepth 20000 in
theorem zar_1_1 : zAR (zW L m) 103 1 1 = some 4 := (zw_ar (congrArg Prod.fst zh_1) (by decide) (by rw [zh_1]; decide)).trans rfl
set_option maxRecDepth 20000 in
theorem zar_1_2 : zAR (zW L m) 103 1 2 = some 6 := (zw_ar (congrArg Prod.fst zh_1) (by decide) (by rw [zh_1]; decide)).trans rfl
theorem zlen_1 : zLen (zW L m) 1 = some 3 := (zw_len (by rw [zh_1]; decide) (by rw [zh_1]; decide)).trans (by rw [zh_1]; rfl)
set_option maxRecDepth 20000 in
theorem zh_2 : zSH L 2 = (1, 0) := rfl
theorem zgi_2 : zGI (zW L m) 2 1 k = some (m 2 k) := zw_gi (congrArg Prod.fst zh_2)
theorem zpi_2 : zPI (zW L m) 2 1 k z = some (zW L (zup m 2 k z)) := zw_pi (congrArg Prod.fst zh_2) (by decide)
theorem zpz_2 (h : z = 0 ∨ z = 1) : zPZ (zW L m) 2 1 k z = some (zW L (zup m 2 k z)) := zw_pz (congrArg Prod.fst zh_2) (by decide) h
theorem zcv_2 {K : zmK} {y : Nat} {A : List zmV} : zcv K y 1 2 A (zW L m) = K y A (zW L m) := zw_cv (congrArg Prod.fst zh_2)
set_option maxRecDepth 20000 in
theorem zgr_2_0 : zGR (zW L m) 2 1 0 = some 3 := (zw_gr (congrArg Prod.fst zh_2)).trans rfl
set_option maxRecDepth 20000 in
theorem zh_3 : zSH L 3 = (100, 80) := rfl
theorem zai_3 (h : 0 ≤ k) (h2 : k < 80) : zAI (zW L m) 100 3 k = some (m 3 k) := zw_ai (congrArg Prod.fst zh_3) h (by rw [zh_3]; exact h2)
theorem zsi_3 (h : 0 ≤ k) (h2 : k < 80) : zSI (zW L m) 100 3 k z = some (zW L (zup m 3 k z)) := zw_si (congrArg Prod.fst zh_3) h (by rw [zh_3]; exact h2) (by decide)
theorem zlen_3 : zLen (zW L m) 3 = some 80 := (zw_len (by rw [zh_3]; decide) (by rw [zh_3]; decide)).trans (by rw [zh_3]; rfl)
set_option maxRecDepth 20000 in
theorem zh_4 : zSH L 4 = (1, 0) := rfl
theorem zgi_4 : zGI (zW L m) 4 1 k = some (m 4 k) := zw_gi (congrArg Prod.fst zh_4)
theorem zpi_4 : zPI (zW L m) 4 1 k z = some (zW L (zup m 4 k z)) := zw_pi (congrArg Prod.fst zh_4) (by decide)
theorem zpz_4 (h : z = 0 ∨ z = 1) : zPZ (zW L m) 4 1 k z = some (zW L (zup m 4 k z)) := zw_pz (congrArg Prod.fst zh_4) (by decide) h
theorem zcv_4 {K : zmK} {y : Nat} {A : List zmV} : zcv K y 1 4 A (zW L m) = K y A (zW L m) := zw_cv (congrArg Prod.fst zh_4)
set_option maxRecDepth 20000 in
theorem zgr_4_0 : zGR (zW L m) 4 1 0 = some 5 := (zw_gr (congrArg Prod.fst zh_4)).trans rfl
set_option maxRecDepth 20000 in
theorem zh_5 : zSH L 5 = (100, 10) := rfl
theorem zai_5 (h : 0 ≤ k) (h2 : k < 10) : zAI (zW L m) 100 5 k = some (m 5 k) := zw_ai (congrArg Prod.fst zh_5) h (by rw [zh_5]; exact h2)
theorem zsi_5 (h : 0 ≤ k) (h2 : k < 10) : zSI (zW L m) 100 5 k z = some (zW L (zup m 5 k z)) := zw_si (congrArg Prod.fst zh_5) h (by rw [zh_5]; exact h2) (by decide)
theorem zlen_5 : zLen (zW L m) 5 = some 10 := (zw_len (by rw [zh_5]; decide) (by rw [zh_5]; decide)).trans (by rw [zh_5]; rfl)
set_option maxRecDepth 20000 in
theorem zh_6 : zSH L 6 = (1, 0) := rfl
theorem zgi_6 : zGI (zW L m) 6 1 k = some (m 6 k) := zw_gi (congrArg Prod.fst zh_6)
theorem zpi_6 : zPI (zW L m) 6 1 k z = some (zW L (zup m 6 k z)) := zw_pi (congrArg Prod.fst zh_6) (by decide)
theorem zpz_6 (h : z = 0 ∨ z = 1) : zPZ (zW L m) 6 1 k z = some (zW L (zup m 6 k z)) := zw_pz (congrArg Prod.fst zh_6) (by decide) h
theorem zcv_6 {K : zmK} {y : Nat} {A : List zmV} : zcv K y 1 6 A (zW L m) = K y A (zW L m) := zw_cv (congrArg Prod.fst zh_6)
set_option maxRecDepth 20000 in
theorem zgr_6_0 : zGR (zW L m) 6 1 0 = some 7 := (zw_gr (congrArg Prod.fst zh_6)).trans rfl
set_option maxRecDepth 20000 in
theorem zh_7 : zSH L 7 = (100, 60) := rfl
theorem zai_7 (h : 0 ≤ k) (h2 : k < 60) : zAI (zW L m) 100 7 k = some (m 7 k) := zw_ai (congrArg Prod.fst zh_7) h (by rw [zh_7]; exact h2)
theorem zsi_7 (h : 0 ≤ k) (h2 : k < 60) : zSI (zW L m) 100 7 k z = some (zW L (zup m 7 k z)) := zw_si (congrArg Prod.fst zh_7) h (by rw [zh_7]; exact h2) (by decide)
theorem zlen_7 : zLen (zW L m) 7 = some 60 := (zw_len (by rw [zh_7]; decide) (by rw [zh_7]; decide)).trans (by rw [zh_7]; rfl)
set_option maxRecDepth 20000 in
theorem zh_8 : zSH L 8 = (2, 0) := rfl
theorem zgi_8 : zGI (zW L m) 8 2 k = some (m 8 k) := zw_gi (congrArg Prod.fst zh_8)
theorem zpi_8 : zPI (zW L m) 8 2 k z = some (zW L (zup m 8 k z)) := zw_pi (congrArg Prod.fst zh_8) (by decide)
theorem zpz_8 (h : z = 0 ∨ z = 1) : zPZ (zW L m) 8 2 k z = some (zW L (zup m 8 k z)) := zw_pz (congrArg Prod.fst zh_8) (by decide) h
theorem zcv_8 {K : zmK} {y : Nat} {A : List zmV} : zcv K y 2 8 A (zW L m) = K y A (zW L m) := zw_cv (congrArg Prod.fst zh_8)
set_option maxRecDepth 20000 in
theorem zgr_8_0 : zGR (zW L m) 8 2 0 = some 9 := (zw_gr (congrArg Prod.fst zh_8)).trans rfl
set_option maxRecDepth 20000 in
theorem zh_9 : zSH L 9 = (100, 64) := rfl
theorem zai_9 (h : 0 ≤ k) (h2 : k < 64) : zAI (zW L m) 100 9 k = some (m 9 k) := zw_ai (congrArg Prod.fst zh_9) h (by rw [zh_9]; exact h2)
theorem zsi_9 (h : 0 ≤ k) (h2 : k < 64) : zSI (zW L m) 100 9 k z = some (zW L (zup m 9 k z)) := zw_si (congrArg Prod.fst zh_9) h (by rw [zh_9]; exact h2) (by decide)
theorem zlen_9 : zLen (zW L m) 9 = some 64 := (zw_len (by rw [zh_9]; decide) (by rw [zh_9]; decide)).trans (by rw [zh_9]; rfl)
set_option maxRecDepth 20000 in
theorem zh_10 : zSH L 10 = (3, 0) := rfl
theorem zgi_10 : zGI (zW L m) 10 3 k = some (m 10 k) := zw_gi (congrArg Prod.fst zh_10)
theorem zpi_10 : zPI (zW L m) 10 3 k z = some (zW L (zup m 10 k z)) := zw_pi (congrArg Prod.fst zh_10) (by decide)
theorem zpz_10 (h : z = 0 ∨ z = 1) : zPZ (zW L m) 10 3 k z = some (zW L (zup m 10 k z)) := zw_pz (congrArg Prod.fst zh_10) (by decide) h
theorem zcv_10 {K : zmK} {y : Nat} {A : List zmV} : zcv K y 3 10 A (zW L m) = K y A (zW L m) := zw_cv (congrArg Prod.fst zh_10)
set_option maxRecDepth 20000 in
theorem zh_11 : zSH L 11 = (4, 0) := rfl
theorem zgi_11 : zGI (zW L m) 11 4 k = some (m 11 k) := zw_gi (congrArg Prod.fst zh_11)
theorem zpi_11 : zPI (zW L m) 11 4 k z = some (zW L (zup m 11 k z)) := zw_pi (congrArg Prod.fst zh_11) (by decide)
theorem zpz_11 (h : z = 0 ∨ z = 1) : zPZ (zW L m) 11 4 k z = some (zW L (zup m 11 k z)) := zw_pz (congrArg Prod.fst zh_11) (by decide) h
theorem zcv_11 {K : zmK} {y : Nat} {A : List zmV} : zcv K y 4 11 A (zW L m) = K y A (zW L m) := zw_cv (congrArg Prod.fst zh_11)
set_option maxRecDepth 20000 in
theorem zh_12 : zSH L 12 = (4, 0) := rfl
theorem zgi_12 : zGI (zW L m) 12 4 k = some (m 12 k) := zw_gi (congrArg Prod.fst zh_12)
theorem zpi_12 : zPI (zW L m) 12 4 k z = some (zW L (zup m 12 k z)) := zw_pi (congrArg Prod.fst zh_12) (by decide)
theorem zpz_12 (h : z = 0 ∨ z = 1) : zPZ (zW L m) 12 4 k z = some (zW L (zup m 12 k z)) := zw_pz (congrArg Prod.fst zh_12) (by decide) h
theorem zcv_12 {K : zmK} {y : Nat} {A : List zmV} : zcv K y 4 12 A (zW L m) = K y A (zW L m) := zw_cv (congrArg Prod.fst zh_12)
set_option maxRecDepth 20000 in
theorem zh_13 : zSH L 13 = (5, 0) := rfl
theorem zgi_13 : zGI (zW L m) 13 5 k = some (m 13 k) := zw_gi (congrArg Prod.fst zh_13)
theorem zpi_13 : zPI (zW L m) 13 5 k z = some (zW L (zup m 13 k z)) := zw_pi (congrArg Prod.fst zh_13) (by decide)
theorem zpz_13 (h : z = 0 ∨ z = 1) : zPZ (zW L m) 13 5 k z = some (zW L (zup m 13 k z)) := zw_pz (congrArg Prod.fst zh_13) (by decide) h
theorem zcv_13 {K : zmK} {y : Nat} {A : List zmV} : zcv K y 5 13 A (zW L m) = K y A (zW L m) := zw_cv (congrArg Prod.fst zh_13)
set_option maxRecDepth 20000 in
theorem zgr_13_0 : zGR (zW L m) 13 5 0 = some 14 := (zw_gr (congrArg Prod.fst zh_13)).trans rfl
set_option maxRecDepth 20000 in
theorem zgr_13_1 : zGR (zW L m) 13 5 1 = some 15 := (zw_gr (congrArg Prod.fst zh_13)).trans rfl
set_option maxRecDepth 20000 in
theorem zgr_13_2 : zGR (zW L m) 13 5 2 = some 16 := (zw_gr (congrArg Prod.fst zh_13)).trans rfl
set_option maxRecDepth 20000 in
theorem zh_14 : zSH L 14 = (100, 640) := rfl
theorem zai_14 (h : 0 ≤ k) (h2 : k < 640) : zAI (zW L m) 100 14 k = some (m 14 k) := zw_ai (congrArg Prod.fst zh_14) h (by rw [zh_14]; exact h2)
theorem zsi_14 (h : 0 ≤ k) (h2 : k < 640) : zSI (zW L m) 100 14 k z = some (zW L (zup m 14 k z)) := zw_si (congrArg Prod.fst zh_14) h (by rw [zh_14]; exact h2) (by decide)
theorem zlen_14 : zLen (zW L m) 14 = some 640 := (zw_len (by rw [zh_14]; decide) (by rw [zh_14]; decide)).trans (by rw [zh_14]; rfl)
set_option maxRecDepth 20000 in
theorem zh_15 : zSH L 15 = (100, 640) := rfl
theorem zai_15 (h : 0 ≤ k) (h2 : k < 640) : zAI (zW L m) 100 15 k = some (m 15 k) := zw_ai (congrArg Prod.fst zh_15) h (by rw [zh_15]; exact h2)
theorem zsi_15 (h : 0 ≤ k) (h2 : k < 640) : zSI (zW L m) 100 15 k z = some (zW L (zup m 15 k z)) := zw_si (congrArg Prod.fst zh_15) h (by rw [zh_15]; exact h2) (by decide)
theorem zlen_15 : zLen (zW L m) 15 = some 640 := (zw_len (by rw [zh_15]; decide) (by rw [zh_15]; decide)).trans (by rw [zh_15]; rfl)
set_option maxRecDepth 20000 in
theorem zh_16 : zSH L 16 = (100, 640) := rfl
theorem zai_16 (h : 0 ≤ k) (h2 : k < 640) : zAI (zW L m) 100 16 k = some (m 16 k) := zw_ai (congrArg Prod.fst zh_16) h (by rw [zh_16]; exact h2)
theorem zsi_16 (h : 0 ≤ k) (h2 : k < 640) : zSI (zW L m) 100 16 k z = some (zW L (zup m 16 k z)) := zw_si (congrArg Prod.fst zh_16) h (by rw [zh_16]; exact h2) (by decide)
theorem zlen_16 : zLen (zW L m) 16 = some 640 := (zw_len (by rw [zh_16]; decide) (by rw [zh_16]; decide)).trans (by rw [zh_16]; rfl)
set_option maxRecDepth 20000 in
theorem zh_17 : zSH L 17 = (6, 0) := rfl
theorem zgi_17 : zGI (zW L m) 17 6 k = some (m 17 k) := zw_gi (congrArg Prod.fst zh_17)
theorem zpi_17 : zPI (zW L m) 17 6 k z = some (zW L (zup m 17 k z)) := zw_pi (congrArg Prod.fst zh_17) (by decide)
theorem zpz_17 (h : z = 0 ∨ z = 1) : zPZ (zW L m) 17 6 k z = some (zW L (zup m 17 k z)) := zw_pz (congrArg Prod.fst zh_17) (by decide) h
theorem zcv_17 {K : zmK} {y : Nat} {A : List zmV} : zcv K y 6 17 A (zW L m) = K y A (zW L m) := zw_cv (congrArg Prod.fst zh_17)
set_option maxRecDepth 20000 in
theorem zgr_17_0 : zGR (zW L m) 17 6 0 = some 18 := (zw_gr (congrArg Prod.fst zh_17)).trans rfl
set_option maxRecDepth 20000 in
theorem zh_18 : zSH L 18 = (100, 3072) := rfl
theorem zai_18 (h : 0 ≤ k) (h2 : k < 3072) : zAI (zW L m) 100 18 k = some (m 18 k) := zw_ai (congrArg Prod.fst zh_18) h (by rw [zh_18]; exact h2)
theorem zsi_18 (h : 0 ≤ k) (h2 : k < 3072) : zSI (zW L m) 100 18 k z = some (zW L (zup m 18 k z)) := zw_si (congrArg Prod.fst zh_18) h (by rw [zh_18]; exact h2) (by decide)
theorem zlen_18 : zLen (zW L m) 18 = some 3072 := (zw_len (by rw [zh_18]; decide) (by rw [zh_18]; decide)).trans (by rw [zh_18]; rfl)
set_option maxRecDepth 20000 in
theorem zh_19 : zSH L 19 = (100, 6) := rfl
theorem zai_19 (h : 0 ≤ k) (h2 : k < 6) : zAI (zW L m) 100 19 k = some (m 19 k) := zw_ai (congrArg Prod.fst zh_19) h (by rw [zh_19]; exact h2)
theorem zsi_19 (h : 0 ≤ k) (h2 : k < 6) : zSI (zW L m) 100 19 k z = some (zW L (zup m 19 k z)) := zw_si (congrArg Prod.fst zh_19) h (by rw [zh_19]; exact h2) (by decide)
theorem zlen_19 : zLen (zW L m) 19 = some 6 := (zw_len (by rw [zh_19]; decide) (by rw [zh_19]; decide)).trans (by rw [zh_19]; rfl)
set_option maxRecDepth 20000 in
theorem zh_20 : zSH L 20 = (7, 0) := rfl
theorem zgi_20 : zGI (zW L m) 20 7 k = some (m 20 k) := zw_gi (congrArg Prod.fst zh_20)
theorem zpi_20 : zPI (zW L m) 20 7 k z = some (zW L (zup m 20 k z)) := zw_pi (congrArg Prod.fst zh_20) (by decide)
theorem zpz_20 (h : z = 0 ∨ z = 1) : zPZ (zW L m) 20 7 k z = some (zW L (zup m 20 k z)) := zw_pz (congrArg Prod.fst zh_20) (by decide) h
theorem zcv_20 {K : zmK} {y : Nat} {A : List zmV} : zcv K y 7 20 A (zW L m) = K y A (zW L m) := zw_cv (congrArg Prod.fst zh_20)
set_option maxRecDepth 20000 in
theorem zgr_20_0 : zGR (zW L m) 20 7 0 = some 21 := (zw_gr (congrArg Prod.fst zh_20)).trans rfl
set_option maxRecDepth 20000 in
theorem zgr_20_1 : zGR (zW L m) 20 7 1 = some 22 := (zw_gr (congrArg Prod.fst zh_20)).trans rfl
set_option maxRecDepth 20000 in
theorem zh_21 : zSH L 21 = (100, 666) := rfl
theorem zai_21 (h : 0 ≤ k) (h2 : k < 666) : zAI (zW L m) 100 21 k = some (m 21 k) := zw_ai (congrArg Prod.fst zh_21) h (by rw [zh_21]; exact h2)
theorem zsi_21 (h : 0 ≤ k) (h2 : k < 666) : zSI (zW L m) 100 21 k z = some (zW L (zup m 21 k z)) := zw_si (congrArg Prod.fst zh_21) h (by rw [zh_21]; exact h2) (by decide)
theorem zlen_21 : zLen (zW L m) 21 = some 666 := (zw_len (by rw [zh_21]; decide) (by rw [zh_21]; decide)).trans (by rw [zh_21]; rfl)
set_option maxRecDepth 20000 in
theorem zh_22 : zSH L 22 = (100, 666) := rfl
theorem zai_22 (h : 0 ≤ k) (h2 : k < 666) : zAI (zW L m) 100 22 k = some (m 22 k) := zw_ai (congrArg Prod.fst zh_22) h (by rw [zh_22]; exact h2)
theorem zsi_22 (h : 0 ≤ k) (h2 : k < 666) : zSI (zW L m) 100 22 k z = some (zW L (zup m 22 k z)) := zw_si (congrArg Prod.fst zh_22) h (by rw [zh_22]; exact h2) (by decide)
theorem zlen_22 : zLen (zW L m) 22 = some 666 := (zw_len (by rw [zh_22]; decide) (by rw [zh_22]; decide)).trans (by rw [zh_22]; rfl)
set_option maxRecDepth 20000 in
theorem zh_23 : zSH L 23 = (8, 0) := rfl
theorem zgi_23 : zGI (zW L m) 23 8 k = some (m 23 k) := zw_gi (congrArg Prod.fst zh_23)
theorem zpi_23 : zPI (zW L m) 23 8 k z = some (zW L (zup m 23 k z)) := zw_pi (congrArg Prod.fst zh_23) (by decide)
theorem zpz_23 (h : z = 0 ∨ z = 1) : zPZ (zW L m) 23 8 k z = some (zW L (zup m 23 k z)) := zw_pz (congrArg Prod.fst zh_23) (by decide) h
theorem zcv_23 {K : zmK} {y : Nat} {A : List zmV} : zcv K y 8 23 A (zW L m) = K y A (zW L m) := zw_cv (congrArg Prod.fst zh_23)
set_option maxRecDepth 20000 in
theorem zgr_23_0 : zGR (zW L m) 23 8 0 = some 24 := (zw_gr (congrArg Prod.fst zh_23)).trans rfl
set_option maxRecDepth 20000 in
theorem zgr_23_1 : zGR (zW L m) 23 8 1 = some 26 := (zw_gr (congrArg Prod.fst zh_23)).trans rfl
set_option maxRecDepth 20000 in
theorem zgr_23_2 : zGR (zW L m) 23 8 2 = some 27 := (zw_gr (congrArg Prod.fst zh_23)).trans rfl
set_option maxRecDepth 20000 in
theorem zgr_23_3 : zGR (zW L m) 23 8 3 = some 28 := (zw_gr (congrArg Prod.fst zh_23)).trans rfl
set_option maxRecDepth 20000 in
theorem zgr_23_4 : zGR (zW L m) 23 8 4 = some 30 := (zw_gr (congrArg Prod.fst zh_23)).trans rfl
set_option maxRecDepth 20000 in
theorem zgr_23_5 : zGR (zW L m) 23 8 5 = some 32 := (zw_gr (congrArg Prod.fst zh_23)).trans rfl
set_option maxRecDepth 20000 in
theorem zgr_23_6 : zGR (zW L m) 23 8 6 = some 36 := (zw_gr (congrArg Prod.fst zh_23)).trans rfl
set_option maxRecDepth 20000 in
theorem zgr_23_7 : zGR (zW L m) 23 8 7 = some 40 := (zw_gr (congrArg Prod.fst zh_23)).trans rfl
set_option maxRecDepth 20000 in
theorem zgr_23_8 : zGR (zW L m) 23 8 8 = some 41 := (zw_gr (congrArg Prod.fst zh_23)).trans rfl
set_option maxRecDepth 20000 in
theorem zh_24 : zSH L 24 = (6, 0) := rfl
theorem zgi_24 : zGI (zW L m) 24 6 k = some (m 24 k) := zw_gi (congrArg Prod.fst zh_24)
theorem zpi_24 : zPI (zW L m) 24 6 k z = some (zW L (zup m 24 k z)) := zw_pi (congrArg Prod.fst zh_24) (by decide)
theorem zpz_24 (h : z = 0 ∨ z = 1) : zPZ (zW L m) 24 6 k z = some (zW L (zup m 24 k z)) := zw_pz (congrArg Prod.fst zh_24) (by decide) h
theorem zcv_24 {K : zmK} {y : Nat} {A : List zmV} : zcv K y 6 24 A (zW L m) = K y A (zW L m) := zw_cv (congrArg Prod.fst zh_24)
set_option maxRecDepth 20000 in
theorem zgr_24_0 : zGR (zW L m) 24 6 0 = some 25 := (zw_gr (congrArg Prod.fst zh_24)).trans rfl
set_option maxRecDepth 20000 in
theorem zh_25 : zSH L 25 = (100, 3072) := rfl
theorem zai_25 (h : 0 ≤ k) (h2 : k < 3072) : zAI (zW L m) 100 25 k = some (m 25 k) := zw_ai (congrArg Prod.fst zh_25) h (by rw [zh_25]; exact h2)
theorem zsi_25 (h : 0 ≤ k) (h2 : k < 3072) : zSI (zW L m) 100 25 k z = some (zW L (zup m 25 k z)) := zw_si (congrArg Prod.fst zh_25) h (by rw [zh_25]; exact h2) (by decide)
theorem zlen_25 : zLen (zW L m) 25 = some 3072 := (zw_len (by rw [zh_25]; decide) (by rw [zh_25]; decide)).trans (by rw [zh_25]; rfl)
set_option maxRecDepth 20000 in
theorem zh_26 : zSH L 26 = (100, 6) := rfl
theorem zai_26 (h : 0 ≤ k) (h2 : k < 6) : zAI (zW L m) 100 26 k = some (m 26 k) := zw_ai (congrArg Prod.fst zh_26) h (by rw [zh_26]; exact h2)
theorem zsi_26 (h : 0 ≤ k) (h2 : k < 6) : zSI (zW L m) 100 26 k z = some (zW L (zup m 26 k z)) := zw_si (congrArg Prod.fst zh_26) h (by rw [zh_26]; exact h2) (by decide)
theorem zlen_26 : zLen (zW L m) 26 = some 6 := (zw_len (by rw [zh_26]; decide) (by rw [zh_26]; decide)).trans (by rw [zh_26]; rfl)
set_option maxRecDepth 20000 in
theorem zh_27 : zSH L 27 = (4, 0) := rfl
theorem zgi_27 : zGI (zW L m) 27 4 k = some (m 27 k) := zw_gi (congrArg Prod.fst zh_27)
theorem zpi_27 : zPI (zW L m) 27 4 k z = some (zW L (zup m 27 k z)) := zw_pi (congrArg Prod.fst zh_27) (by decide)
theorem zpz_27 (h : z = 0 ∨ z = 1) : zPZ (zW L m) 27 4 k z = some (zW L (zup m 27 k z)) := zw_pz (congrArg Prod.fst zh_27) (by decide) h
theorem zcv_27 {K : zmK} {y : Nat} {A : List zmV} : zcv K y 4 27 A (zW L m) = K y A (zW L m) := zw_cv (congrArg Prod.fst zh_27)
set_option maxRecDepth 20000 in
theorem zh_28 : zSH L 28 = (2, 0) := rfl
theorem zgi_28 : zGI (zW L m) 28 2 k = some (m 28 k) := zw_gi (congrArg Prod.fst zh_28)
theorem zpi_28 : zPI (zW L m) 28 2 k z = some (zW L (zup m 28 k z)) := zw_pi (congrArg Prod.fst zh_28) (by decide)
theorem zpz_28 (h : z = 0 ∨ z = 1) : zPZ (zW L m) 28 2 k z = some (zW L (zup m 28 k z)) := zw_pz (congrArg Prod.fst zh_28) (by decide) h
theorem zcv_28 {K : zmK} {y : Nat} {A : List zmV} : zcv K y 2 28 A (zW L m) = K y A (zW L m) := zw_cv (congrArg Prod.fst zh_28)
set_option maxRecDepth 20000 in
theorem zgr_28_0 : zGR (zW L m) 28 2 0 = some 29 := (zw_gr (congrArg Prod.fst zh_28)).trans rfl
set_option maxRecDepth 20000 in
theorem zh_29 : zSH L 29 = (100, 64) := rfl
theorem zai_29 (h : 0 ≤ k) (h2 : k < 64) : zAI (zW L m) 100 29 k = some (m 29 k) := zw_ai (congrArg Prod.fst zh_29) h (by rw [zh_29]; exact h2)
theorem zsi_29 (h : 0 ≤ k) (h2 : k < 64) : zSI (zW L m) 100 29 k z = some (zW L (zup m 29 k z)) := zw_si (congrArg Prod.fst zh_29) h (by rw [zh_29]; exact h2) (by decide)
theorem zlen_29 : zLen (zW L m) 29 = some 64 := (zw_len (by rw [zh_29]; decide) (by rw [zh_29]; decide)).trans (by rw [zh_29]; rfl)
set_option maxRecDepth 20000 in
theorem zh_30 : zSH L 30 = (2, 0) := rfl
theorem zgi_30 : zGI (zW L m) 30 2 k = some (m 30 k) := zw_gi (congrArg Prod.fst zh_30)
theorem zpi_30 : zPI (zW L m) 30 2 k z = some (zW L (zup m 30 k z)) := zw_pi (congrArg Prod.fst zh_30) (by decide)
theorem zpz_30 (h : z = 0 ∨ z = 1) : zPZ (zW L m) 30 2 k z = some (zW L (zup m 30 k z)) := zw_pz (congrArg Prod.fst zh_30) (by decide) h
theorem zcv_30 {K : zmK} {y : Nat} {A : List zmV} : zcv K y 2 30 A (zW L m) = K y A (zW L m) := zw_cv (congrArg Prod.fst zh_30)
set_option maxRecDepth 20000 in
theorem zgr_30_0 : zGR (zW L m) 30 2 0 = some 31 := (zw_gr (congrArg Prod.fst zh_30)).trans rfl
set_option maxRecDepth 20000 in
theorem zh_31 : zSH L 31 = (100, 64) := rfl
theorem zai_31 (h : 0 ≤ k) (h2 : k < 64) : zAI (zW L m) 100 31 k = some (m 31 k) := zw_ai (congrArg Prod.fst zh_31) h (by rw [zh_31]; exact h2)
theorem zsi_31 (h : 0 ≤ k) (h2 : k < 64) : zSI (zW L m) 100 31 k z = some (zW L (zup m 31 k z)) := zw_si (congrArg Prod.fst zh_31) h (by rw [zh_31]; exact h2) (by decide)
theorem zlen_31 : zLen (zW L m) 31 = some 64 := (zw_len (by rw [zh_31]; decide) (by rw [zh_31]; decide)).trans (by rw [zh_31]; rfl)
set_option maxRecDepth 20000 in
theorem zh_32 : zSH L 32 = (5, 0) := rfl
theorem zgi_32 : zGI (zW L m) 32 5 k = some (m 32 k) := zw_gi (congrArg Prod.fst zh_32)
theorem zpi_32 : zPI (zW L m) 32 5 k z = some (zW L (zup m 32 k z)) := zw_pi (congrArg Prod.fst zh_32) (by decide)
theorem zpz_32 (h : z = 0 ∨ z = 1) : zPZ (zW L m) 32 5 k z = some (zW L (zup m 32 k z)) := zw_pz (congrArg Prod.fst zh_32) (by decide) h
theorem zcv_32 {K : zmK} {y : Nat} {A : List zmV} : zcv K y 5 32 A (zW L m) = K y A (zW L m) := zw_cv (congrArg Prod.fst zh_32)
set_option maxRecDepth 20000 in
theorem zgr_32_0 : zGR (zW L m) 32 5 0 = some 33 := (zw_gr (congrArg Prod.fst zh_32)).trans rfl
set_option maxRecDepth 20000 in
theorem zgr_32_1 : zGR (zW L m) 32 5 1 = some 34 := (zw_gr (congrArg Prod.fst zh_32)).trans rfl
set_option maxRecDepth 20000 in
theorem zgr_32_2 : zGR (zW L m) 32 5 2 = some 35 := (zw_gr (congrArg Prod.fst zh_32)).trans rfl
set_option maxRecDepth 20000 in
theorem zh_33 : zSH L 33 = (100, 640) := rfl
theorem zai_33 (h : 0 ≤ k) (h2 : k < 640) : zAI (zW L m) 100 33 k = some (m 33 k) := zw_ai (congrArg Prod.fst zh_33) h (by rw [zh_33]; exact h2)
theorem zsi_33 (h : 0 ≤ k) (h2 : k < 640) : zSI (zW L m) 100 33 k z = some (zW L (zup m 33 k z)) := zw_si (congrArg Prod.fst zh_33) h (by rw [zh_33]; exact h2) (by decide)
theorem zlen_33 : zLen (zW L m) 33 = some 640 := (zw_len (by rw [zh_33]; decide) (by rw [zh_33]; decide)).trans (by rw [zh_33]; rfl)
set_option maxRecDepth 20000 in
theorem zh_34 : zSH L 34 = (100, 640) := rfl
theorem zai_34 (h : 0 ≤ k) (h2 : k < 640) : zAI (zW L m) 100 34 k = some (m 34 k) := zw_ai (congrArg Prod.fst zh_34) h (by rw [zh_34]; exact h2)
theorem zsi_34 (h : 0 ≤ k) (h2 : k < 640) : zSI (zW L m) 100 34 k z = some (zW L (zup m 34 k z)) := zw_si (congrArg Prod.fst zh_34) h (by rw [zh_34]; exact h2) (by decide)
theorem zlen_34 : zLen (zW L m) 34 = some 640 := (zw_len (by rw [zh_34]; decide) (by rw [zh_34]; decide)).trans (by rw [zh_34]; rfl)
set_option maxRecDepth 20000 in
theorem zh_35 : zSH L 35 = (100, 640) := rfl
theorem zai_35 (h : 0 ≤ k) (h2 : k < 640) : zAI (zW L m) 100 35 k = some (m 35 k) := zw_ai (congrArg Prod.fst zh_35) h (by rw [zh_35]; exact h2)
theorem zsi_35 (h : 0 ≤ k) (h2 : k < 640) : zSI (zW L m) 100 35 k z = some (zW L (zup m 35 k z)) := zw_si (congrArg Prod.fst zh_35) h (by rw [zh_35]; exact h2) (by decide)
theorem zlen_35 : zLen (zW L m) 35 = some 640 := (zw_len (by rw [zh_35]; decide) (by rw [zh_35]; decide)).trans (by rw [zh_35]; rfl)
set_option maxRecDepth 20000 in
theorem zh_36 : zSH L 36 = (5, 0) := rfl
theorem zgi_36 : zGI (zW L m) 36 5 k = some (m 36 k) := zw_gi (congrArg Prod.fst zh_36)
theorem zpi_36 : zPI (zW L m) 36 5 k z = some (zW L (zup m 36 k z)) := zw_pi (congrArg Prod.fst zh_36) (by decide)
theorem zpz_36 (h : z = 0 ∨ z = 1) : zPZ (zW L m) 36 5 k z = some (zW L (zup m 36 k z)) := zw_pz (congrArg Prod.fst zh_36) (by decide) h
theorem zcv_36 {K : zmK} {y : Nat} {A : List zmV} : zcv K y 5 36 A (zW L m) = K y A (zW L m) := zw_cv (congrArg Prod.fst zh_36)
set_option maxRecDepth 20000 in
theorem zgr_36_0 : zGR (zW L m) 36 5 0 = some 37 := (zw_gr (congrArg Prod.fst zh_36)).trans rfl
set_option maxRecDepth 20000 in
theorem zgr_36_1 : zGR (zW L m) 36 5 1 = some 38 := (zw_gr (congrArg Prod.fst zh_36)).trans rfl
set_option maxRecDepth 20000 in
theorem zgr_36_2 : zGR (zW L m) 36 5 2 = some 39 := (zw_gr (congrArg Prod.fst zh_36)).trans rfl
set_option maxRecDepth 20000 in
theorem zh_37 : zSH L 37 = (100, 640) := rfl
theorem zai_37 (h : 0 ≤ k) (h2 : k < 640) : zAI (zW L m) 100 37 k = some (m 37 k) := zw_ai (congrArg Prod.fst zh_37) h (by rw [zh_37]; exact h2)
theorem zsi_37 (h : 0 ≤ k) (h2 : k < 640) : zSI (zW L m) 100 37 k z = some (zW L (zup m 37 k z)) := zw_si (congrArg Prod.fst zh_37) h (by rw [zh_37]; exact h2) (by decide)
theorem zlen_37 : zLen (zW L m) 37 = some 640 := (zw_len (by rw [zh_37]; decide) (by rw [zh_37]; decide)).trans (by rw [zh_37]; rfl)
set_option maxRecDepth 20000 in
theorem zh_38 : zSH L 38 = (100, 640) := rfl
theorem zai_38 (h : 0 ≤ k) (h2 : k < 640) : zAI (zW L m) 100 38 k = some (m 38 k) := zw_ai (congrArg Prod.fst zh_38) h (by rw [zh_38]; exact h2)
theorem zsi_38 (h : 0 ≤ k) (h2 : k < 640) : zSI (zW L m) 100 38 k z = some (zW L (zup m 38 k z)) := zw_si (congrArg Prod.fst zh_38) h (by rw [zh_38]; exact h2) (by decide)
theorem zlen_38 : zLen (zW L m) 38 = some 640 := (zw_len (by rw [zh_38]; decide) (by rw [zh_38]; decide)).trans (by rw [zh_38]; rfl)
set_option maxRecDepth 20000 in
theorem zh_39 : zSH L 39 = (100, 640) := rfl
theorem zai_39 (h : 0 ≤ k) (h2 : k < 640) : zAI (zW L m) 100 39 k = some (m 39 k) := zw_ai (congrArg Prod.fst zh_39) h (by rw [zh_39]; exact h2)
theorem zsi_39 (h : 0 ≤ k) (h2 : k < 640) : zSI (zW L m) 100 39 k z = some (zW L (zup m 39 k z)) := zw_si (congrArg Prod.fst zh_39) h (by rw [zh_39]; exact h2) (by decide)
theorem zlen_39 : zLen (zW L m) 39 = some 640 := (zw_len (by rw [zh_39]; decide) (by rw [zh_39]; decide)).trans (by rw [zh_39]; rfl)
set_option maxRecDepth 20000 in
theorem zh_40 : zSH L 40 = (100, 9) := rfl
theorem zai_40 (h : 0 ≤ k) (h2 : k < 9) : zAI (zW L m) 100 40 k = some (m 40 k) := zw_ai (congrArg Prod.fst zh_40) h (by rw [zh_40]; exact h2)
theorem zsi_40 (h : 0 ≤ k) (h2 : k < 9) : zSI (zW L m) 100 40 k z = some (zW L (zup m 40 k z)) := zw_si (congrArg Prod.fst zh_40) h (by rw [zh_40]; exact h2) (by decide)
theorem zlen_40 : zLen (zW L m) 40 = some 9 := (zw_len (by rw [zh_40]; decide) (by rw [zh_40]; decide)).trans (by rw [zh_40]; rfl)
set_option maxRecDepth 20000 in
theorem zh_41 : zSH L 41 = (100, 9) := rfl
theorem zai_41 (h : 0 ≤ k) (h2 : k < 9) : zAI (zW L m) 100 41 k = some (m 41 k) := zw_ai (congrArg Prod.fst zh_41) h (by rw [zh_41]; exact h2)
theorem zsi_41 (h : 0 ≤ k) (h2 : k < 9) : zSI (zW L m) 100 41 k z = some (zW L (zup m 41 k z)) := zw_si (congrArg Prod.fst zh_41) h (by rw [zh_41]; exact h2) (by decide)
theorem zlen_41 : zLen (zW L m) 41 = some 9 := (zw_len (by rw [zh_41]; decide) (by rw [zh_41]; decide)).trans (by rw [zh_41]; rfl)
set_option maxRecDepth 20000 in
theorem zh_42 : zSH L 42 = (9, 0) := rfl
theorem zgi_42 : zGI (zW L m) 42 9 k = some (m 42 k) := zw_gi (congrArg Prod.fst zh_42)
theorem zpi_42 : zPI (zW L m) 42 9 k z = some (zW L (zup m 42 k z)) := zw_pi (congrArg Prod.fst zh_42) (by decide)
theorem zpz_42 (h : z = 0 ∨ z = 1) : zPZ (zW L m) 42 9 k z = some (zW L (zup m 42 k z)) := zw_pz (congrArg Prod.fst zh_42) (by decide) h
theorem zcv_42 {K : zmK} {y : Nat} {A : List zmV} : zcv K y 9 42 A (zW L m) = K y A (zW L m) := zw_cv (congrArg Prod.fst zh_42)
set_option maxRecDepth 20000 in
theorem zgr_42_0 : zGR (zW L m) 42 9 0 = some 43 := (zw_gr (congrArg Prod.fst zh_42)).trans rfl
set_option maxRecDepth 20000 in
theorem zgr_42_1 : zGR (zW L m) 42 9 1 = some 56 := (zw_gr (congrArg Prod.fst zh_42)).trans rfl
set_option maxRecDepth 20000 in
theorem zgr_42_2 : zGR (zW L m) 42 9 2 = some 57 := (zw_gr (congrArg Prod.fst zh_42)).trans rfl
set_option maxRecDepth 20000 in
theorem zgr_42_3 : zGR (zW L m) 42 9 3 = some 58 := (zw_gr (congrArg Prod.fst zh_42)).trans rfl
set_option maxRecDepth 20000 in
theorem zgr_42_4 : zGR (zW L m) 42 9 4 = some 60 := (zw_gr (congrArg Prod.fst zh_42)).trans rfl
set_option maxRecDepth 20000 in
theorem zh_43 : zSH L 43 = (104, 12) := rfl
set_option maxRecDepth 20000 in
theorem zar_43_0 : zAR (zW L m) 104 43 0 = some 44 := (zw_ar (congrArg Prod.fst zh_43) (by decide) (by rw [zh_43]; decide)).trans rfl
set_option maxRecDepth 20000 in
theorem zar_43_1 : zAR (zW L m) 104 43 1 = some 45 := (zw_ar (congrArg Prod.fst zh_43) (by decide) (by rw [zh_43]; decide)).trans rfl
set_option maxRecDepth 20000 in
theorem zar_43_2 : zAR (zW L m) 104 43 2 = some 46 := (zw_ar (congrArg Prod.fst zh_43) (by decide) (by rw [zh_43]; decide)).trans rfl
set_option maxRecDepth 20000 in
theorem zar_43_3 : zAR (zW L m) 104 43 3 = some 47 := (zw_ar (congrArg Prod.fst zh_43) (by decide) (by rw [zh_43]; decide)).trans rfl
set_option maxRecDepth 20000 in
theorem zar_43_4 : zAR (zW L m) 104 43 4 = some 48 := (zw_ar (congrArg Prod.fst zh_43) (by decide) (by rw [zh_43]; decide)).trans rfl
set_option maxRecDepth 20000 in
theorem zar_43_5 : zAR (zW L m) 104 43 5 = some 49 := (zw_ar (congrArg Prod.fst zh_43) (by decide) (by rw [zh_43]; decide)).trans rfl
set_option maxRecDepth 20000 in
theorem zar_43_6 : zAR (zW L m) 104 43 6 = some 50 := (zw_ar (congrArg Prod.fst zh_43) (by decide) (by rw [zh_43]; decide)).trans rfl
set_option maxRecDepth 20000 in
theorem zar_43_7 : zAR (zW L m) 104 43 7 = some 51 := (zw_ar (congrArg Prod.fst zh_43) (by decide) (by rw [zh_43]; decide)).trans rfl
set_option maxRecDepth 20000 in
theorem zar_43_8 : zAR (zW L m) 104 43 8 = some 52 := (zw_ar (congrArg Prod.fst zh_43) (by decide) (by rw [zh_43]; decide)).trans rfl
set_option maxRecDepth 20000 in
theorem zar_43_9 : zAR (zW L m) 104 43 9 = some 53 := (zw_ar (congrArg Prod.fst zh_43) (by decide) (by rw [zh_43]; decide)).trans rfl
set_option maxRecDepth 20000 in
theorem zar_43_10 : zAR (zW L m) 104 43 10 = some 54 := (zw_ar (congrArg Prod.fst zh_43) (by decide) (by rw [zh_43]; decide)).trans rfl
set_option maxRecDepth 20000 in
theorem zar_43_11 : zAR (zW L m) 104 43 11 = some 55 := (zw_ar (congrArg Prod.fst zh_43) (by decide) (by rw [zh_43]; decide)).trans rfl
theorem zlen_43 : zLen (zW L m) 43 = some 12 := (zw_len (by rw [zh_43]; decide) (by rw [zh_43]; decide)).trans (by rw [zh_43]; rfl)
set_option maxRecDepth 20000 in
theorem zh_44 : zSH L 44 = (4, 0) := rfl
theorem zgi_44 : zGI (zW L m) 44 4 k = some (m 44 k) := zw_gi (congrArg Prod.fst zh_44)
theorem zpi_44 : zPI (zW L m) 44 4 k z = some (zW L (zup m 44 k z)) := zw_pi (congrArg Prod.fst zh_44) (by decide)
theorem zpz_44 (h : z = 0 ∨ z = 1) : zPZ (zW L m) 44 4 k z = some (zW L (zup m 44 k z)) := zw_pz (congrArg Prod.fst zh_44) (by decide) h
theorem zcv_44 {K : zmK} {y : Nat} {A : List zmV} : zcv K y 4 44 A (zW L m) = K y A (zW L m) := zw_cv (congrArg Prod.fst zh_44)
set_option maxRecDepth 20000 in
theorem zh_45 : zSH L 45 = (4, 0) := rfl
theorem zgi_45 : zGI (zW L m) 45 4 k = some (m 45 k) := zw_gi (congrArg Prod.fst zh_45)
theorem zpi_45 : zPI (zW L m) 45 4 k z = some (zW L (zup m 45 k z)) := zw_pi (congrArg Prod.fst zh_45) (by decide)
theorem zpz_45 (h : z = 0 ∨ z = 1) : zPZ (zW L m) 45 4 k z = some (zW L (zup m 45 k z)) := zw_pz (congrArg Prod.fst zh_45) (by decide) h
theorem zcv_45 {K : zmK} {y : Nat} {A : List zmV} : zcv K y 4 45 A (zW L m) = K y A (zW L m) := zw_cv (congrArg Prod.fst zh_45)
set_option maxRecDepth 20000 in
theorem zh_46 : zSH L 46 = (4, 0) := rfl
theorem zgi_46 : zGI (zW L m) 46 4 k = some (m 46 k) := zw_gi (congrArg Prod.fst zh_46)
theorem zpi_46 : zPI (zW L m) 46 4 k z = some (zW L (zup m 46 k z)) := zw_pi (congrArg Prod.fst zh_46) (by decide)
theorem zpz_46 (h : z = 0 ∨ z = 1) : zPZ (zW L m) 46 4 k z = some (zW L (zup m 46 k z)) := zw_pz (congrArg Prod.fst zh_46) (by decide) h
theorem zcv_46 {K : zmK} {y : Nat} {A : List zmV} : zcv K y 4 46 A (zW L m) = K y A (zW L m) := zw_cv (congrArg Prod.fst zh_46)
set_option maxRecDepth 20000 in
theorem zh_47 : zSH L 47 = (4, 0) := rfl
theorem zgi_47 : zGI (zW L m) 47 4 k = some (m 47 k) := zw_gi (congrArg Prod.fst zh_47)
theorem zpi_47 : zPI (zW L m) 47 4 k z = some (zW L (zup m 47 k z)) := zw_pi (congrArg Prod.fst zh_47) (by decide)
theorem zpz_47 (h : z = 0 ∨ z = 1) : zPZ (zW L m) 47 4 k z = some (zW L (zup m 47 k z)) := zw_pz (congrArg Prod.fst zh_47) (by decide) h
theorem zcv_47 {K : zmK} {y : Nat} {A : List zmV} : zcv K y 4 47 A (zW L m) = K y A (zW L m) := zw_cv (congrArg Prod.fst zh_47)
set_option maxRecDepth 20000 in
theorem zh_48 : zSH L 48 = (4, 0) := rfl
theorem zgi_48 : zGI (zW L m) 48 4 k = some (m 48 k) := zw_gi (congrArg Prod.fst zh_48)
theorem zpi_48 : zPI (zW L m) 48 4 k z = some (zW L (zup m 48 k z)) := zw_pi (congrArg Prod.fst zh_48) (by decide)
theorem zpz_48 (h : z = 0 ∨ z = 1) : zPZ (zW L m) 48 4 k z = some (zW L (zup m 48 k z)) := zw_pz (congrArg Prod.fst zh_48) (by decide) h
theorem zcv_48 {K : zmK} {y : Nat} {A : List zmV} : zcv K y 4 48 A (zW L m) = K y A (zW L m) := zw_cv (congrArg Prod.fst zh_48)
set_option maxRecDepth 20000 in
theorem zh_49 : zSH L 49 = (4, 0) := rfl
theorem zgi_49 : zGI (zW L m) 49 4 k = some (m 49 k) := zw_gi (congrArg Prod.fst zh_49)
theorem zpi_49 : zPI (zW L m) 49 4 k z = some (zW L (zup m 49 k z)) := zw_pi (congrArg Prod.fst zh_49) (by decide)
theorem zpz_49 (h : z = 0 ∨ z = 1) : zPZ (zW L m) 49 4 k z = some (zW L (zup m 49 k z)) := zw_pz (congrArg Prod.fst zh_49) (by decide) h
theorem zcv_49 {K : zmK} {y : Nat} {A : List zmV} : zcv K y 4 49 A (zW L m) = K y A (zW L m) := zw_cv (congrArg Prod.fst zh_49)
set_option maxRecDepth 20000 in
theorem zh_50 : zSH L 50 = (4, 0) := rfl
theorem zgi_50 : zGI (zW L m) 50 4 k = some (m 50 k) := zw_gi (congrArg Prod.fst zh_50)
theorem zpi_50 : zPI (zW L m) 50 4 k z = some (zW L (zup m 50 k z)) := zw_pi (congrArg Prod.fst zh_50) (by decide)
theorem zpz_50 (h : z = 0 ∨ z = 1) : zPZ (zW L m) 50 4 k z = some (zW L (zup m 50 k z)) := zw_pz (congrArg Prod.fst zh_50) (by decide) h
theorem zcv_50 {K : zmK} {y : Nat} {A : List zmV} : zcv K y 4 50 A (zW L m) = K y A (zW L m) := zw_cv (congrArg Prod.fst zh_50)
set_option maxRecDepth 20000 in
theorem zh_51 : zSH L 51 = (4, 0) := rfl
theorem zgi_51 : zGI (zW L m) 51 4 k = some (m 51 k) := zw_gi (congrArg Prod.fst zh_51)
theorem zpi_51 : zPI (zW L m) 51 4 k z = some (zW L (zup m 51 k z)) := zw_pi (congrArg Prod.fst zh_51) (by decide)
theorem zpz_51 (h : z = 0 ∨ z = 1) : zPZ (zW L m) 51 4 k z = some (zW L (zup m 51 k z)) := zw_pz (congrArg Prod.fst zh_51) (by decide) h
theorem zcv_51 {K : zmK} {y : Nat} {A : List zmV} : zcv K y 4 51 A (zW L m) = K y A (zW L m) := zw_cv (congrArg Prod.fst zh_51)
set_option maxRecDepth 20000 in
theorem zh_52 : zSH L 52 = (4, 0) := rfl
theorem zgi_52 : zGI (zW L m) 52 4 k = some (m 52 k) := zw_gi (congrArg Prod.fst zh_52)
theorem zpi_52 : zPI (zW L m) 52 4 k z = some (zW L (zup m 52 k z)) := zw_pi (congrArg Prod.fst zh_52) (by decide)
theorem zpz_52 (h : z = 0 ∨ z = 1) : zPZ (zW L m) 52 4 k z = some (zW L (zup m 52 k z)) := zw_pz (congrArg Prod.fst zh_52) (by decide) h
theorem zcv_52 {K : zmK} {y : Nat} {A : List zmV} : zcv K y 4 52 A (zW L m) = K y A (zW L m) := zw_cv (congrArg Prod.fst zh_52)
set_option maxRecDepth 20000 in
theorem zh_53 : zSH L 53 = (4, 0) := rfl
theorem zgi_53 : zGI (zW L m) 53 4 k = some (m 53 k) := zw_gi (congrArg Prod.fst zh_53)
theorem zpi_53 : zPI (zW L m) 53 4 k z = some (zW L (zup m 53 k z)) := zw_pi (congrArg Prod.fst zh_53) (by decide)
theorem zpz_53 (h : z = 0 ∨ z = 1) : zPZ (zW L m) 53 4 k z = some (zW L (zup m 53 k z)) := zw_pz (congrArg Prod.fst zh_53) (by decide) h
theorem zcv_53 {K : zmK} {y : Nat} {A : List zmV} : zcv K y 4 53 A (zW L m) = K y A (zW L m) := zw_cv (congrArg Prod.fst zh_53)
set_option maxRecDepth 20000 in
theorem zh_54 : zSH L 54 = (4, 0) := rfl
theorem zgi_54 : zGI (zW L m) 54 4 k = some (m 54 k) := zw_gi (congrArg Prod.fst zh_54)
theorem zpi_54 : zPI (zW L m) 54 4 k z = some (zW L (zup m 54 k z)) := zw_pi (congrArg Prod.fst zh_54) (by decide)
theorem zpz_54 (h : z = 0 ∨ z = 1) : zPZ (zW L m) 54 4 k z = some (zW L (zup m 54 k z)) := zw_pz (congrArg Prod.fst zh_54) (by decide) h
theorem zcv_54 {K : zmK} {y : Nat} {A : List zmV} : zcv K y 4 54 A (zW L m) = K y A (zW L m) := zw_cv (congrArg Prod.fst zh_54)
set_option maxRecDepth 20000 in
theorem zh_55 : zSH L 55 = (4, 0) := rfl
theorem zgi_55 : zGI (zW L m) 55 4 k = some (m 55 k) := zw_gi (congrArg Prod.fst zh_55)
theorem zpi_55 : zPI (zW L m) 55 4 k z = some (zW L (zup m 55 k z)) := zw_pi (congrArg Prod.fst zh_55) (by decide)
theorem zpz_55 (h : z = 0 ∨ z = 1) : zPZ (zW L m) 55 4 k z = some (zW L (zup m 55 k z)) := zw_pz (congrArg Prod.fst zh_55) (by decide) h
theorem zcv_55 {K : zmK} {y : Nat} {A : List zmV} : zcv K y 4 55 A (zW L m) = K y A (zW L m) := zw_cv (congrArg Prod.fst zh_55)
set_option maxRecDepth 20000 in
theorem zh_56 : zSH L 56 = (100, 12) := rfl
theorem zai_56 (h : 0 ≤ k) (h2 : k < 12) : zAI (zW L m) 100 56 k = some (m 56 k) := zw_ai (congrArg Prod.fst zh_56) h (by rw [zh_56]; exact h2)
theorem zsi_56 (h : 0 ≤ k) (h2 : k < 12) : zSI (zW L m) 100 56 k z = some (zW L (zup m 56 k z)) := zw_si (congrArg Prod.fst zh_56) h (by rw [zh_56]; exact h2) (by decide)
theorem zlen_56 : zLen (zW L m) 56 = some 12 := (zw_len (by rw [zh_56]; decide) (by rw [zh_56]; decide)).trans (by rw [zh_56]; rfl)
set_option maxRecDepth 20000 in
theorem zh_57 : zSH L 57 = (100, 12) := rfl
theorem zai_57 (h : 0 ≤ k) (h2 : k < 12) : zAI (zW L m) 100 57 k = some (m 57 k) := zw_ai (congrArg Prod.fst zh_57) h (by rw [zh_57]; exact h2)
theorem zsi_57 (h : 0 ≤ k) (h2 : k < 12) : zSI (zW L m) 100 57 k z = some (zW L (zup m 57 k z)) := zw_si (congrArg Prod.fst zh_57) h (by rw [zh_57]; exact h2) (by decide)
theorem zlen_57 : zLen (zW L m) 57 = some 12 := (zw_len (by rw [zh_57]; decide) (by rw [zh_57]; decide)).trans (by rw [zh_57]; rfl)
set_option maxRecDepth 20000 in
theorem zh_58 : zSH L 58 = (2, 0) := rfl
theorem zgi_58 : zGI (zW L m) 58 2 k = some (m 58 k) := zw_gi (congrArg Prod.fst zh_58)
theorem zpi_58 : zPI (zW L m) 58 2 k z = some (zW L (zup m 58 k z)) := zw_pi (congrArg Prod.fst zh_58) (by decide)
theorem zpz_58 (h : z = 0 ∨ z = 1) : zPZ (zW L m) 58 2 k z = some (zW L (zup m 58 k z)) := zw_pz (congrArg Prod.fst zh_58) (by decide) h
theorem zcv_58 {K : zmK} {y : Nat} {A : List zmV} : zcv K y 2 58 A (zW L m) = K y A (zW L m) := zw_cv (congrArg Prod.fst zh_58)
set_option maxRecDepth 20000 in
theorem zgr_58_0 : zGR (zW L m) 58 2 0 = some 59 := (zw_gr (congrArg Prod.fst zh_58)).trans rfl
set_option maxRecDepth 20000 in
theorem zh_59 : zSH L 59 = (100, 64) := rfl
theorem zai_59 (h : 0 ≤ k) (h2 : k < 64) : zAI (zW L m) 100 59 k = some (m 59 k) := zw_ai (congrArg Prod.fst zh_59) h (by rw [zh_59]; exact h2)
theorem zsi_59 (h : 0 ≤ k) (h2 : k < 64) : zSI (zW L m) 100 59 k z = some (zW L (zup m 59 k z)) := zw_si (congrArg Prod.fst zh_59) h (by rw [zh_59]; exact h2) (by decide)
theorem zlen_59 : zLen (zW L m) 59 = some 64 := (zw_len (by rw [zh_59]; decide) (by rw [zh_59]; decide)).trans (by rw [zh_59]; rfl)
set_option maxRecDepth 20000 in
theorem zh_60 : zSH L 60 = (5, 0) := rfl
theorem zgi_60 : zGI (zW L m) 60 5 k = some (m 60 k) := zw_gi (congrArg Prod.fst zh_60)
theorem zpi_60 : zPI (zW L m) 60 5 k z = some (zW L (zup m 60 k z)) := zw_pi (congrArg Prod.fst zh_60) (by decide)
theorem zpz_60 (h : z = 0 ∨ z = 1) : zPZ (zW L m) 60 5 k z = some (zW L (zup m 60 k z)) := zw_pz (congrArg Prod.fst zh_60) (by decide) h
theorem zcv_60 {K : zmK} {y : Nat} {A : List zmV} : zcv K y 5 60 A (zW L m) = K y A (zW L m) := zw_cv (congrArg Prod.fst zh_60)
set_option maxRecDepth 20000 in
theorem zgr_60_0 : zGR (zW L m) 60 5 0 = some 61 := (zw_gr (congrArg Prod.fst zh_60)).trans rfl
set_option maxRecDepth 20000 in
theorem zgr_60_1 : zGR (zW L m) 60 5 1 = some 62 := (zw_gr (congrArg Prod.fst zh_60)).trans rfl
set_option maxRecDepth 20000 in
theorem zgr_60_2 : zGR (zW L m) 60 5 2 = some 63 := (zw_gr (congrArg Prod.fst zh_60)).trans rfl
set_option maxRecDepth 20000 in
theorem zh_61 : zSH L 61 = (100, 2) := rfl
theorem zai_61 (h : 0 ≤ k) (h2 : k < 2) : zAI (zW L m) 100 61 k = some (m 61 k) := zw_ai (congrArg Prod.fst zh_61) h (by rw [zh_61]; exact h2)
theorem zsi_61 (h : 0 ≤ k) (h2 : k < 2) : zSI (zW L m) 100 61 k z = some (zW L (zup m 61 k z)) := zw_si (congrArg Prod.fst zh_61) h (by rw [zh_61]; exact h2) (by decide)
theorem zlen_61 : zLen (zW L m) 61 = some 2 := (zw_len (by rw [zh_61]; decide) (by rw [zh_61]; decide)).trans (by rw [zh_61]; rfl)
set_option maxRecDepth 20000 in
theorem zh_62 : zSH L 62 = (100, 2) := rfl
theorem zai_62 (h : 0 ≤ k) (h2 : k < 2) : zAI (zW L m) 100 62 k = some (m 62 k) := zw_ai (congrArg Prod.fst zh_62) h (by rw [zh_62]; exact h2)
theorem zsi_62 (h : 0 ≤ k) (h2 : k < 2) : zSI (zW L m) 100 62 k z = some (zW L (zup m 62 k z)) := zw_si (congrArg Prod.fst zh_62) h (by rw [zh_62]; exact h2) (by decide)
theorem zlen_62 : zLen (zW L m) 62 = some 2 := (zw_len (by rw [zh_62]; decide) (by rw [zh_62]; decide)).trans (by rw [zh_62]; rfl)
set_option maxRecDepth 20000 in
theorem zh_63 : zSH L 63 = (100, 2) := rfl
theorem zai_63 (h : 0 ≤ k) (h2 : k < 2) : zAI (zW L m) 100 63 k = some (m 63 k) := zw_ai (congrArg Prod.fst zh_63) h (by rw [zh_63]; exact h2)
theorem zsi_63 (h : 0 ≤ k) (h2 : k < 2) : zSI (zW L m) 100 63 k z = some (zW L (zup m 63 k z)) := zw_si (congrArg Prod.fst zh_63) h (by rw [zh_63]; exact h2) (by decide)
theorem zlen_63 : zLen (zW L m) 63 = some 2 := (zw_len (by rw [zh_63]; decide) (by rw [zh_63]; decide)).trans (by rw [zh_63]; rfl)
set_option maxRecDepth 20000 in
theorem zh_64 : zSH L 64 = (10, 0) := rfl
theorem zgi_64 : zGI (zW L m) 64 10 k = some (m 64 k) := zw_gi (congrArg Prod.fst zh_64)
theorem zpi_64 : zPI (zW L m) 64 10 k z = some (zW L (zup m 64 k z)) := zw_pi (congrArg Prod.fst zh_64) (by decide)
theorem zpz_64 (h : z = 0 ∨ z = 1) : zPZ (zW L m) 64 10 k z = some (zW L (zup m 64 k z)) := zw_pz (congrArg Prod.fst zh_64) (by decide) h
theorem zcv_64 {K : zmK} {y : Nat} {A : List zmV} : zcv K y 10 64 A (zW L m) = K y A (zW L m) := zw_cv (congrArg Prod.fst zh_64)
set_option maxRecDepth 20000 in
theorem zgr_64_0 : zGR (zW L m) 64 10 0 = some 65 := (zw_gr (congrArg Prod.fst zh_64)).trans rfl
set_option maxRecDepth 20000 in
theorem zgr_64_1 : zGR (zW L m) 64 10 1 = some 72 := (zw_gr (congrArg Prod.fst zh_64)).trans rfl
set_option maxRecDepth 20000 in
theorem zgr_64_2 : zGR (zW L m) 64 10 2 = some 85 := (zw_gr (congrArg Prod.fst zh_64)).trans rfl
set_option maxRecDepth 20000 in
theorem zgr_64_3 : zGR (zW L m) 64 10 3 = some 86 := (zw_gr (congrArg Prod.fst zh_64)).trans rfl
set_option maxRecDepth 20000 in
theorem zgr_64_4 : zGR (zW L m) 64 10 4 = some 87 := (zw_gr (congrArg Prod.fst zh_64)).trans rfl
set_option maxRecDepth 20000 in
theorem zgr_64_5 : zGR (zW L m) 64 10 5 = some 88 := (zw_gr (congrArg Prod.fst zh_64)).trans rfl
set_option maxRecDepth 20000 in
theorem zh_65 : zSH L 65 = (105, 3) := rfl
set_option maxRecDepth 20000 in
theorem zar_65_0 : zAR (zW L m) 105 65 0 = some 66 := (zw_ar (congrArg Prod.fst zh_65) (by decide) (by rw [zh_65]; decide)).trans rfl
set_option maxRecDepth 20000 in
theorem zar_65_1 : zAR (zW L m) 105 65 1 = some 68 := (zw_ar (congrArg Prod.fst zh_65) (by decide) (by rw [zh_65]; decide)).trans rfl
set_option maxRecDepth 20000 in
theorem zar_65_2 : zAR (zW L m) 105 65 2 = some 70 := (zw_ar (congrArg Prod.fst zh_65) (by decide) (by rw [zh_65]; decide)).trans rfl
theorem zlen_65 : zLen (zW L m) 65 = some 3 := (zw_len (by rw [zh_65]; decide) (by rw [zh_65]; decide)).trans (by rw [zh_65]; rfl)
set_option maxRecDepth 20000 in
theorem zh_66 : zSH L 66 = (2, 0) := rfl
theorem zgi_66 : zGI (zW L m) 66 2 k = some (m 66 k) := zw_gi (congrArg Prod.fst zh_66)
theorem zpi_66 : zPI (zW L m) 66 2 k z = some (zW L (zup m 66 k z)) := zw_pi (congrArg Prod.fst zh_66) (by decide)
theorem zpz_66 (h : z = 0 ∨ z = 1) : zPZ (zW L m) 66 2 k z = some (zW L (zup m 66 k z)) := zw_pz (congrArg Prod.fst zh_66) (by decide) h
theorem zcv_66 {K : zmK} {y : Nat} {A : List zmV} : zcv K y 2 66 A (zW L m) = K y A (zW L m) := zw_cv (congrArg Prod.fst zh_66)
set_option maxRecDepth 20000 in
theorem zgr_66_0 : zGR (zW L m) 66 2 0 = some 67 := (zw_gr (congrArg Prod.fst zh_66)).trans rfl
set_option maxRecDepth 20000 in
theorem zh_67 : zSH L 67 = (100, 64) := rfl
theorem zai_67 (h : 0 ≤ k) (h2 : k < 64) : zAI (zW L m) 100 67 k = some (m 67 k) := zw_ai (congrArg Prod.fst zh_67) h (by rw [zh_67]; exact h2)
theorem zsi_67 (h : 0 ≤ k) (h2 : k < 64) : zSI (zW L m) 100 67 k z = some (zW L (zup m 67 k z)) := zw_si (congrArg Prod.fst zh_67) h (by rw [zh_67]; exact h2) (by decide)
theorem zlen_67 : zLen (zW L m) 67 = some 64 := (zw_len (by rw [zh_67]; decide) (by rw [zh_67]; decide)).trans (by rw [zh_67]; rfl)
set_option maxRecDepth 20000 in
theorem zh_68 : zSH L 68 = (2, 0) := rfl
theorem zgi_68 : zGI (zW L m) 68 2 k = some (m 68 k) := zw_gi (congrArg Prod.fst zh_68)
theorem zpi_68 : zPI (zW L m) 68 2 k z = some (zW L (zup m 68 k z)) := zw_pi (congrArg Prod.fst zh_68) (by decide)
theorem zpz_68 (h : z = 0 ∨ z = 1) : zPZ (zW L m) 68 2 k z = some (zW L (zup m 68 k z)) := zw_pz (congrArg Prod.fst zh_68) (by decide) h
theorem zcv_68 {K : zmK} {y : Nat} {A : List zmV} : zcv K y 2 68 A (zW L m) = K y A (zW L m) := zw_cv (congrArg Prod.fst zh_68)
set_option maxRecDepth 20000 in
theorem zgr_68_0 : zGR (zW L m) 68 2 0 = some 69 := (zw_gr (congrArg Prod.fst zh_68)).trans rfl
set_option maxRecDepth 20000 in
theorem zh_69 : zSH L 69 = (100, 64) := rfl
theorem zai_69 (h : 0 ≤ k) (h2 : k < 64) : zAI (zW L m) 100 69 k = some (m 69 k) := zw_ai (congrArg Prod.fst zh_69) h (by rw [zh_69]; exact h2)
theorem zsi_69 (h : 0 ≤ k) (h2 : k < 64) : zSI (zW L m) 100 69 k z = some (zW L (zup m 69 k z)) := zw_si (congrArg Prod.fst zh_69) h (by rw [zh_69]; exact h2) (by decide)
theorem zlen_69 : zLen (zW L m) 69 = some 64 := (zw_len (by rw [zh_69]; decide) (by rw [zh_69]; decide)).trans (by rw [zh_69]; rfl)
set_option maxRecDepth 20000 in
theorem zh_70 : zSH L 70 = (2, 0) := rfl
theorem zgi_70 : zGI (zW L m) 70 2 k = some (m 70 k) := zw_gi (congrArg Prod.fst zh_70)
theorem zpi_70 : zPI (zW L m) 70 2 k z = some (zW L (zup m 70 k z)) := zw_pi (congrArg Prod.fst zh_70) (by decide)
theorem zpz_70 (h : z = 0 ∨ z = 1) : zPZ (zW L m) 70 2 k z = some (zW L (zup m 70 k z)) := zw_pz (congrArg Prod.fst zh_70) (by decide) h
theorem zcv_70 {K : zmK} {y : Nat} {A : List zmV} : zcv K y 2 70 A (zW L m) = K y A (zW L m) := zw_cv (congrArg Prod.fst zh_70)
set_option maxRecDepth 20000 in
theorem zgr_70_0 : zGR (zW L m) 70 2 0 = some 71 := (zw_gr (congrArg Prod.fst zh_70)).trans rfl
set_option maxRecDepth 20000 in
theorem zh_71 : zSH L 71 = (100, 64) := rfl
theorem zai_71 (h : 0 ≤ k) (h2 : k < 64) : zAI (zW L m) 100 71 k = some (m 71 k) := zw_ai (congrArg Prod.fst zh_71) h (by rw [zh_71]; exact h2)
theorem zsi_71 (h : 0 ≤ k) (h2 : k < 64) : zSI (zW L m) 100 71 k z = some (zW L (zup m 71 k z)) := zw_si (congrArg Prod.fst zh_71) h (by rw [zh_71]; exact h2) (by decide)
theorem zlen_71 : zLen (zW L m) 71 = some 64 := (zw_len (by rw [zh_71]; decide) (by rw [zh_71]; decide)).trans (by rw [zh_71]; rfl)
set_option maxRecDepth 20000 in
theorem zh_72 : zSH L 72 = (106, 3) := rfl
set_option maxRecDepth 20000 in
theorem zar_72_0 : zAR (zW L m) 106 72 0 = some 73 := (zw_ar (congrArg Prod.fst zh_72) (by decide) (by rw [zh_72]; decide)).trans rfl
set_option maxRecDepth 20000 in
theorem zar_72_1 : zAR (zW L m) 106 72 1 = some 77 := (zw_ar (congrArg Prod.fst zh_72) (by decide) (by rw [zh_72]; decide)).trans rfl
set_option maxRecDepth 20000 in
theorem zar_72_2 : zAR (zW L m) 106 72 2 = some 81 := (zw_ar (congrArg Prod.fst zh_72) (by decide) (by rw [zh_72]; decide)).trans rfl
theorem zlen_72 : zLen (zW L m) 72 = some 3 := (zw_len (by rw [zh_72]; decide) (by rw [zh_72]; decide)).trans (by rw [zh_72]; rfl)
set_option maxRecDepth 20000 in
theorem zh_73 : zSH L 73 = (5, 0) := rfl
theorem zgi_73 : zGI (zW L m) 73 5 k = some (m 73 k) := zw_gi (congrArg Prod.fst zh_73)
theorem zpi_73 : zPI (zW L m) 73 5 k z = some (zW L (zup m 73 k z)) := zw_pi (congrArg Prod.fst zh_73) (by decide)
theorem zpz_73 (h : z = 0 ∨ z = 1) : zPZ (zW L m) 73 5 k z = some (zW L (zup m 73 k z)) := zw_pz (congrArg Prod.fst zh_73) (by decide) h
theorem zcv_73 {K : zmK} {y : Nat} {A : List zmV} : zcv K y 5 73 A (zW L m) = K y A (zW L m) := zw_cv (congrArg Prod.fst zh_73)
set_option maxRecDepth 20000 in
theorem zgr_73_0 : zGR (zW L m) 73 5 0 = some 74 := (zw_gr (congrArg Prod.fst zh_73)).trans rfl
set_option maxRecDepth 20000 in
theorem zgr_73_1 : zGR (zW L m) 73 5 1 = some 75 := (zw_gr (congrArg Prod.fst zh_73)).trans rfl
set_option maxRecDepth 20000 in
theorem zgr_73_2 : zGR (zW L m) 73 5 2 = some 76 := (zw_gr (congrArg Prod.fst zh_73)).trans rfl
set_option maxRecDepth 20000 in
theorem zh_74 : zSH L 74 = (100, 41) := rfl
theorem zai_74 (h : 0 ≤ k) (h2 : k < 41) : zAI (zW L m) 100 74 k = some (m 74 k) := zw_ai (congrArg Prod.fst zh_74) h (by rw [zh_74]; exact h2)
theorem zsi_74 (h : 0 ≤ k) (h2 : k < 41) : zSI (zW L m) 100 74 k z = some (zW L (zup m 74 k z)) := zw_si (congrArg Prod.fst zh_74) h (by rw [zh_74]; exact h2) (by decide)
theorem zlen_74 : zLen (zW L m) 74 = some 41 := (zw_len (by rw [zh_74]; decide) (by rw [zh_74]; decide)).trans (by rw [zh_74]; rfl)
set_option maxRecDepth 20000 in
theorem zh_75 : zSH L 75 = (100, 41) := rfl
theorem zai_75 (h : 0 ≤ k) (h2 : k < 41) : zAI (zW L m) 100 75 k = some (m 75 k) := zw_ai (congrArg Prod.fst zh_75) h (by rw [zh_75]; exact h2)
theorem zsi_75 (h : 0 ≤ k) (h2 : k < 41) : zSI (zW L m) 100 75 k z = some (zW L (zup m 75 k z)) := zw_si (congrArg Prod.fst zh_75) h (by rw [zh_75]; exact h2) (by decide)
theorem zlen_75 : zLen (zW L m) 75 = some 41 := (zw_len (by rw [zh_75]; decide) (by rw [zh_75]; decide)).trans (by rw [zh_75]; rfl)
set_option maxRecDepth 20000 in
theorem zh_76 : zSH L 76 = (100, 41) := rfl
theorem zai_76 (h : 0 ≤ k) (h2 : k < 41) : zAI (zW L m) 100 76 k = some (m 76 k) := zw_ai (congrArg Prod.fst zh_76) h (by rw [zh_76]; exact h2)
theorem zsi_76 (h : 0 ≤ k) (h2 : k < 41) : zSI (zW L m) 100 76 k z = some (zW L (zup m 76 k z)) := zw_si (congrArg Prod.fst zh_76) h (by rw [zh_76]; exact h2) (by decide)
theorem zlen_76 : zLen (zW L m) 76 = some 41 := (zw_len (by rw [zh_76]; decide) (by rw [zh_76]; decide)).trans (by rw [zh_76]; rfl)
set_option maxRecDepth 20000 in
theorem zh_77 : zSH L 77 = (5, 0) := rfl
theorem zgi_77 : zGI (zW L m) 77 5 k = some (m 77 k) := zw_gi (congrArg Prod.fst zh_77)
theorem zpi_77 : zPI (zW L m) 77 5 k z = some (zW L (zup m 77 k z)) := zw_pi (congrArg Prod.fst zh_77) (by decide)
theorem zpz_77 (h : z = 0 ∨ z = 1) : zPZ (zW L m) 77 5 k z = some (zW L (zup m 77 k z)) := zw_pz (congrArg Prod.fst zh_77) (by decide) h
theorem zcv_77 {K : zmK} {y : Nat} {A : List zmV} : zcv K y 5 77 A (zW L m) = K y A (zW L m) := zw_cv (congrArg Prod.fst zh_77)
set_option maxRecDepth 20000 in
theorem zgr_77_0 : zGR (zW L m) 77 5 0 = some 78 := (zw_gr (congrArg Prod.fst zh_77)).trans rfl
set_option maxRecDepth 20000 in
theorem zgr_77_1 : zGR (zW L m) 77 5 1 = some 79 := (zw_gr (congrArg Prod.fst zh_77)).trans rfl
set_option maxRecDepth 20000 in
theorem zgr_77_2 : zGR (zW L m) 77 5 2 = some 80 := (zw_gr (congrArg Prod.fst zh_77)).trans rfl
set_option maxRecDepth 20000 in
theorem zh_78 : zSH L 78 = (100, 41) := rfl
theorem zai_78 (h : 0 ≤ k) (h2 : k < 41) : zAI (zW L m) 100 78 k = some (m 78 k) := zw_ai (congrArg Prod.fst zh_78) h (by rw [zh_78]; exact h2)
theorem zsi_78 (h : 0 ≤ k) (h2 : k < 41) : zSI (zW L m) 100 78 k z = some (zW L (zup m 78 k z)) := zw_si (congrArg Prod.fst zh_78) h (by rw [zh_78]; exact h2) (by decide)
theorem zlen_78 : zLen (zW L m) 78 = some 41 := (zw_len (by rw [zh_78]; decide) (by rw [zh_78]; decide)).trans (by rw [zh_78]; rfl)
set_option maxRecDepth 20000 in
theorem zh_79 : zSH L 79 = (100, 41) := rfl
theorem zai_79 (h : 0 ≤ k) (h2 : k < 41) : zAI (zW L m) 100 79 k = some (m 79 k) := zw_ai (congrArg Prod.fst zh_79) h (by rw [zh_79]; exact h2)
theorem zsi_79 (h : 0 ≤ k) (h2 : k < 41) : zSI (zW L m) 100 79 k z = some (zW L (zup m 79 k z)) := zw_si (congrArg Prod.fst zh_79) h (by rw [zh_79]; exact h2) (by decide)
theorem zlen_79 : zLen (zW L m) 79 = some 41 := (zw_len (by rw [zh_79]; decide) (by rw [zh_79]; decide)).trans (by rw [zh_79]; rfl)
set_option maxRecDepth 20000 in
theorem zh_80 : zSH L 80 = (100, 41) := rfl
theorem zai_80 (h : 0 ≤ k) (h2 : k < 41) : zAI (zW L m) 100 80 k = some (m 80 k) := zw_ai (congrArg Prod.fst zh_80) h (by rw [zh_80]; exact h2)
theorem zsi_80 (h : 0 ≤ k) (h2 : k < 41) : zSI (zW L m) 100 80 k z = some (zW L (zup m 80 k z)) := zw_si (congrArg Prod.fst zh_80) h (by rw [zh_80]; exact h2) (by decide)
theorem zlen_80 : zLen (zW L m) 80 = some 41 := (zw_len (by rw [zh_80]; decide) (by rw [zh_80]; decide)).trans (by rw [zh_80]; rfl)
set_option maxRecDepth 20000 in
theorem zh_81 : zSH L 81 = (5, 0) := rfl
theorem zgi_81 : zGI (zW L m) 81 5 k = some (m 81 k) := zw_gi (congrArg Prod.fst zh_81)
theorem zpi_81 : zPI (zW L m) 81 5 k z = some (zW L (zup m 81 k z)) := zw_pi (congrArg Prod.fst zh_81) (by decide)
theorem zpz_81 (h : z = 0 ∨ z = 1) : zPZ (zW L m) 81 5 k z = some (zW L (zup m 81 k z)) := zw_pz (congrArg Prod.fst zh_81) (by decide) h
theorem zcv_81 {K : zmK} {y : Nat} {A : List zmV} : zcv K y 5 81 A (zW L m) = K y A (zW L m) := zw_cv (congrArg Prod.fst zh_81)
set_option maxRecDepth 20000 in
theorem zgr_81_0 : zGR (zW L m) 81 5 0 = some 82 := (zw_gr (congrArg Prod.fst zh_81)).trans rfl
set_option maxRecDepth 20000 in
theorem zgr_81_1 : zGR (zW L m) 81 5 1 = some 83 := (zw_gr (congrArg Prod.fst zh_81)).trans rfl
set_option maxRecDepth 20000 in
theorem zgr_81_2 : zGR (zW L m) 81 5 2 = some 84 := (zw_gr (congrArg Prod.fst zh_81)).trans rfl
set_option maxRecDepth 20000 in
theorem zh_82 : zSH L 82 = (100, 41) := rfl
theorem zai_82 (h : 0 ≤ k) (h2 : k < 41) : zAI (zW L m) 100 82 k = some (m 82 k) := zw_ai (congrArg Prod.fst zh_82) h (by rw [zh_82]; exact h2)
theorem zsi_82 (h : 0 ≤ k) (h2 : k < 41) : zSI (zW L m) 100 82 k z = some (zW L (zup m 82 k z)) := zw_si (congrArg Prod.fst zh_82) h (by rw [zh_82]; exact h2) (by decide)
theorem zlen_82 : zLen (zW L m) 82 = some 41 := (zw_len (by rw [zh_82]; decide) (by rw [zh_82]; decide)).trans (by rw [zh_82]; rfl)
set_option maxRecDepth 20000 in
theorem zh_83 : zSH L 83 = (100, 41) := rfl
theorem zai_83 (h : 0 ≤ k) (h2 : k < 41) : zAI (zW L m) 100 83 k = some (m 83 k) := zw_ai (congrArg Prod.fst zh_83) h (by rw [zh_83]; exact h2)
theorem zsi_83 (h : 0 ≤ k) (h2 : k < 41) : zSI (zW L m) 100 83 k z = some (zW L (zup m 83 k z)) := zw_si (congrArg Prod.fst zh_83) h (by rw [zh_83]; exact h2) (by decide)
theorem zlen_83 : zLen (zW L m) 83 = some 41 := (zw_len (by rw [zh_83]; decide) (by rw [zh_83]; decide)).trans (by rw [zh_83]; rfl)
set_option maxRecDepth 20000 in
theorem zh_84 : zSH L 84 = (100, 41) := rfl
theorem zai_84 (h : 0 ≤ k) (h2 : k < 41) : zAI (zW L m) 100 84 k = some (m 84 k) := zw_ai (congrArg Prod.fst zh_84) h (by rw [zh_84]; exact h2)
theorem zsi_84 (h : 0 ≤ k) (h2 : k < 41) : zSI (zW L m) 100 84 k z = some (zW L (zup m 84 k z)) := zw_si (congrArg Prod.fst zh_84) h (by rw [zh_84]; exact h2) (by decide)
theorem zlen_84 : zLen (zW L m) 84 = some 41 := (zw_len (by rw [zh_84]; decide) (by rw [zh_84]; decide)).trans (by rw [zh_84]; rfl)
set_option maxRecDepth 20000 in
theorem zh_85 : zSH L 85 = (100, 3) := rfl
theorem zai_85 (h : 0 ≤ k) (h2 : k < 3) : zAI (zW L m) 100 85 k = some (m 85 k) := zw_ai (congrArg Prod.fst zh_85) h (by rw [zh_85]; exact h2)
theorem zsi_85 (h : 0 ≤ k) (h2 : k < 3) : zSI (zW L m) 100 85 k z = some (zW L (zup m 85 k z)) := zw_si (congrArg Prod.fst zh_85) h (by rw [zh_85]; exact h2) (by decide)
theorem zlen_85 : zLen (zW L m) 85 = some 3 := (zw_len (by rw [zh_85]; decide) (by rw [zh_85]; decide)).trans (by rw [zh_85]; rfl)
set_option maxRecDepth 20000 in
theorem zh_86 : zSH L 86 = (100, 3) := rfl
theorem zai_86 (h : 0 ≤ k) (h2 : k < 3) : zAI (zW L m) 100 86 k = some (m 86 k) := zw_ai (congrArg Prod.fst zh_86) h (by rw [zh_86]; exact h2)
theorem zsi_86 (h : 0 ≤ k) (h2 : k < 3) : zSI (zW L m) 100 86 k z = some (zW L (zup m 86 k z)) := zw_si (congrArg Prod.fst zh_86) h (by rw [zh_86]; exact h2) (by decide)
theorem zlen_86 : zLen (zW L m) 86 = some 3 := (zw_len (by rw [zh_86]; decide) (by rw [zh_86]; decide)).trans (by rw [zh_86]; rfl)
set_option maxRecDepth 20000 in
theorem zh_87 : zSH L 87 = (100, 3) := rfl
theorem zai_87 (h : 0 ≤ k) (h2 : k < 3) : zAI (zW L m) 100 87 k = some (m 87 k) := zw_ai (congrArg Prod.fst zh_87) h (by rw [zh_87]; exact h2)
theorem zsi_87 (h : 0 ≤ k) (h2 : k < 3) : zSI (zW L m) 100 87 k z = some (zW L (zup m 87 k z)) := zw_si (congrArg Prod.fst zh_87) h (by rw [zh_87]; exact h2) (by decide)
theorem zlen_87 : zLen (zW L m) 87 = some 3 := (zw_len (by rw [zh_87]; decide) (by rw [zh_87]; decide)).trans (by rw [zh_87]; rfl)
set_option maxRecDepth 20000 in
theorem zh_88 : zSH L 88 = (101, 192) := rfl
theorem zai_88 (h : 0 ≤ k) (h2 : k < 192) : zAI (zW L m) 101 88 k = some (m 88 k) := zw_ai (congrArg Prod.fst zh_88) h (by rw [zh_88]; exact h2)
theorem zsi_88 (h : 0 ≤ k) (h2 : k < 192) : zSI (zW L m) 101 88 k z = some (zW L (zup m 88 k z)) := zw_si (congrArg Prod.fst zh_88) h (by rw [zh_88]; exact h2) (by decide)
theorem zlen_88 : zLen (zW L m) 88 = some 192 := (zw_len (by rw [zh_88]; decide) (by rw [zh_88]; decide)).trans (by rw [zh_88]; rfl)
set_option maxRecDepth 20000 in
theorem zh_89 : zSH L 89 = (107, 4) := rfl
set_option maxRecDepth 20000 in
theorem zar_89_0 : zAR (zW L m) 107 89 0 = some 90 := (zw_ar (congrArg Prod.fst zh_89) (by decide) (by rw [zh_89]; decide)).trans rfl
set_option maxRecDepth 20000 in
theorem zar_89_1 : zAR (zW L m) 107 89 1 = some 92 := (zw_ar (congrArg Prod.fst zh_89) (by decide) (by rw [zh_89]; decide)).trans rfl
set_option maxRecDepth 20000 in
theorem zar_89_2 : zAR (zW L m) 107 89 2 = some 94 := (zw_ar (congrArg Prod.fst zh_89) (by decide) (by rw [zh_89]; decide)).trans rfl
set_option maxRecDepth 20000 in
theorem zar_89_3 : zAR (zW L m) 107 89 3 = some 96 := (zw_ar (congrArg Prod.fst zh_89) (by decide) (by rw [zh_89]; decide)).trans rfl
theorem zlen_89 : zLen (zW L m) 89 = some 4 := (zw_len (by rw [zh_89]; decide) (by rw [zh_89]; decide)).trans (by rw [zh_89]; rfl)
set_option maxRecDepth 20000 in
theorem zh_90 : zSH L 90 = (11, 0) := rfl
theorem zgi_90 : zGI (zW L m) 90 11 k = some (m 90 k) := zw_gi (congrArg Prod.fst zh_90)
theorem zpi_90 : zPI (zW L m) 90 11 k z = some (zW L (zup m 90 k z)) := zw_pi (congrArg Prod.fst zh_90) (by decide)
theorem zpz_90 (h : z = 0 ∨ z = 1) : zPZ (zW L m) 90 11 k z = some (zW L (zup m 90 k z)) := zw_pz (congrArg Prod.fst zh_90) (by decide) h
theorem zcv_90 {K : zmK} {y : Nat} {A : List zmV} : zcv K y 11 90 A (zW L m) = K y A (zW L m) := zw_cv (congrArg Prod.fst zh_90)
set_option maxRecDepth 20000 in
theorem zgr_90_0 : zGR (zW L m) 90 11 0 = some 91 := (zw_gr (congrArg Prod.fst zh_90)).trans rfl
set_option maxRecDepth 20000 in
theorem zh_91 : zSH L 91 = (100, 60) := rfl
theorem zai_91 (h : 0 ≤ k) (h2 : k < 60) : zAI (zW L m) 100 91 k = some (m 91 k) := zw_ai (congrArg Prod.fst zh_91) h (by rw [zh_91]; exact h2)
theorem zsi_91 (h : 0 ≤ k) (h2 : k < 60) : zSI (zW L m) 100 91 k z = some (zW L (zup m 91 k z)) := zw_si (congrArg Prod.fst zh_91) h (by rw [zh_91]; exact h2) (by decide)
theorem zlen_91 : zLen (zW L m) 91 = some 60 := (zw_len (by rw [zh_91]; decide) (by rw [zh_91]; decide)).trans (by rw [zh_91]; rfl)
set_option maxRecDepth 20000 in
theorem zh_92 : zSH L 92 = (11, 0) := rfl
theorem zgi_92 : zGI (zW L m) 92 11 k = some (m 92 k) := zw_gi (congrArg Prod.fst zh_92)
theorem zpi_92 : zPI (zW L m) 92 11 k z = some (zW L (zup m 92 k z)) := zw_pi (congrArg Prod.fst zh_92) (by decide)
theorem zpz_92 (h : z = 0 ∨ z = 1) : zPZ (zW L m) 92 11 k z = some (zW L (zup m 92 k z)) := zw_pz (congrArg Prod.fst zh_92) (by decide) h
theorem zcv_92 {K : zmK} {y : Nat} {A : List zmV} : zcv K y 11 92 A (zW L m) = K y A (zW L m) := zw_cv (congrArg Prod.fst zh_92)
set_option maxRecDepth 20000 in
theorem zgr_92_0 : zGR (zW L m) 92 11 0 = some 93 := (zw_gr (congrArg Prod.fst zh_92)).trans rfl
set_option maxRecDepth 20000 in
theorem zh_93 : zSH L 93 = (100, 60) := rfl
theorem zai_93 (h : 0 ≤ k) (h2 : k < 60) : zAI (zW L m) 100 93 k = some (m 93 k) := zw_ai (congrArg Prod.fst zh_93) h (by rw [zh_93]; exact h2)
theorem zsi_93 (h : 0 ≤ k) (h2 : k < 60) : zSI (zW L m) 100 93 k z = some (zW L (zup m 93 k z)) := zw_si (congrArg Prod.fst zh_93) h (by rw [zh_93]; exact h2) (by decide)
theorem zlen_93 : zLen (zW L m) 93 = some 60 := (zw_len (by rw [zh_93]; decide) (by rw [zh_93]; decide)).trans (by rw [zh_93]; rfl)
set_option maxRecDepth 20000 in
theorem zh_94 : zSH L 94 = (11, 0) := rfl
theorem zgi_94 : zGI (zW L m) 94 11 k = some (m 94 k) := zw_gi (congrArg Prod.fst zh_94)
theorem zpi_94 : zPI (zW L m) 94 11 k z = some (zW L (zup m 94 k z)) := zw_pi (congrArg Prod.fst zh_94) (by decide)
theorem zpz_94 (h : z = 0 ∨ z = 1) : zPZ (zW L m) 94 11 k z = some (zW L (zup m 94 k z)) := zw_pz (congrArg Prod.fst zh_94) (by decide) h
theorem zcv_94 {K : zmK} {y : Nat} {A : List zmV} : zcv K y 11 94 A (zW L m) = K y A (zW L m) := zw_cv (congrArg Prod.fst zh_94)
set_option maxRecDepth 20000 in
theorem zgr_94_0 : zGR (zW L m) 94 11 0 = some 95 := (zw_gr (congrArg Prod.fst zh_94)).trans rfl
set_option maxRecDepth 20000 in
theorem zh_95 : zSH L 95 = (100, 60) := rfl
theorem zai_95 (h : 0 ≤ k) (h2 : k < 60) : zAI (zW L m) 100 95 k = some (m 95 k) := zw_ai (congrArg Prod.fst zh_95) h (by rw [zh_95]; exact h2)
theorem zsi_95 (h : 0 ≤ k) (h2 : k < 60) : zSI (zW L m) 100 95 k z = some (zW L (zup m 95 k z)) := zw_si (congrArg Prod.fst zh_95) h (by rw [zh_95]; exact h2) (by decide)
theorem zlen_95 : zLen (zW L m) 95 = some 60 := (zw_len (by rw [zh_95]; decide) (by rw [zh_95]; decide)).trans (by rw [zh_95]; rfl)
set_option maxRecDepth 20000 in
theorem zh_96 : zSH L 96 = (11, 0) := rfl
theorem zgi_96 : zGI (zW L m) 96 11 k = some (m 96 k) := zw_gi (congrArg Prod.fst zh_96)
theorem zpi_96 : zPI (zW L m) 96 11 k z = some (zW L (zup m 96 k z)) := zw_pi (congrArg Prod.fst zh_96) (by decide)
theorem zpz_96 (h : z = 0 ∨ z = 1) : zPZ (zW L m) 96 11 k z = some (zW L (zup m 96 k z)) := zw_pz (congrArg Prod.fst zh_96) (by decide) h
theorem zcv_96 {K : zmK} {y : Nat} {A : List zmV} : zcv K y 11 96 A (zW L m) = K y A (zW L m) := zw_cv (congrArg Prod.fst zh_96)
set_option maxRecDepth 20000 in
theorem zgr_96_0 : zGR (zW L m) 96 11 0 = some 97 := (zw_gr (congrArg Prod.fst zh_96)).trans rfl
set_option maxRecDepth 20000 in
theorem zh_97 : zSH L 97 = (100, 60) := rfl
theorem zai_97 (h : 0 ≤ k) (h2 : k < 60) : zAI (zW L m) 100 97 k = some (m 97 k) := zw_ai (congrArg Prod.fst zh_97) h (by rw [zh_97]; exact h2)
theorem zsi_97 (h : 0 ≤ k) (h2 : k < 60) : zSI (zW L m) 100 97 k z = some (zW L (zup m 97 k z)) := zw_si (congrArg Prod.fst zh_97) h (by rw [zh_97]; exact h2) (by decide)
theorem zlen_97 : zLen (zW L m) 97 = some 60 := (zw_len (by rw [zh_97]; decide) (by rw [zh_97]; decide)).trans (by rw [zh_97]; rfl)
set_option maxRecDepth 20000 in
theorem zh_98 : zSH L 98 = (12, 0) := rfl
theorem zgi_98 : zGI (zW L m) 98 12 k = some (m 98 k) := zw_gi (congrArg Prod.fst zh_98)
theorem zpi_98 : zPI (zW L m) 98 12 k z = some (zW L (zup m 98 k z)) := zw_pi (congrArg Prod.fst zh_98) (by decide)
theorem zpz_98 (h : z = 0 ∨ z = 1) : zPZ (zW L m) 98 12 k z = some (zW L (zup m 98 k z)) := zw_pz (congrArg Prod.fst zh_98) (by decide) h
theorem zcv_98 {K : zmK} {y : Nat} {A : List zmV} : zcv K y 12 98 A (zW L m) = K y A (zW L m) := zw_cv (congrArg Prod.fst zh_98)
set_option maxRecDepth 20000 in
theorem zgr_98_0 : zGR (zW L m) 98 12 0 = some 99 := (zw_gr (congrArg Prod.fst zh_98)).trans rfl
set_option maxRecDepth 20000 in
theorem zgr_98_1 : zGR (zW L m) 98 12 1 = some 100 := (zw_gr (congrArg Prod.fst zh_98)).trans rfl
set_option maxRecDepth 20000 in
theorem zgr_98_2 : zGR (zW L m) 98 12 2 = some 101 := (zw_gr (congrArg Prod.fst zh_98)).trans rfl
set_option maxRecDepth 20000 in
theorem zgr_98_3 : zGR (zW L m) 98 12 3 = some 102 := (zw_gr (congrArg Prod.fst zh_98)).trans rfl
set_option maxRecDepth 20000 in
theorem zgr_98_5 : zGR (zW L m) 98 12 5 = some 103 := (zw_gr (congrArg Prod.fst zh_98)).trans rfl
set_option maxRecDepth 20000 in
theorem zgr_98_6 : zGR (zW L m) 98 12 6 = some 104 := (zw_gr (congrArg Prod.fst zh_98)).trans rfl
set_option maxRecDepth 20000 in
theorem zgr_98_8 : zGR (zW L m) 98 12 8 = some 105 := (zw_gr (congrArg Prod.fst zh_98)).trans rfl
set_option maxRecDepth 20000 in
theorem zgr_98_9 : zGR (zW L m) 98 12 9 = some 106 := (zw_gr (congrArg Prod.fst zh_98)).trans rfl
set_option maxRecDepth 20000 in
theorem zgr_98_11 : zGR (zW L m) 98 12 11 = some 107 := (zw_gr (congrArg Prod.fst zh_98)).trans rfl
set_option maxRecDepth 20000 in
theorem zgr_98_12 : zGR (zW L m) 98 12 12 = some 108 := (zw_gr (congrArg Prod.fst zh_98)).trans rfl
set_option maxRecDepth 20000 in
theorem zgr_98_18 : zGR (zW L m) 98 12 18 = some 109 := (zw_gr (congrArg Prod.fst zh_98)).trans rfl
set_option maxRecDepth 20000 in
theorem zgr_98_20 : zGR (zW L m) 98 12 20 = some 110 := (zw_gr (congrArg Prod.fst zh_98)).trans rfl
set_option maxRecDepth 20000 in
theorem zgr_98_22 : zGR (zW L m) 98 12 22 = some 111 := (zw_gr (congrArg Prod.fst zh_98)).trans rfl
set_option maxRecDepth 20000 in
theorem zgr_98_23 : zGR (zW L m) 98 12 23 = some 112 := (zw_gr (congrArg Prod.fst zh_98)).trans rfl
set_option maxRecDepth 20000 in
theorem zgr_98_26 : zGR (zW L m) 98 12 26 = some 113 := (zw_gr (congrArg Prod.fst zh_98)).trans rfl
set_option maxRecDepth 20000 in
theorem zgr_98_28 : zGR (zW L m) 98 12 28 = some 114 := (zw_gr (congrArg Prod.fst zh_98)).trans rfl
set_option maxRecDepth 20000 in
theorem zgr_98_29 : zGR (zW L m) 98 12 29 = some 115 := (zw_gr (congrArg Prod.fst zh_98)).trans rfl
set_option maxRecDepth 20000 in
theorem zgr_98_35 : zGR (zW L m) 98 12 35 = some 116 := (zw_gr (congrArg Prod.fst zh_98)).trans rfl
set_option maxRecDepth 20000 in
theorem zgr_98_36 : zGR (zW L m) 98 12 36 = some 117 := (zw_gr (congrArg Prod.fst zh_98)).trans rfl
set_option maxRecDepth 20000 in
theorem zh_99 : zSH L 99 = (100, 4) := rfl
theorem zai_99 (h : 0 ≤ k) (h2 : k < 4) : zAI (zW L m) 100 99 k = some (m 99 k) := zw_ai (congrArg Prod.fst zh_99) h (by rw [zh_99]; exact h2)
theorem zsi_99 (h : 0 ≤ k) (h2 : k < 4) : zSI (zW L m) 100 99 k z = some (zW L (zup m 99 k z)) := zw_si (congrArg Prod.fst zh_99) h (by rw [zh_99]; exact h2) (by decide)
theorem zlen_99 : zLen (zW L m) 99 = some 4 := (zw_len (by rw [zh_99]; decide) (by rw [zh_99]; decide)).trans (by rw [zh_99]; rfl)
set_option maxRecDepth 20000 in
theorem zh_100 : zSH L 100 = (100, 4) := rfl
theorem zai_100 (h : 0 ≤ k) (h2 : k < 4) : zAI (zW L m) 100 100 k = some (m 100 k) := zw_ai (congrArg Prod.fst zh_100) h (by rw [zh_100]; exact h2)
theorem zsi_100 (h : 0 ≤ k) (h2 : k < 4) : zSI (zW L m) 100 100 k z = some (zW L (zup m 100 k z)) := zw_si (congrArg Prod.fst zh_100) h (by rw [zh_100]; exact h2) (by decide)
theorem zlen_100 : zLen (zW L m) 100 = some 4 := (zw_len (by rw [zh_100]; decide) (by rw [zh_100]; decide)).trans (by rw [zh_100]; rfl)
set_option maxRecDepth 20000 in
theorem zh_101 : zSH L 101 = (100, 240) := rfl
theorem zai_101 (h : 0 ≤ k) (h2 : k < 240) : zAI (zW L m) 100 101 k = some (m 101 k) := zw_ai (congrArg Prod.fst zh_101) h (by rw [zh_101]; exact h2)
theorem zsi_101 (h : 0 ≤ k) (h2 : k < 240) : zSI (zW L m) 100 101 k z = some (zW L (zup m 101 k z)) := zw_si (congrArg Prod.fst zh_101) h (by rw [zh_101]; exact h2) (by decide)
theorem zlen_101 : zLen (zW L m) 101 = some 240 := (zw_len (by rw [zh_101]; decide) (by rw [zh_101]; decide)).trans (by rw [zh_101]; rfl)
set_option maxRecDepth 20000 in
theorem zh_102 : zSH L 102 = (100, 60) := rfl
theorem zai_102 (h : 0 ≤ k) (h2 : k < 60) : zAI (zW L m) 100 102 k = some (m 102 k) := zw_ai (congrArg Prod.fst zh_102) h (by rw [zh_102]; exact h2)
theorem zsi_102 (h : 0 ≤ k) (h2 : k < 60) : zSI (zW L m) 100 102 k z = some (zW L (zup m 102 k z)) := zw_si (congrArg Prod.fst zh_102) h (by rw [zh_102]; exact h2) (by decide)
theorem zlen_102 : zLen (zW L m) 102 = some 60 := (zw_len (by rw [zh_102]; decide) (by rw [zh_102]; decide)).trans (by rw [zh_102]; rfl)
set_option maxRecDepth 20000 in
theorem zh_103 : zSH L 103 = (100, 150) := rfl
theorem zai_103 (h : 0 ≤ k) (h2 : k < 150) : zAI (zW L m) 100 103 k = some (m 103 k) := zw_ai (congrArg Prod.fst zh_103) h (by rw [zh_103]; exact h2)
theorem zsi_103 (h : 0 ≤ k) (h2 : k < 150) : zSI (zW L m) 100 103 k z = some (zW L (zup m 103 k z)) := zw_si (congrArg Prod.fst zh_103) h (by rw [zh_103]; exact h2) (by decide)
theorem zlen_103 : zLen (zW L m) 103 = some 150 := (zw_len (by rw [zh_103]; decide) (by rw [zh_103]; decide)).trans (by rw [zh_103]; rfl)
set_option maxRecDepth 20000 in
theorem zh_104 : zSH L 104 = (100, 3) := rfl
theorem zai_104 (h : 0 ≤ k) (h2 : k < 3) : zAI (zW L m) 100 104 k = some (m 104 k) := zw_ai (congrArg Prod.fst zh_104) h (by rw [zh_104]; exact h2)
theorem zsi_104 (h : 0 ≤ k) (h2 : k < 3) : zSI (zW L m) 100 104 k z = some (zW L (zup m 104 k z)) := zw_si (congrArg Prod.fst zh_104) h (by rw [zh_104]; exact h2) (by decide)
theorem zlen_104 : zLen (zW L m) 104 = some 3 := (zw_len (by rw [zh_104]; decide) (by rw [zh_104]; decide)).trans (by rw [zh_104]; rfl)
set_option maxRecDepth 20000 in
theorem zh_105 : zSH L 105 = (100, 256) := rfl
theorem zai_105 (h : 0 ≤ k) (h2 : k < 256) : zAI (zW L m) 100 105 k = some (m 105 k) := zw_ai (congrArg Prod.fst zh_105) h (by rw [zh_105]; exact h2)
theorem zsi_105 (h : 0 ≤ k) (h2 : k < 256) : zSI (zW L m) 100 105 k z = some (zW L (zup m 105 k z)) := zw_si (congrArg Prod.fst zh_105) h (by rw [zh_105]; exact h2) (by decide)
theorem zlen_105 : zLen (zW L m) 105 = some 256 := (zw_len (by rw [zh_105]; decide) (by rw [zh_105]; decide)).trans (by rw [zh_105]; rfl)
set_option maxRecDepth 20000 in
theorem zh_106 : zSH L 106 = (100, 4) := rfl
theorem zai_106 (h : 0 ≤ k) (h2 : k < 4) : zAI (zW L m) 100 106 k = some (m 106 k) := zw_ai (congrArg Prod.fst zh_106) h (by rw [zh_106]; exact h2)
theorem zsi_106 (h : 0 ≤ k) (h2 : k < 4) : zSI (zW L m) 100 106 k z = some (zW L (zup m 106 k z)) := zw_si (congrArg Prod.fst zh_106) h (by rw [zh_106]; exact h2) (by decide)
theorem zlen_106 : zLen (zW L m) 106 = some 4 := (zw_len (by rw [zh_106]; decide) (by rw [zh_106]; decide)).trans (by rw [zh_106]; rfl)
set_option maxRecDepth 20000 in
theorem zh_107 : zSH L 107 = (100, 2048) := rfl
theorem zai_107 (h : 0 ≤ k) (h2 : k < 2048) : zAI (zW L m) 100 107 k = some (m 107 k) := zw_ai (congrArg Prod.fst zh_107) h (by rw [zh_107]; exact h2)
theorem zsi_107 (h : 0 ≤ k) (h2 : k < 2048) : zSI (zW L m) 100 107 k z = some (zW L (zup m 107 k z)) := zw_si (congrArg Prod.fst zh_107) h (by rw [zh_107]; exact h2) (by decide)
theorem zlen_107 : zLen (zW L m) 107 = some 2048 := (zw_len (by rw [zh_107]; decide) (by rw [zh_107]; decide)).trans (by rw [zh_107]; rfl)
set_option maxRecDepth 20000 in
theorem zh_108 : zSH L 108 = (100, 4) := rfl
theorem zai_108 (h : 0 ≤ k) (h2 : k < 4) : zAI (zW L m) 100 108 k = some (m 108 k) := zw_ai (congrArg Prod.fst zh_108) h (by rw [zh_108]; exact h2)
theorem zsi_108 (h : 0 ≤ k) (h2 : k < 4) : zSI (zW L m) 100 108 k z = some (zW L (zup m 108 k z)) := zw_si (congrArg Prod.fst zh_108) h (by rw [zh_108]; exact h2) (by decide)
theorem zlen_108 : zLen (zW L m) 108 = some 4 := (zw_len (by rw [zh_108]; decide) (by rw [zh_108]; decide)).trans (by rw [zh_108]; rfl)
set_option maxRecDepth 20000 in
theorem zh_109 : zSH L 109 = (100, 5) := rfl
theorem zai_109 (h : 0 ≤ k) (h2 : k < 5) : zAI (zW L m) 100 109 k = some (m 109 k) := zw_ai (congrArg Prod.fst zh_109) h (by rw [zh_109]; exact h2)
theorem zsi_109 (h : 0 ≤ k) (h2 : k < 5) : zSI (zW L m) 100 109 k z = some (zW L (zup m 109 k z)) := zw_si (congrArg Prod.fst zh_109) h (by rw [zh_109]; exact h2) (by decide)
theorem zlen_109 : zLen (zW L m) 109 = some 5 := (zw_len (by rw [zh_109]; decide) (by rw [zh_109]; decide)).trans (by rw [zh_109]; rfl)
set_option maxRecDepth 20000 in
theorem zh_110 : zSH L 110 = (100, 5) := rfl
theorem zai_110 (h : 0 ≤ k) (h2 : k < 5) : zAI (zW L m) 100 110 k = some (m 110 k) := zw_ai (congrArg Prod.fst zh_110) h (by rw [zh_110]; exact h2)
theorem zsi_110 (h : 0 ≤ k) (h2 : k < 5) : zSI (zW L m) 100 110 k z = some (zW L (zup m 110 k z)) := zw_si (congrArg Prod.fst zh_110) h (by rw [zh_110]; exact h2) (by decide)
theorem zlen_110 : zLen (zW L m) 110 = some 5 := (zw_len (by rw [zh_110]; decide) (by rw [zh_110]; decide)).trans (by rw [zh_110]; rfl)
set_option maxRecDepth 20000 in
theorem zh_111 : zSH L 111 = (100, 6) := rfl
theorem zai_111 (h : 0 ≤ k) (h2 : k < 6) : zAI (zW L m) 100 111 k = some (m 111 k) := zw_ai (congrArg Prod.fst zh_111) h (by rw [zh_111]; exact h2)
theorem zsi_111 (h : 0 ≤ k) (h2 : k < 6) : zSI (zW L m) 100 111 k z = some (zW L (zup m 111 k z)) := zw_si (congrArg Prod.fst zh_111) h (by rw [zh_111]; exact h2) (by decide)
theorem zlen_111 : zLen (zW L m) 111 = some 6 := (zw_len (by rw [zh_111]; decide) (by rw [zh_111]; decide)).trans (by rw [zh_111]; rfl)
set_option maxRecDepth 20000 in
theorem zh_112 : zSH L 112 = (100, 600) := rfl
theorem zai_112 (h : 0 ≤ k) (h2 : k < 600) : zAI (zW L m) 100 112 k = some (m 112 k) := zw_ai (congrArg Prod.fst zh_112) h (by rw [zh_112]; exact h2)
theorem zsi_112 (h : 0 ≤ k) (h2 : k < 600) : zSI (zW L m) 100 112 k z = some (zW L (zup m 112 k z)) := zw_si (congrArg Prod.fst zh_112) h (by rw [zh_112]; exact h2) (by decide)
theorem zlen_112 : zLen (zW L m) 112 = some 600 := (zw_len (by rw [zh_112]; decide) (by rw [zh_112]; decide)).trans (by rw [zh_112]; rfl)
set_option maxRecDepth 20000 in
theorem zh_113 : zSH L 113 = (100, 512) := rfl
theorem zai_113 (h : 0 ≤ k) (h2 : k < 512) : zAI (zW L m) 100 113 k = some (m 113 k) := zw_ai (congrArg Prod.fst zh_113) h (by rw [zh_113]; exact h2)
theorem zsi_113 (h : 0 ≤ k) (h2 : k < 512) : zSI (zW L m) 100 113 k z = some (zW L (zup m 113 k z)) := zw_si (congrArg Prod.fst zh_113) h (by rw [zh_113]; exact h2) (by decide)
theorem zlen_113 : zLen (zW L m) 113 = some 512 := (zw_len (by rw [zh_113]; decide) (by rw [zh_113]; decide)).trans (by rw [zh_113]; rfl)
set_option maxRecDepth 20000 in
theorem zh_114 : zSH L 114 = (100, 13) := rfl
theorem zai_114 (h : 0 ≤ k) (h2 : k < 13) : zAI (zW L m) 100 114 k = some (m 114 k) := zw_ai (congrArg Prod.fst zh_114) h (by rw [zh_114]; exact h2)
theorem zsi_114 (h : 0 ≤ k) (h2 : k < 13) : zSI (zW L m) 100 114 k z = some (zW L (zup m 114 k z)) := zw_si (congrArg Prod.fst zh_114) h (by rw [zh_114]; exact h2) (by decide)
theorem zlen_114 : zLen (zW L m) 114 = some 13 := (zw_len (by rw [zh_114]; decide) (by rw [zh_114]; decide)).trans (by rw [zh_114]; rfl)
set_option maxRecDepth 20000 in
theorem zh_115 : zSH L 115 = (100, 12) := rfl
theorem zai_115 (h : 0 ≤ k) (h2 : k < 12) : zAI (zW L m) 100 115 k = some (m 115 k) := zw_ai (congrArg Prod.fst zh_115) h (by rw [zh_115]; exact h2)
theorem zsi_115 (h : 0 ≤ k) (h2 : k < 12) : zSI (zW L m) 100 115 k z = some (zW L (zup m 115 k z)) := zw_si (congrArg Prod.fst zh_115) h (by rw [zh_115]; exact h2) (by decide)
theorem zlen_115 : zLen (zW L m) 115 = some 12 := (zw_len (by rw [zh_115]; decide) (by rw [zh_115]; decide)).trans (by rw [zh_115]; rfl)
set_option maxRecDepth 20000 in
theorem zh_116 : zSH L 116 = (100, 3) := rfl
theorem zai_116 (h : 0 ≤ k) (h2 : k < 3) : zAI (zW L m) 100 116 k = some (m 116 k) := zw_ai (congrArg Prod.fst zh_116) h (by rw [zh_116]; exact h2)
theorem zsi_116 (h : 0 ≤ k) (h2 : k < 3) : zSI (zW L m) 100 116 k z = some (zW L (zup m 116 k z)) := zw_si (congrArg Prod.fst zh_116) h (by rw [zh_116]; exact h2) (by decide)
theorem zlen_116 : zLen (zW L m) 116 = some 3 := (zw_len (by rw [zh_116]; decide) (by rw [zh_116]; decide)).trans (by rw [zh_116]; rfl)
set_option maxRecDepth 20000 in
theorem zh_117 : zSH L 117 = (102, 12288) := rfl
theorem zai_117 (h : 0 ≤ k) (h2 : k < 12288) : zAI (zW L m) 102 117 k = some (m 117 k) := zw_ai (congrArg Prod.fst zh_117) h (by rw [zh_117]; exact h2)
theorem zsz_117 (h : 0 ≤ k) (h2 : k < 12288) (h3 : z = 0 ∨ z = 1) : zSZ (zW L m) 102 117 k z = some (zW L (zup m 117 k z)) := zw_sz (congrArg Prod.fst zh_117) h (by rw [zh_117]; exact h2) (by decide) h3
theorem zlen_117 : zLen (zW L m) 117 = some 12288 := (zw_len (by rw [zh_117]; decide) (by rw [zh_117]; decide)).trans (by rw [zh_117]; rfl)
set_option maxRecDepth 20000 in
theorem zhx_0 : zSH L (zXB + 0) = (100, 8) := rfl
set_option maxRecDepth 20000 in
theorem zhx_1 : zSH L (zXB + 1) = (100, 8) := rfl
set_option maxRecDepth 20000 in
theorem zhx_2 : zSH L (zXB + 2) = (100, 8) := rfl
set_option maxRecDepth 20000 in
theorem zhx_3 : zSH L (zXB + 3) = (100, 8) := rfl
set_option maxRecDepth 20000 in
theorem zhx_4 : zSH L (zXB + 4) = (100, 11) := rfl
end ZCELL
