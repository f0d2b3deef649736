theorem tb_chg_2 : ∀ a, a < 2 → ∀ x, x < 2 → chg 2 a x < NN 2 := by decide +kernel
theorem tb_chg_3 : ∀ a, a < 6 → ∀ x, x < 3 → chg 3 a x < NN 3 := by decide +kernel
theorem tb_chg_4 : ∀ a, a < 24 → ∀ x, x < 4 → chg 4 a x < NN 4 := by decide +kernel
theorem tb_chg_5 : ∀ a, a < 120 → ∀ x, x < 5 → chg 5 a x < NN 5 := by decide +kernel
theorem tb_chg_60 : ∀ a, a < 120 → ∀ x, x < 6 → chg 6 a x < NN 6 := by decide +kernel
theorem tb_chg_61 : ∀ a, a < 120 → ∀ x, x < 6 → chg 6 (120 + a) x < NN 6 := by decide +kernel
theorem tb_chg_62 : ∀ a, a < 120 → ∀ x, x < 6 → chg 6 (240 + a) x < NN 6 := by decide +kernel
theorem tb_chg_63 : ∀ a, a < 120 → ∀ x, x < 6 → chg 6 (360 + a) x < NN 6 := by decide +kernel
theorem tb_chg_64 : ∀ a, a < 120 → ∀ x, x < 6 → chg 6 (480 + a) x < NN 6 := by decide +kernel
theorem tb_chg_65 : ∀ a, a < 120 → ∀ x, x < 6 → chg 6 (600 + a) x < NN 6 := by decide +kernel
theorem tb_chg : ∀ n a, a < NN n → ∀ x, x < n → chg n a x < NN n := tb_all (P := fun n a => ∀ x, x < n → chg n a x < NN n) tb_chg_2 tb_chg_3 tb_chg_4 tb_chg_5 tb_chg_60 tb_chg_61 tb_chg_62 tb_chg_63 tb_chg_64 tb_chg_65
theorem tb_swapped_2 : ∀ a, a < 2 → ∀ x, x < 2 → f_X4_swapped (nI (rw_ 2 a)) (nI x) (nI (aft 2 x)) = some (nI (rw_ 2 (chg 2 a x))) := by decide +kernel
theorem tb_swapped_3 : ∀ a, a < 6 → ∀ x, x < 3 → f_X4_swapped (nI (rw_ 3 a)) (nI x) (nI (aft 3 x)) = some (nI (rw_ 3 (chg 3 a x))) := by decide +kernel
theorem tb_swapped_4 : ∀ a, a < 24 → ∀ x, x < 4 → f_X4_swapped (nI (rw_ 4 a)) (nI x) (nI (aft 4 x)) = some (nI (rw_ 4 (chg 4 a x))) := by decide +kernel
theorem tb_swapped_5 : ∀ a, a < 120 → ∀ x, x < 5 → f_X4_swapped (nI (rw_ 5 a)) (nI x) (nI (aft 5 x)) = some (nI (rw_ 5 (chg 5 a x))) := by decide +kernel
theorem tb_swapped_60 : ∀ a, a < 120 → ∀ x, x < 6 → f_X4_swapped (nI (rw_ 6 a)) (nI x) (nI (aft 6 x)) = some (nI (rw_ 6 (chg 6 a x))) := by decide +kernel
theorem tb_swapped_61 : ∀ a, a < 120 → ∀ x, x < 6 → f_X4_swapped (nI (rw_ 6 (120 + a))) (nI x) (nI (aft 6 x)) = some (nI (rw_ 6 (chg 6 (120 + a) x))) := by decide +kernel
theorem tb_swapped_62 : ∀ a, a < 120 → ∀ x, x < 6 → f_X4_swapped (nI (rw_ 6 (240 + a))) (nI x) (nI (aft 6 x)) = some (nI (rw_ 6 (chg 6 (240 + a) x))) := by decide +kernel
theorem tb_swapped_63 : ∀ a, a < 120 → ∀ x, x < 6 → f_X4_swapped (nI (rw_ 6 (360 + a))) (nI x) (nI (aft 6 x)) = some (nI (rw_ 6 (chg 6 (360 + a) x))) := by decide +kernel
theorem tb_swapped_64 : ∀ a, a < 120 → ∀ x, x < 6 → f_X4_swapped (nI (rw_ 6 (480 + a))) (nI x) (nI (aft 6 x)) = some (nI (rw_ 6 (chg 6 (480 + a) x))) := by decide +kernel
theorem tb_swapped_65 : ∀ a, a < 120 → ∀ x, x < 6 → f_X4_swapped (nI (rw_ 6 (600 + a))) (nI x) (nI (aft 6 x)) = some (nI (rw_ 6 (chg 6 (600 + a) x))) := by decide +kernel
theorem tb_swapped : ∀ n a, a < NN n → ∀ x, x < n → f_X4_swapped (nI (rw_ n a)) (nI x) (nI (aft n x)) = some (nI (rw_ n (chg n a x))) := tb_all (P := fun n a => ∀ x, x < n → f_X4_swapped (nI (rw_ n a)) (nI x) (nI (aft n x)) = some (nI (rw_ n (chg n a x)))) tb_swapped_2 tb_swapped_3 tb_swapped_4 tb_swapped_5 tb_swapped_60 tb_swapped_61 tb_swapped_62 tb_swapped_63 tb_swapped_64 tb_swapped_65
