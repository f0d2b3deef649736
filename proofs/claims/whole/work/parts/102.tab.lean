theorem tb_inj_2 : ∀ a, a < 2 → ∀ p, p < 2 → ∀ q, q < 2 → dg 2 a p = dg 2 a q → p = q := by decide +kernel
theorem tb_inj_3 : ∀ a, a < 6 → ∀ p, p < 3 → ∀ q, q < 3 → dg 3 a p = dg 3 a q → p = q := by decide +kernel
theorem tb_inj_4 : ∀ a, a < 24 → ∀ p, p < 4 → ∀ q, q < 4 → dg 4 a p = dg 4 a q → p = q := by decide +kernel
theorem tb_inj_5 : ∀ a, a < 120 → ∀ p, p < 5 → ∀ q, q < 5 → dg 5 a p = dg 5 a q → p = q := by decide +kernel
theorem tb_inj_60 : ∀ a, a < 120 → ∀ p, p < 6 → ∀ q, q < 6 → dg 6 a p = dg 6 a q → p = q := by decide +kernel
theorem tb_inj_61 : ∀ a, a < 120 → ∀ p, p < 6 → ∀ q, q < 6 → dg 6 (120 + a) p = dg 6 (120 + a) q → p = q := by decide +kernel
theorem tb_inj_62 : ∀ a, a < 120 → ∀ p, p < 6 → ∀ q, q < 6 → dg 6 (240 + a) p = dg 6 (240 + a) q → p = q := by decide +kernel
theorem tb_inj_63 : ∀ a, a < 120 → ∀ p, p < 6 → ∀ q, q < 6 → dg 6 (360 + a) p = dg 6 (360 + a) q → p = q := by decide +kernel
theorem tb_inj_64 : ∀ a, a < 120 → ∀ p, p < 6 → ∀ q, q < 6 → dg 6 (480 + a) p = dg 6 (480 + a) q → p = q := by decide +kernel
theorem tb_inj_65 : ∀ a, a < 120 → ∀ p, p < 6 → ∀ q, q < 6 → dg 6 (600 + a) p = dg 6 (600 + a) q → p = q := by decide +kernel
theorem tb_inj : ∀ n a, a < NN n → ∀ p, p < n → ∀ q, q < n → dg n a p = dg n a q → p = q := tb_all (P := fun n a => ∀ p, p < n → ∀ q, q < n → dg n a p = dg n a q → p = q) tb_inj_2 tb_inj_3 tb_inj_4 tb_inj_5 tb_inj_60 tb_inj_61 tb_inj_62 tb_inj_63 tb_inj_64 tb_inj_65
theorem tb_place_2 : ∀ a, a < 2 → ∀ i, i < 2 → f_X4_placeOf (nI (rw_ 2 a)) (nI i) = some (nI (ps 2 a i)) := by decide +kernel
theorem tb_place_3 : ∀ a, a < 6 → ∀ i, i < 3 → f_X4_placeOf (nI (rw_ 3 a)) (nI i) = some (nI (ps 3 a i)) := by decide +kernel
theorem tb_place_4 : ∀ a, a < 24 → ∀ i, i < 4 → f_X4_placeOf (nI (rw_ 4 a)) (nI i) = some (nI (ps 4 a i)) := by decide +kernel
theorem tb_place_5 : ∀ a, a < 120 → ∀ i, i < 5 → f_X4_placeOf (nI (rw_ 5 a)) (nI i) = some (nI (ps 5 a i)) := by decide +kernel
theorem tb_place_60 : ∀ a, a < 120 → ∀ i, i < 6 → f_X4_placeOf (nI (rw_ 6 a)) (nI i) = some (nI (ps 6 a i)) := by decide +kernel
theorem tb_place_61 : ∀ a, a < 120 → ∀ i, i < 6 → f_X4_placeOf (nI (rw_ 6 (120 + a))) (nI i) = some (nI (ps 6 (120 + a) i)) := by decide +kernel
theorem tb_place_62 : ∀ a, a < 120 → ∀ i, i < 6 → f_X4_placeOf (nI (rw_ 6 (240 + a))) (nI i) = some (nI (ps 6 (240 + a) i)) := by decide +kernel
theorem tb_place_63 : ∀ a, a < 120 → ∀ i, i < 6 → f_X4_placeOf (nI (rw_ 6 (360 + a))) (nI i) = some (nI (ps 6 (360 + a) i)) := by decide +kernel
theorem tb_place_64 : ∀ a, a < 120 → ∀ i, i < 6 → f_X4_placeOf (nI (rw_ 6 (480 + a))) (nI i) = some (nI (ps 6 (480 + a) i)) := by decide +kernel
theorem tb_place_65 : ∀ a, a < 120 → ∀ i, i < 6 → f_X4_placeOf (nI (rw_ 6 (600 + a))) (nI i) = some (nI (ps 6 (600 + a) i)) := by decide +kernel
theorem tb_place : ∀ n a, a < NN n → ∀ i, i < n → f_X4_placeOf (nI (rw_ n a)) (nI i) = some (nI (ps n a i)) := tb_all (P := fun n a => ∀ i, i < n → f_X4_placeOf (nI (rw_ n a)) (nI i) = some (nI (ps n a i))) tb_place_2 tb_place_3 tb_place_4 tb_place_5 tb_place_60 tb_place_61 tb_place_62 tb_place_63 tb_place_64 tb_place_65
