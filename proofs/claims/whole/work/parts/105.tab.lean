theorem tb_rank_2 : ∀ a, a < 2 → f_X4_rank (nI (rw_ 2 a)) (nI 2) = some (nI a) := by decide +kernel
theorem tb_rank_3 : ∀ a, a < 6 → f_X4_rank (nI (rw_ 3 a)) (nI 3) = some (nI a) := by decide +kernel
theorem tb_rank_4 : ∀ a, a < 24 → f_X4_rank (nI (rw_ 4 a)) (nI 4) = some (nI a) := by decide +kernel
theorem tb_rank_5 : ∀ a, a < 120 → f_X4_rank (nI (rw_ 5 a)) (nI 5) = some (nI a) := by decide +kernel
theorem tb_rank_60 : ∀ a, a < 120 → f_X4_rank (nI (rw_ 6 a)) (nI 6) = some (nI a) := by decide +kernel
theorem tb_rank_61 : ∀ a, a < 120 → f_X4_rank (nI (rw_ 6 (120 + a))) (nI 6) = some (nI (120 + a)) := by decide +kernel
theorem tb_rank_62 : ∀ a, a < 120 → f_X4_rank (nI (rw_ 6 (240 + a))) (nI 6) = some (nI (240 + a)) := by decide +kernel
theorem tb_rank_63 : ∀ a, a < 120 → f_X4_rank (nI (rw_ 6 (360 + a))) (nI 6) = some (nI (360 + a)) := by decide +kernel
theorem tb_rank_64 : ∀ a, a < 120 → f_X4_rank (nI (rw_ 6 (480 + a))) (nI 6) = some (nI (480 + a)) := by decide +kernel
theorem tb_rank_65 : ∀ a, a < 120 → f_X4_rank (nI (rw_ 6 (600 + a))) (nI 6) = some (nI (600 + a)) := by decide +kernel
theorem tb_rank : ∀ n a, a < NN n → f_X4_rank (nI (rw_ n a)) (nI n) = some (nI a) := tb_all (P := fun n a => f_X4_rank (nI (rw_ n a)) (nI n) = some (nI a)) tb_rank_2 tb_rank_3 tb_rank_4 tb_rank_5 tb_rank_60 tb_rank_61 tb_rank_62 tb_rank_63 tb_rank_64 tb_rank_65
theorem tb_code_2 : ∀ a, a < 2 → cdr 2 (rw_ 2 a) = cd_ 2 a ∧ cd_ 2 a < 46656 := by decide +kernel
theorem tb_code_3 : ∀ a, a < 6 → cdr 3 (rw_ 3 a) = cd_ 3 a ∧ cd_ 3 a < 46656 := by decide +kernel
theorem tb_code_4 : ∀ a, a < 24 → cdr 4 (rw_ 4 a) = cd_ 4 a ∧ cd_ 4 a < 46656 := by decide +kernel
theorem tb_code_5 : ∀ a, a < 120 → cdr 5 (rw_ 5 a) = cd_ 5 a ∧ cd_ 5 a < 46656 := by decide +kernel
theorem tb_code_60 : ∀ a, a < 120 → cdr 6 (rw_ 6 a) = cd_ 6 a ∧ cd_ 6 a < 46656 := by decide +kernel
theorem tb_code_61 : ∀ a, a < 120 → cdr 6 (rw_ 6 (120 + a)) = cd_ 6 (120 + a) ∧ cd_ 6 (120 + a) < 46656 := by decide +kernel
theorem tb_code_62 : ∀ a, a < 120 → cdr 6 (rw_ 6 (240 + a)) = cd_ 6 (240 + a) ∧ cd_ 6 (240 + a) < 46656 := by decide +kernel
theorem tb_code_63 : ∀ a, a < 120 → cdr 6 (rw_ 6 (360 + a)) = cd_ 6 (360 + a) ∧ cd_ 6 (360 + a) < 46656 := by decide +kernel
theorem tb_code_64 : ∀ a, a < 120 → cdr 6 (rw_ 6 (480 + a)) = cd_ 6 (480 + a) ∧ cd_ 6 (480 + a) < 46656 := by decide +kernel
theorem tb_code_65 : ∀ a, a < 120 → cdr 6 (rw_ 6 (600 + a)) = cd_ 6 (600 + a) ∧ cd_ 6 (600 + a) < 46656 := by decide +kernel
theorem tb_code : ∀ n a, a < NN n → cdr n (rw_ n a) = cd_ n a ∧ cd_ n a < 46656 := tb_all (P := fun n a => cdr n (rw_ n a) = cd_ n a ∧ cd_ n a < 46656) tb_code_2 tb_code_3 tb_code_4 tb_code_5 tb_code_60 tb_code_61 tb_code_62 tb_code_63 tb_code_64 tb_code_65
