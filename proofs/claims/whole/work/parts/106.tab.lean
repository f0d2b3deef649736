theorem tb_next_2 : ∀ a, a < 2 → f_X4_following (nI (rw_ 2 a)) (nI 2) = some (if a + 1 < NN 2 then nI (rw_ 2 (a + 1)) else (-1 : Int32)) := by decide +kernel
theorem tb_next_3 : ∀ a, a < 6 → f_X4_following (nI (rw_ 3 a)) (nI 3) = some (if a + 1 < NN 3 then nI (rw_ 3 (a + 1)) else (-1 : Int32)) := by decide +kernel
theorem tb_next_4 : ∀ a, a < 24 → f_X4_following (nI (rw_ 4 a)) (nI 4) = some (if a + 1 < NN 4 then nI (rw_ 4 (a + 1)) else (-1 : Int32)) := by decide +kernel
theorem tb_next_5 : ∀ a, a < 120 → f_X4_following (nI (rw_ 5 a)) (nI 5) = some (if a + 1 < NN 5 then nI (rw_ 5 (a + 1)) else (-1 : Int32)) := by decide +kernel
theorem tb_next_60 : ∀ a, a < 120 → f_X4_following (nI (rw_ 6 a)) (nI 6) = some (if a + 1 < NN 6 then nI (rw_ 6 (a + 1)) else (-1 : Int32)) := by decide +kernel
theorem tb_next_61 : ∀ a, a < 120 → f_X4_following (nI (rw_ 6 (120 + a))) (nI 6) = some (if (120 + a) + 1 < NN 6 then nI (rw_ 6 ((120 + a) + 1)) else (-1 : Int32)) := by decide +kernel
theorem tb_next_62 : ∀ a, a < 120 → f_X4_following (nI (rw_ 6 (240 + a))) (nI 6) = some (if (240 + a) + 1 < NN 6 then nI (rw_ 6 ((240 + a) + 1)) else (-1 : Int32)) := by decide +kernel
theorem tb_next_63 : ∀ a, a < 120 → f_X4_following (nI (rw_ 6 (360 + a))) (nI 6) = some (if (360 + a) + 1 < NN 6 then nI (rw_ 6 ((360 + a) + 1)) else (-1 : Int32)) := by decide +kernel
theorem tb_next_64 : ∀ a, a < 120 → f_X4_following (nI (rw_ 6 (480 + a))) (nI 6) = some (if (480 + a) + 1 < NN 6 then nI (rw_ 6 ((480 + a) + 1)) else (-1 : Int32)) := by decide +kernel
theorem tb_next_65 : ∀ a, a < 120 → f_X4_following (nI (rw_ 6 (600 + a))) (nI 6) = some (if (600 + a) + 1 < NN 6 then nI (rw_ 6 ((600 + a) + 1)) else (-1 : Int32)) := by decide +kernel
theorem tb_next : ∀ n a, a < NN n → f_X4_following (nI (rw_ n a)) (nI n) = some (if a + 1 < NN n then nI (rw_ n (a + 1)) else (-1 : Int32)) := tb_all (P := fun n a => f_X4_following (nI (rw_ n a)) (nI n) = some (if a + 1 < NN n then nI (rw_ n (a + 1)) else (-1 : Int32))) tb_next_2 tb_next_3 tb_next_4 tb_next_5 tb_next_60 tb_next_61 tb_next_62 tb_next_63 tb_next_64 tb_next_65
