theorem tb_who_2 : ∀ a, a < 2 → ∀ p, p < 2 → f_X4_who (nI (rw_ 2 a)) (nI p) = some (nI (dg 2 a p)) := by decide +kernel
theorem tb_who_3 : ∀ a, a < 6 → ∀ p, p < 3 → f_X4_who (nI (rw_ 3 a)) (nI p) = some (nI (dg 3 a p)) := by decide +kernel
theorem tb_who_4 : ∀ a, a < 24 → ∀ p, p < 4 → f_X4_who (nI (rw_ 4 a)) (nI p) = some (nI (dg 4 a p)) := by decide +kernel
theorem tb_who_5 : ∀ a, a < 120 → ∀ p, p < 5 → f_X4_who (nI (rw_ 5 a)) (nI p) = some (nI (dg 5 a p)) := by decide +kernel
theorem tb_who_60 : ∀ a, a < 120 → ∀ p, p < 6 → f_X4_who (nI (rw_ 6 a)) (nI p) = some (nI (dg 6 a p)) := by decide +kernel
theorem tb_who_61 : ∀ a, a < 120 → ∀ p, p < 6 → f_X4_who (nI (rw_ 6 (120 + a))) (nI p) = some (nI (dg 6 (120 + a) p)) := by decide +kernel
theorem tb_who_62 : ∀ a, a < 120 → ∀ p, p < 6 → f_X4_who (nI (rw_ 6 (240 + a))) (nI p) = some (nI (dg 6 (240 + a) p)) := by decide +kernel
theorem tb_who_63 : ∀ a, a < 120 → ∀ p, p < 6 → f_X4_who (nI (rw_ 6 (360 + a))) (nI p) = some (nI (dg 6 (360 + a) p)) := by decide +kernel
theorem tb_who_64 : ∀ a, a < 120 → ∀ p, p < 6 → f_X4_who (nI (rw_ 6 (480 + a))) (nI p) = some (nI (dg 6 (480 + a) p)) := by decide +kernel
theorem tb_who_65 : ∀ a, a < 120 → ∀ p, p < 6 → f_X4_who (nI (rw_ 6 (600 + a))) (nI p) = some (nI (dg 6 (600 + a) p)) := by decide +kernel
theorem tb_who : ∀ n a, a < NN n → ∀ p, p < n → f_X4_who (nI (rw_ n a)) (nI p) = some (nI (dg n a p)) := tb_all (P := fun n a => ∀ p, p < n → f_X4_who (nI (rw_ n a)) (nI p) = some (nI (dg n a p))) tb_who_2 tb_who_3 tb_who_4 tb_who_5 tb_who_60 tb_who_61 tb_who_62 tb_who_63 tb_who_64 tb_who_65
theorem tb_dg_2 : ∀ a, a < 2 → ∀ p, p < 2 → dg 2 a p < 2 := by decide +kernel
theorem tb_dg_3 : ∀ a, a < 6 → ∀ p, p < 3 → dg 3 a p < 3 := by decide +kernel
theorem tb_dg_4 : ∀ a, a < 24 → ∀ p, p < 4 → dg 4 a p < 4 := by decide +kernel
theorem tb_dg_5 : ∀ a, a < 120 → ∀ p, p < 5 → dg 5 a p < 5 := by decide +kernel
theorem tb_dg_60 : ∀ a, a < 120 → ∀ p, p < 6 → dg 6 a p < 6 := by decide +kernel
theorem tb_dg_61 : ∀ a, a < 120 → ∀ p, p < 6 → dg 6 (120 + a) p < 6 := by decide +kernel
theorem tb_dg_62 : ∀ a, a < 120 → ∀ p, p < 6 → dg 6 (240 + a) p < 6 := by decide +kernel
theorem tb_dg_63 : ∀ a, a < 120 → ∀ p, p < 6 → dg 6 (360 + a) p < 6 := by decide +kernel
theorem tb_dg_64 : ∀ a, a < 120 → ∀ p, p < 6 → dg 6 (480 + a) p < 6 := by decide +kernel
theorem tb_dg_65 : ∀ a, a < 120 → ∀ p, p < 6 → dg 6 (600 + a) p < 6 := by decide +kernel
theorem tb_dg : ∀ n a, a < NN n → ∀ p, p < n → dg n a p < n := tb_all (P := fun n a => ∀ p, p < n → dg n a p < n) tb_dg_2 tb_dg_3 tb_dg_4 tb_dg_5 tb_dg_60 tb_dg_61 tb_dg_62 tb_dg_63 tb_dg_64 tb_dg_65
theorem tb_small_2 : ∀ a, a < 2 → rw_ 2 a < 262144 := by decide +kernel
theorem tb_small_3 : ∀ a, a < 6 → rw_ 3 a < 262144 := by decide +kernel
theorem tb_small_4 : ∀ a, a < 24 → rw_ 4 a < 262144 := by decide +kernel
theorem tb_small_5 : ∀ a, a < 120 → rw_ 5 a < 262144 := by decide +kernel
theorem tb_small_60 : ∀ a, a < 120 → rw_ 6 a < 262144 := by decide +kernel
theorem tb_small_61 : ∀ a, a < 120 → rw_ 6 (120 + a) < 262144 := by decide +kernel
theorem tb_small_62 : ∀ a, a < 120 → rw_ 6 (240 + a) < 262144 := by decide +kernel
theorem tb_small_63 : ∀ a, a < 120 → rw_ 6 (360 + a) < 262144 := by decide +kernel
theorem tb_small_64 : ∀ a, a < 120 → rw_ 6 (480 + a) < 262144 := by decide +kernel
theorem tb_small_65 : ∀ a, a < 120 → rw_ 6 (600 + a) < 262144 := by decide +kernel
theorem tb_small : ∀ n a, a < NN n → rw_ n a < 262144 := tb_all (P := fun n a => rw_ n a < 262144) tb_small_2 tb_small_3 tb_small_4 tb_small_5 tb_small_60 tb_small_61 tb_small_62 tb_small_63 tb_small_64 tb_small_65
theorem tb_ps_2 : ∀ a, a < 2 → ∀ i, i < 2 → ps 2 a i < 2 ∧ dg 2 a (ps 2 a i) = i := by decide +kernel
theorem tb_ps_3 : ∀ a, a < 6 → ∀ i, i < 3 → ps 3 a i < 3 ∧ dg 3 a (ps 3 a i) = i := by decide +kernel
theorem tb_ps_4 : ∀ a, a < 24 → ∀ i, i < 4 → ps 4 a i < 4 ∧ dg 4 a (ps 4 a i) = i := by decide +kernel
theorem tb_ps_5 : ∀ a, a < 120 → ∀ i, i < 5 → ps 5 a i < 5 ∧ dg 5 a (ps 5 a i) = i := by decide +kernel
theorem tb_ps_60 : ∀ a, a < 120 → ∀ i, i < 6 → ps 6 a i < 6 ∧ dg 6 a (ps 6 a i) = i := by decide +kernel
theorem tb_ps_61 : ∀ a, a < 120 → ∀ i, i < 6 → ps 6 (120 + a) i < 6 ∧ dg 6 (120 + a) (ps 6 (120 + a) i) = i := by decide +kernel
theorem tb_ps_62 : ∀ a, a < 120 → ∀ i, i < 6 → ps 6 (240 + a) i < 6 ∧ dg 6 (240 + a) (ps 6 (240 + a) i) = i := by decide +kernel
theorem tb_ps_63 : ∀ a, a < 120 → ∀ i, i < 6 → ps 6 (360 + a) i < 6 ∧ dg 6 (360 + a) (ps 6 (360 + a) i) = i := by decide +kernel
theorem tb_ps_64 : ∀ a, a < 120 → ∀ i, i < 6 → ps 6 (480 + a) i < 6 ∧ dg 6 (480 + a) (ps 6 (480 + a) i) = i := by decide +kernel
theorem tb_ps_65 : ∀ a, a < 120 → ∀ i, i < 6 → ps 6 (600 + a) i < 6 ∧ dg 6 (600 + a) (ps 6 (600 + a) i) = i := by decide +kernel
theorem tb_ps : ∀ n a, a < NN n → ∀ i, i < n → ps n a i < n ∧ dg n a (ps n a i) = i := tb_all (P := fun n a => ∀ i, i < n → ps n a i < n ∧ dg n a (ps n a i) = i) tb_ps_2 tb_ps_3 tb_ps_4 tb_ps_5 tb_ps_60 tb_ps_61 tb_ps_62 tb_ps_63 tb_ps_64 tb_ps_65
theorem tb_first : ∀ n, n < 7 → 2 ≤ n → f_X4_ordered (nI n) = some (nI (rw_ n 0)) := by decide +kernel
theorem tb_id : ∀ n, n < 7 → 2 ≤ n → ∀ p, p < n → dg n 0 p = p := by decide +kernel
theorem NN_pos : ∀ n, n < 7 → 2 ≤ n → 0 < NN n := by decide +kernel
theorem NN_le : ∀ n, NN n ≤ 720 := by
  intro n
  unfold NN
  repeat' split
  all_goals omega
