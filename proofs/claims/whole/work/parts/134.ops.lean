theorem op_write : ∀ (y1 : Int32) (y2 : Int64) (X : ZX9) (Y : ZX10), Inv X Y → ∃ (r : Int32) (X1 : ZX9) (Y1 : ZX10), xo_write y1 y2 X = some (r, X1) ∧ yo_write y1 y2 Y = some (r, Y1) ∧ Inv X1 Y1 := by
  intro y1 y2 X Y hI
  obtain ⟨⟨tby, tle, tnu⟩, ⟨pe, ri, hto, bp, sc, kd, lk⟩, dr, row, ⟨ton, tos⟩, ⟨don, dos⟩, ⟨ken, kes⟩, ⟨sw, sf, st, sy, ss⟩, gr, gd, se, ev, wa⟩ := X
  obtain ⟨yle, ytx, ymn, ybs, yst, ykd, ylk, yri, yli, ywh, ykm, yun, yum, yrm, yrw, ysm, yso, ysf, ysg, ysy, ypl, yto, yam, yal, ynu, ytr, ywe, ywt, ylo, yre, ywa, ynx⟩ := Y
  obtain ⟨D, a, hI⟩ := hI
  have hI0 : InvC D a tby tle pe ri bp sc kd lk row ton tos don dos ken kes sw sf st sy ss gr gd yle ytx ymn ybs yst ykd ylk yri ywh ykm yun yum yrm yrw ysm yso ysf ysg ysy yam yal ynu := hI
  obtain ⟨ok, ha, hT, hpe, hri, hHX, hHY, hTB, hrow, hwh, hR, hU, hK, hS, hG⟩ := id hI0
  have h2 := ok.1
  have h6 := ok.2.1
  have hg := ok.2.2.1
  obtain ⟨k, hk, rfl, rfl, rfl⟩ := id hT
  have eY : ∀ x : Int32, f_X10_in x.toInt64 1 8 = some (if x < nI 1 then 0 else if nI 8 < x then 0 else 1) := fun x => in_eq2 x (lo := 1) (k := 8) (by omega) (by omega)
  rcases nI_range y1 (n := 9) (by omega) with h | ⟨h0, h⟩ | ⟨j, hj, rfl⟩
  · have hl : y1 < nI 1 := Int32.lt_trans h (by decide)
    have hX : f_X9_write y1 y2 (nI k) tby = some (-1, nI k, tby) := by unfold f_X9_write; exact if_pos hl
    have hY : f_X10_write y1 y2 (nI k) tby = some (-1, nI k, tby) := by unfold f_X10_write; rw [eY, if_pos hl, Option.bind_some, if_pos rfl]
    exact ⟨_, _, _, xo_of hX rfl, xo_of hY rfl, D, a, hI0⟩
  · have hl : ¬ y1 < nI 1 := fun q => Int32.lt_irrefl (Int32.lt_of_lt_of_le (Int32.lt_trans q (show nI 1 < nI 9 by decide)) h)
    have hu : nI 8 < y1 := Int32.lt_of_lt_of_le (show nI 8 < nI 9 by decide) h
    have hX : f_X9_write y1 y2 (nI k) tby = some (-1, nI k, tby) := by
      unfold f_X9_write
      rw [if_neg (show ¬ y1 < (1 : Int32) from hl), if_neg (show ¬ y1 ≤ (8 : Int32) from Int32.not_le.mpr hu)]
    have hY : f_X10_write y1 y2 (nI k) tby = some (-1, nI k, tby) := by unfold f_X10_write; rw [eY, if_neg hl, if_pos hu, Option.bind_some, if_pos rfl]
    exact ⟨_, _, _, xo_of hX rfl, xo_of hY rfl, D, a, hI0⟩
  · by_cases hj0 : j = 0
    · subst hj0
      have hX : f_X9_write (nI 0) y2 (nI k) tby = some (-1, nI k, tby) := by unfold f_X9_write; exact if_pos (by decide)
      have hY : f_X10_write (nI 0) y2 (nI k) tby = some (-1, nI k, tby) := by unfold f_X10_write; rw [eY, if_pos (by decide), Option.bind_some, if_pos rfl]
      exact ⟨_, _, _, xo_of hX rfl, xo_of hY rfl, D, a, hI0⟩
    · have hl : ¬ nI j < (1 : Int32) := nI_nlt (b := 1) (by omega) (by omega)
      have hl' : ¬ nI j < nI 1 := hl
      have h8 : nI j ≤ (8 : Int32) := nI_le (b := 8) (by omega) (by omega)
      have hu : ¬ nI 8 < nI j := nI_nlt (by omega) (by omega)
      by_cases hf : k + j ≤ 300
      · have h0 := NF_big
        have hc : nI k + nI j ≤ (300 : Int32) := by rw [nI_add]; exact nI_le (b := 300) hf (by omega)
        obtain ⟨b', i1, i2⟩ := E_write_l y2 j k NF NF tby hf (by omega) (by omega)
        have hX : f_X9_write (nI j) y2 (nI k) tby = some (nI (k + j), nI (k + j), b') := by
          unfold f_X9_write f_X7_append
          rw [if_neg hl, if_pos h8, if_pos hc, i1, Option.bind_some]
          exact if_neg (show ¬ (1 : Int32) = 0 by decide)
        have hY : f_X10_write (nI j) y2 (nI k) tby = some (nI (k + j), nI (k + j), b') := by
          unfold f_X10_write
          rw [eY, if_neg hl', if_neg hu, Option.bind_some, if_neg (by decide), if_pos hc, i2]
        exact ⟨_, _, _, xo_of hX rfl, xo_of hY rfl, D, a, ok, ha, ⟨k + j, hf, rfl, rfl, rfl⟩, hpe, hri, hHX, hHY, hTB, hrow, hwh, hR, hU, hK, hS, hG⟩
      · have hc : ¬ nI k + nI j ≤ (300 : Int32) := by rw [nI_add]; exact nI_ge (a := 300) (by omega) (by omega)
        have hX : f_X9_write (nI j) y2 (nI k) tby = some (-3, nI k, tby) := by
          unfold f_X9_write f_X7_append
          rw [if_neg hl, if_pos h8, if_neg hc, Option.bind_some]
          exact if_pos rfl
        have hY : f_X10_write (nI j) y2 (nI k) tby = some (-3, nI k, tby) := by
          unfold f_X10_write
          rw [eY, if_neg hl', if_neg hu, Option.bind_some, if_neg (by decide), if_neg hc]
        exact ⟨_, _, _, xo_of hX rfl, xo_of hY rfl, D, a, hI0⟩
theorem op_judge : ∀ (X : ZX9) (Y : ZX10), Inv X Y → ∃ (r : Int32) (X1 : ZX9) (Y1 : ZX10), xo_judge  X = some (r, X1) ∧ yo_judge  Y = some (r, Y1) ∧ Inv X1 Y1 := by
  intro X Y hI
  obtain ⟨⟨tby, tle, tnu⟩, ⟨pe, ri, hto, bp, sc, kd, lk⟩, dr, row, ⟨ton, tos⟩, ⟨don, dos⟩, ⟨ken, kes⟩, ⟨sw, sf, st, sy, ss⟩, gr, gd, se, ev, wa⟩ := X
  obtain ⟨yle, ytx, ymn, ybs, yst, ykd, ylk, yri, yli, ywh, ykm, yun, yum, yrm, yrw, ysm, yso, ysf, ysg, ysy, ypl, yto, yam, yal, ynu, ytr, ywe, ywt, ylo, yre, ywa, ynx⟩ := Y
  obtain ⟨D, a, hI⟩ := hI
  have hI0 : InvC D a tby tle pe ri bp sc kd lk row ton tos don dos ken kes sw sf st sy ss gr gd yle ytx ymn ybs yst ykd ylk yri ywh ykm yun yum yrm yrw ysm yso ysf ysg ysy yam yal ynu := hI
  obtain ⟨ok, ha, hT, hpe, hri, hHX, hHY, hTB, hrow, hwh, hR, hU, hK, hS, hG⟩ := id hI0
  have h2 := ok.1
  have h6 := ok.2.1
  have hg := ok.2.2.1
  subst hpe hri hrow
  obtain ⟨k, hk, rfl, rfl, hRe⟩ := id hR
  have h0 := NF_big
  obtain ⟨r, tr', i1, i2⟩ := E_judge_l (r0 := nI (rw_ D.1 a)) (wh := ywh) ok hHX hHY hTB hk hRe k 0 NF NF a ytr (by omega) (by omega) (by omega) ha
  have hX : f_X9_judge 12 (nI (rw_ D.1 a)) (nI D.1) (nI D.2.1) bp sc kd lk (nI k) ton = some r := i1
  have hY : f_X10_judge (nI k) ymn ybs yst ykd ylk yri ywh yrw yal ynu ytr = some (r, tr') := by
    unfold f_X10_judge
    rw [E_now hTB hHY.1 h6 ha hwh, Option.bind_some]
    exact i2
  exact ⟨_, _, _, xo_of hX rfl, xo_of hY rfl, D, a, hI0⟩
theorem op_count : ∀ (y1 : Int32) (X : ZX9) (Y : ZX10), Inv X Y → ∃ (r : Int32) (X1 : ZX9) (Y1 : ZX10), xo_count y1 X = some (r, X1) ∧ yo_count y1 Y = some (r, Y1) ∧ Inv X1 Y1 := by
  intro y1 X Y hI
  obtain ⟨⟨tby, tle, tnu⟩, ⟨pe, ri, hto, bp, sc, kd, lk⟩, dr, row, ⟨ton, tos⟩, ⟨don, dos⟩, ⟨ken, kes⟩, ⟨sw, sf, st, sy, ss⟩, gr, gd, se, ev, wa⟩ := X
  obtain ⟨yle, ytx, ymn, ybs, yst, ykd, ylk, yri, yli, ywh, ykm, yun, yum, yrm, yrw, ysm, yso, ysf, ysg, ysy, ypl, yto, yam, yal, ynu, ytr, ywe, ywt, ylo, yre, ywa, ynx⟩ := Y
  obtain ⟨D, a, hI⟩ := hI
  have hI0 : InvC D a tby tle pe ri bp sc kd lk row ton tos don dos ken kes sw sf st sy ss gr gd yle ytx ymn ybs yst ykd ylk yri ywh ykm yun yum yrm yrw ysm yso ysf ysg ysy yam yal ynu := hI
  obtain ⟨ok, ha, hT, hpe, hri, hHX, hHY, hTB, hrow, hwh, hR, hU, hK, hS, hG⟩ := id hI0
  have h2 := ok.1
  have h6 := ok.2.1
  have hg := ok.2.2.1
  subst hpe hri hrow
  by_cases n0 : y1 = 0
  · subst n0
    have hX : f_X9_count 0 (nI (rw_ D.1 a)) tle (nI D.1) (nI D.2.1) bp sc kd lk tos dos kes ss = some (nI D.1) := by unfold f_X9_count; rw [if_pos rfl]
    have hY : f_X10_count 0 yle ykm yum yrm ysm ymn ybs yst ykd ylk yri ywh yal ynu ytr = some (nI D.1, ytr) := by unfold f_X10_count; rw [if_pos rfl, bd0, c0, hHY.1]
    exact ⟨_, _, _, xo_of hX rfl, xo_of hY rfl, D, a, hI0⟩
  by_cases n1 : y1 = 1
  · subst n1
    have hX : f_X9_count 1 (nI (rw_ D.1 a)) tle (nI D.1) (nI D.2.1) bp sc kd lk tos dos kes ss = some (nI (kk D.1 D.2.1)) := by unfold f_X9_count; rw [if_neg n0, if_pos rfl, E_count D.1 (by omega) h2 D.2.1 (by omega), Option.bind_some]
    have hY : f_X10_count 1 yle ykm yum yrm ysm ymn ybs yst ykd ylk yri ywh yal ynu ytr = some (nI (kk D.1 D.2.1), ytr) := by unfold f_X10_count; rw [if_neg n0, if_pos rfl, E_countY hHY.1 hHY.2.1 h2 h6 hg, Option.bind_some]
    exact ⟨_, _, _, xo_of hX rfl, xo_of hY rfl, D, a, hI0⟩
  by_cases n2 : y1 = 2
  · subst n2
    have h0 := NF_big
    have hkk := (kk_bd (rg := D.2.1) h2 h6).2
    have i1 := E_suitingCount_l ok hHX ha (kk D.1 D.2.1) 0 NF (by omega) (by omega)
    obtain ⟨tr', i2⟩ := E_suitMany_l ok hHY hTB ha hwh (kk D.1 D.2.1) 0 NF ytr (by omega) (by omega)
    have hX : f_X9_count 2 (nI (rw_ D.1 a)) tle (nI D.1) (nI D.2.1) bp sc kd lk tos dos kes ss = some (nI (scnt D a (kk D.1 D.2.1))) := by
      unfold f_X9_count f_X2_suitingCount
      rw [if_neg n0, if_neg n1, if_pos rfl]
      rw [show f_X2_suitingCount_l4 (nI D.1) (nI D.2.1) bp sc kd lk NF (nI (rw_ D.1 a)) (0 : Int32) (0 : Int32) = _ from i1, Option.bind_some]
    have hY : f_X10_count 2 yle ykm yum yrm ysm ymn ybs yst ykd ylk yri ywh yal ynu ytr = some (nI (scnt D a (kk D.1 D.2.1)), tr') := by
      unfold f_X10_count f_X10_suitMany
      rw [if_neg n0, if_neg n1, if_pos rfl]
      rw [show f_X10_suitMany_l4 ymn ybs yst ykd ylk yri ywh yal ynu NF (0 : Int32) (0 : Int32) ytr = _ from i2, Option.bind_some]
    exact ⟨_, _, _, xo_of hX rfl, xo_of hY rfl, D, a, hI0⟩
  by_cases n3 : y1 = 3
  · subst n3
    obtain ⟨k, hk, rfl, rfl, _⟩ := id hR
    have hX : f_X9_count 3 (nI (rw_ D.1 a)) tle (nI D.1) (nI D.2.1) bp sc kd lk (nI k) dos kes ss = some (nI k) := by unfold f_X9_count; rw [if_neg n0, if_neg n1, if_neg n2, if_pos rfl]
    have hY : f_X10_count 3 yle ykm yum (nI k) ysm ymn ybs yst ykd ylk yri ywh yal ynu ytr = some (nI k, ytr) := by unfold f_X10_count; rw [if_neg n0, if_neg n1, if_neg n2, if_pos rfl]
    exact ⟨_, _, _, xo_of hX rfl, xo_of hY rfl, D, a, hI0⟩
  by_cases n4 : y1 = 4
  · subst n4
    obtain ⟨k, hk, rfl, rfl, _⟩ := id hS
    have hX : f_X9_count 4 (nI (rw_ D.1 a)) tle (nI D.1) (nI D.2.1) bp sc kd lk tos dos kes (nI k) = some (nI k) := by unfold f_X9_count; rw [if_neg n0, if_neg n1, if_neg n2, if_neg n3, if_pos rfl]
    have hY : f_X10_count 4 yle ykm yum yrm (nI k) ymn ybs yst ykd ylk yri ywh yal ynu ytr = some (nI k, ytr) := by unfold f_X10_count; rw [if_neg n0, if_neg n1, if_neg n2, if_neg n3, if_pos rfl]
    exact ⟨_, _, _, xo_of hX rfl, xo_of hY rfl, D, a, hI0⟩
  by_cases n5 : y1 = 5
  · subst n5
    obtain ⟨k, hk, rfl, rfl, _⟩ := id hU
    have hX : f_X9_count 5 (nI (rw_ D.1 a)) tle (nI D.1) (nI D.2.1) bp sc kd lk tos (nI k) kes ss = some (nI k) := by unfold f_X9_count; rw [if_neg n0, if_neg n1, if_neg n2, if_neg n3, if_neg n4, if_pos rfl]
    have hY : f_X10_count 5 yle ykm (nI k) yrm ysm ymn ybs yst ykd ylk yri ywh yal ynu ytr = some (nI k, ytr) := by unfold f_X10_count; rw [if_neg n0, if_neg n1, if_neg n2, if_neg n3, if_neg n4, if_pos rfl]
    exact ⟨_, _, _, xo_of hX rfl, xo_of hY rfl, D, a, hI0⟩
  by_cases n6 : y1 = 6
  · subst n6
    obtain ⟨k, hk, rfl, rfl, _⟩ := id hK
    have hX : f_X9_count 6 (nI (rw_ D.1 a)) tle (nI D.1) (nI D.2.1) bp sc kd lk tos dos (nI k) ss = some (nI k) := by unfold f_X9_count; rw [if_neg n0, if_neg n1, if_neg n2, if_neg n3, if_neg n4, if_neg n5, if_pos rfl]
    have hY : f_X10_count 6 yle (nI k) yum yrm ysm ymn ybs yst ykd ylk yri ywh yal ynu ytr = some (nI k, ytr) := by unfold f_X10_count; rw [if_neg n0, if_neg n1, if_neg n2, if_neg n3, if_neg n4, if_neg n5, if_pos rfl]
    exact ⟨_, _, _, xo_of hX rfl, xo_of hY rfl, D, a, hI0⟩
  by_cases n7 : y1 = 7
  · subst n7
    obtain ⟨k, hk, rfl, rfl, _⟩ := id hT
    have hX : f_X9_count 7 (nI (rw_ D.1 a)) (nI k) (nI D.1) (nI D.2.1) bp sc kd lk tos dos kes ss = some (nI k) := by unfold f_X9_count; rw [if_neg n0, if_neg n1, if_neg n2, if_neg n3, if_neg n4, if_neg n5, if_neg n6, if_pos rfl]
    have hY : f_X10_count 7 (nI k) ykm yum yrm ysm ymn ybs yst ykd ylk yri ywh yal ynu ytr = some (nI k, ytr) := by unfold f_X10_count; rw [if_neg n0, if_neg n1, if_neg n2, if_neg n3, if_neg n4, if_neg n5, if_neg n6, if_pos rfl]
    exact ⟨_, _, _, xo_of hX rfl, xo_of hY rfl, D, a, hI0⟩
  have hX : f_X9_count y1 (nI (rw_ D.1 a)) tle (nI D.1) (nI D.2.1) bp sc kd lk tos dos kes ss = some (-1) := by unfold f_X9_count; rw [if_neg n0, if_neg n1, if_neg n2, if_neg n3, if_neg n4, if_neg n5, if_neg n6, if_neg n7]
  have hY : f_X10_count y1 yle ykm yum yrm ysm ymn ybs yst ykd ylk yri ywh yal ynu ytr = some (-1, ytr) := by unfold f_X10_count; rw [if_neg n0, if_neg n1, if_neg n2, if_neg n3, if_neg n4, if_neg n5, if_neg n6, if_neg n7]
  exact ⟨_, _, _, xo_of hX rfl, xo_of hY rfl, D, a, hI0⟩
