theorem xo_of {α β : Type} {x : Option α} {u : α} {k : α → Option β} {r : β} (h : x = some u) (hk : k u = some r) : Option.bind x k = some r := by rw [h]; exact hk
theorem op_wipe : ∀ (X : ZX9) (Y : ZX10), Inv X Y → ∃ (r : Int32) (X1 : ZX9) (Y1 : ZX10), xo_wipe  X = some (r, X1) ∧ yo_wipe  Y = some (r, Y1) ∧ Inv X1 Y1 := by
  intro X Y hI
  obtain ⟨⟨tby, tle, tnu⟩, ⟨pe, ri, hto, bp, sc, kd, lk⟩, dr, row, ⟨ton, tos⟩, ⟨don, dos⟩, ⟨ken, kes⟩, ⟨sw, sf, st, sy, ss⟩, gr, gd, se, ev, wa⟩ := X
  obtain ⟨yle, ytx, ymn, ybs, yst, ykd, ylk, yri, yli, ywh, ykm, yun, yum, yrm, yrw, ysm, yso, ysf, ysg, ysy, ypl, yto, yam, yal, ynu, ytr, ywe, ywt, ylo, yre, ywa, ynx⟩ := Y
  obtain ⟨D, a, hI⟩ := hI
  have hI0 : InvC D a tby tle pe ri bp sc kd lk row ton tos don dos ken kes sw sf st sy ss gr gd yle ytx ymn ybs yst ykd ylk yri ywh ykm yun yum yrm yrw ysm yso ysf ysg ysy yam yal ynu := hI
  obtain ⟨ok, ha, hT, hpe, hri, hHX, hHY, hTB, hrow, hwh, hR, hU, hK, hS, hG⟩ := id hI0
  have h2 := ok.1
  have h6 := ok.2.1
  have hg := ok.2.2.1
  obtain ⟨k, hk, rfl, rfl, rfl⟩ := hT
  have hX : f_X9_wipe (nI k) = some (nI k, 0) := rfl
  have hY : f_X10_wipe (nI k) = some (nI k, 0) := rfl
  exact ⟨_, _, _, xo_of hX rfl, xo_of hY rfl, D, a, ok, ha, ⟨0, by omega, rfl, rfl, rfl⟩, hpe, hri, hHX, hHY, hTB, hrow, hwh, hR, hU, hK, hS, hG⟩
theorem op_noRow : ∀ (X : ZX9) (Y : ZX10), Inv X Y → ∃ (r : Int32) (X1 : ZX9) (Y1 : ZX10), xo_noRow  X = some (r, X1) ∧ yo_noRow  Y = some (r, Y1) ∧ Inv X1 Y1 := by
  intro X Y hI
  obtain ⟨⟨tby, tle, tnu⟩, ⟨pe, ri, hto, bp, sc, kd, lk⟩, dr, row, ⟨ton, tos⟩, ⟨don, dos⟩, ⟨ken, kes⟩, ⟨sw, sf, st, sy, ss⟩, gr, gd, se, ev, wa⟩ := X
  obtain ⟨yle, ytx, ymn, ybs, yst, ykd, ylk, yri, yli, ywh, ykm, yun, yum, yrm, yrw, ysm, yso, ysf, ysg, ysy, ypl, yto, yam, yal, ynu, ytr, ywe, ywt, ylo, yre, ywa, ynx⟩ := Y
  obtain ⟨D, a, hI⟩ := hI
  have hI0 : InvC D a tby tle pe ri bp sc kd lk row ton tos don dos ken kes sw sf st sy ss gr gd yle ytx ymn ybs yst ykd ylk yri ywh ykm yun yum yrm yrw ysm yso ysf ysg ysy yam yal ynu := hI
  obtain ⟨ok, ha, hT, hpe, hri, hHX, hHY, hTB, hrow, hwh, hR, hU, hK, hS, hG⟩ := id hI0
  have h2 := ok.1
  have h6 := ok.2.1
  have hg := ok.2.2.1
  obtain ⟨k, hk, rfl, rfl, h⟩ := hR
  have hX : f_X9_noRow (nI k) = some (nI k, 0) := rfl
  have hY : f_X10_noRow (nI k) = some (nI k, 0) := rfl
  exact ⟨_, _, _, xo_of hX rfl, xo_of hY rfl, D, a, ok, ha, hT, hpe, hri, hHX, hHY, hTB, hrow, hwh, ⟨0, by omega, rfl, rfl, fun j hj => absurd hj (by omega)⟩, hU, hK, hS, hG⟩
theorem op_forget : ∀ (X : ZX9) (Y : ZX10), Inv X Y → ∃ (r : Int32) (X1 : ZX9) (Y1 : ZX10), xo_forget  X = some (r, X1) ∧ yo_forget  Y = some (r, Y1) ∧ Inv X1 Y1 := by
  intro X Y hI
  obtain ⟨⟨tby, tle, tnu⟩, ⟨pe, ri, hto, bp, sc, kd, lk⟩, dr, row, ⟨ton, tos⟩, ⟨don, dos⟩, ⟨ken, kes⟩, ⟨sw, sf, st, sy, ss⟩, gr, gd, se, ev, wa⟩ := X
  obtain ⟨yle, ytx, ymn, ybs, yst, ykd, ylk, yri, yli, ywh, ykm, yun, yum, yrm, yrw, ysm, yso, ysf, ysg, ysy, ypl, yto, yam, yal, ynu, ytr, ywe, ywt, ylo, yre, ywa, ynx⟩ := Y
  obtain ⟨D, a, hI⟩ := hI
  have hI0 : InvC D a tby tle pe ri bp sc kd lk row ton tos don dos ken kes sw sf st sy ss gr gd yle ytx ymn ybs yst ykd ylk yri ywh ykm yun yum yrm yrw ysm yso ysf ysg ysy yam yal ynu := hI
  obtain ⟨ok, ha, hT, hpe, hri, hHX, hHY, hTB, hrow, hwh, hR, hU, hK, hS, hG⟩ := id hI0
  have h2 := ok.1
  have h6 := ok.2.1
  have hg := ok.2.2.1
  obtain ⟨k, hk, rfl, rfl, h⟩ := hS
  have hX : f_X9_forget (nI k) = some (nI k, 0) := rfl
  have hY : f_X10_forget (nI k) = some (nI k, 0) := rfl
  exact ⟨_, _, _, xo_of hX rfl, xo_of hY rfl, D, a, ok, ha, hT, hpe, hri, hHX, hHY, hTB, hrow, hwh, hR, hU, hK, ⟨0, by omega, rfl, rfl, fun j hj => absurd hj (by omega)⟩, hG⟩
theorem op_worth : ∀ (y1 : Int32) (X : ZX9) (Y : ZX10), Inv X Y → ∃ (r : Int32) (X1 : ZX9) (Y1 : ZX10), xo_worth y1 X = some (r, X1) ∧ yo_worth y1 Y = some (r, Y1) ∧ Inv X1 Y1 := by
  intro y1 X Y hI
  obtain ⟨⟨tby, tle, tnu⟩, ⟨pe, ri, hto, bp, sc, kd, lk⟩, dr, row, ⟨ton, tos⟩, ⟨don, dos⟩, ⟨ken, kes⟩, ⟨sw, sf, st, sy, ss⟩, gr, gd, se, ev, wa⟩ := X
  obtain ⟨yle, ytx, ymn, ybs, yst, ykd, ylk, yri, yli, ywh, ykm, yun, yum, yrm, yrw, ysm, yso, ysf, ysg, ysy, ypl, yto, yam, yal, ynu, ytr, ywe, ywt, ylo, yre, ywa, ynx⟩ := Y
  obtain ⟨D, a, hI⟩ := hI
  have hI0 : InvC D a tby tle pe ri bp sc kd lk row ton tos don dos ken kes sw sf st sy ss gr gd yle ytx ymn ybs yst ykd ylk yri ywh ykm yun yum yrm yrw ysm yso ysf ysg ysy yam yal ynu := hI
  obtain ⟨ok, ha, hT, hpe, hri, hHX, hHY, hTB, hrow, hwh, hR, hU, hK, hS, hG⟩ := id hI0
  have h2 := ok.1
  have h6 := ok.2.1
  have hg := ok.2.2.1
  subst hpe hri hrow
  rcases place_cases hHY.1 h2 h6 y1 with ⟨e1, e2⟩ | ⟨j, hj, rfl, e1, e2⟩
  · have hX : f_X9_worth y1 (nI (rw_ D.1 a)) (nI D.1) (nI D.2.1) bp sc lk = some (-1) := by unfold f_X9_worth; rw [e1, Option.bind_some, if_pos rfl]
    have hY : f_X10_worth y1 ymn ybs yst ylk yri ywh yal ynu = some (-1) := by unfold f_X10_worth; rw [e2, Option.bind_some, if_pos rfl]
    exact ⟨_, _, _, xo_of hX rfl, xo_of hY rfl, D, a, hI0⟩
  · have hX : f_X9_worth (nI j) (nI (rw_ D.1 a)) (nI D.1) (nI D.2.1) bp sc lk = some (iI (wth D a (ps D.1 a j) + 1000)) := by
      unfold f_X9_worth
      rw [e1, Option.bind_some, if_neg (by decide), E_worthOf ok hHX ha hj, Option.bind_some, show (1000 : Int32) = iI 1000 from rfl, iI_add]
    have hY : f_X10_worth (nI j) ymn ybs yst ylk yri ywh yal ynu = some (iI (wth D a (ps D.1 a j) + 1000)) := by
      unfold f_X10_worth
      rw [e2, Option.bind_some, if_neg (by decide), E_now hTB hHY.1 h6 ha hwh, Option.bind_some, E_worthIn ok hHY hTB ha hj, Option.bind_some, show (1000 : Int32) = iI 1000 from rfl, iI_add, Int.add_comm]
    exact ⟨_, _, _, xo_of hX rfl, xo_of hY rfl, D, a, hI0⟩
theorem op_at : ∀ (y1 : Int32) (X : ZX9) (Y : ZX10), Inv X Y → ∃ (r : Int32) (X1 : ZX9) (Y1 : ZX10), xo_at y1 X = some (r, X1) ∧ yo_at y1 Y = some (r, Y1) ∧ Inv X1 Y1 := by
  intro y1 X Y hI
  obtain ⟨⟨tby, tle, tnu⟩, ⟨pe, ri, hto, bp, sc, kd, lk⟩, dr, row, ⟨ton, tos⟩, ⟨don, dos⟩, ⟨ken, kes⟩, ⟨sw, sf, st, sy, ss⟩, gr, gd, se, ev, wa⟩ := X
  obtain ⟨yle, ytx, ymn, ybs, yst, ykd, ylk, yri, yli, ywh, ykm, yun, yum, yrm, yrw, ysm, yso, ysf, ysg, ysy, ypl, yto, yam, yal, ynu, ytr, ywe, ywt, ylo, yre, ywa, ynx⟩ := Y
  obtain ⟨D, a, hI⟩ := hI
  have hI0 : InvC D a tby tle pe ri bp sc kd lk row ton tos don dos ken kes sw sf st sy ss gr gd yle ytx ymn ybs yst ykd ylk yri ywh ykm yun yum yrm yrw ysm yso ysf ysg ysy yam yal ynu := hI
  obtain ⟨ok, ha, hT, hpe, hri, hHX, hHY, hTB, hrow, hwh, hR, hU, hK, hS, hG⟩ := id hI0
  have h2 := ok.1
  have h6 := ok.2.1
  have hg := ok.2.2.1
  subst hpe hri hrow
  rcases place_cases hHY.1 h2 h6 y1 with ⟨e1, e2⟩ | ⟨j, hj, rfl, e1, e2⟩
  · have hX : f_X9_at y1 (nI (rw_ D.1 a)) (nI D.1) = some (-1) := by unfold f_X9_at; rw [e1, Option.bind_some, if_pos rfl]
    have hY : f_X10_at y1 ymn ywh = some (-1) := by unfold f_X10_at; rw [e2, Option.bind_some, if_pos rfl]
    exact ⟨_, _, _, xo_of hX rfl, xo_of hY rfl, D, a, hI0⟩
  · have hX : f_X9_at (nI j) (nI (rw_ D.1 a)) (nI D.1) = some (nI (dg D.1 a j)) := by
      unfold f_X9_at
      rw [e1, Option.bind_some, if_neg (by decide), tb_who D.1 a ha j hj, Option.bind_some]
    have hY : f_X10_at (nI j) ymn ywh = some (nI (dg D.1 a j)) := by
      unfold f_X10_at
      rw [e2, Option.bind_some, if_neg (by decide), bdn _ (by omega) (by omega), nI_cl (by omega), hwh j hj]
    exact ⟨_, _, _, xo_of hX rfl, xo_of hY rfl, D, a, hI0⟩
theorem op_likes : ∀ (y1 : Int32) (y2 : Int32) (X : ZX9) (Y : ZX10), Inv X Y → ∃ (r : Int32) (X1 : ZX9) (Y1 : ZX10), xo_likes y1 y2 X = some (r, X1) ∧ yo_likes y1 y2 Y = some (r, Y1) ∧ Inv X1 Y1 := by
  intro y1 y2 X Y hI
  obtain ⟨⟨tby, tle, tnu⟩, ⟨pe, ri, hto, bp, sc, kd, lk⟩, dr, row, ⟨ton, tos⟩, ⟨don, dos⟩, ⟨ken, kes⟩, ⟨sw, sf, st, sy, ss⟩, gr, gd, se, ev, wa⟩ := X
  obtain ⟨yle, ytx, ymn, ybs, yst, ykd, ylk, yri, yli, ywh, ykm, yun, yum, yrm, yrw, ysm, yso, ysf, ysg, ysy, ypl, yto, yam, yal, ynu, ytr, ywe, ywt, ylo, yre, ywa, ynx⟩ := Y
  obtain ⟨D, a, hI⟩ := hI
  have hI0 : InvC D a tby tle pe ri bp sc kd lk row ton tos don dos ken kes sw sf st sy ss gr gd yle ytx ymn ybs yst ykd ylk yri ywh ykm yun yum yrm yrw ysm yso ysf ysg ysy yam yal ynu := hI
  obtain ⟨ok, ha, hT, hpe, hri, hHX, hHY, hTB, hrow, hwh, hR, hU, hK, hS, hG⟩ := id hI0
  have h2 := ok.1
  have h6 := ok.2.1
  have hg := ok.2.2.1
  subst hpe hri hrow
  rcases place_cases hHY.1 h2 h6 y1 with ⟨e1, e2⟩ | ⟨i, hi, rfl, e1, e2⟩
  · have hX : f_X9_likes y1 y2 (nI D.1) lk = some (-1) := by unfold f_X9_likes; rw [e1, Option.bind_some, if_pos rfl]
    have hY : f_X10_likes y1 y2 ymn ylk = some (-1) := by unfold f_X10_likes; rw [e2, Option.bind_some, if_pos rfl]
    exact ⟨_, _, _, xo_of hX rfl, xo_of hY rfl, D, a, hI0⟩
  · rcases place_cases hHY.1 h2 h6 y2 with ⟨e3, e4⟩ | ⟨j, hj, rfl, e3, e4⟩
    · have hX : f_X9_likes (nI i) y2 (nI D.1) lk = some (-1) := by unfold f_X9_likes; rw [e1, Option.bind_some, if_neg (by decide), e3, Option.bind_some, if_pos rfl]
      have hY : f_X10_likes (nI i) y2 ymn ylk = some (-1) := by unfold f_X10_likes; rw [e2, Option.bind_some, if_neg (by decide), e4, Option.bind_some, if_pos rfl]
      exact ⟨_, _, _, xo_of hX rfl, xo_of hY rfl, D, a, hI0⟩
    · by_cases hij : nI i = nI j
      · have hX : f_X9_likes (nI i) (nI j) (nI D.1) lk = some (-1) := by unfold f_X9_likes; rw [e1, Option.bind_some, if_neg (by decide), e3, Option.bind_some, if_neg (by decide), if_pos hij]
        have hY : f_X10_likes (nI i) (nI j) ymn ylk = some (-1) := by unfold f_X10_likes; rw [e2, Option.bind_some, if_neg (by decide), e4, Option.bind_some, if_neg (by decide), if_pos hij]
        exact ⟨_, _, _, xo_of hX rfl, xo_of hY rfl, D, a, hI0⟩
      · have hX : f_X9_likes (nI i) (nI j) (nI D.1) lk = some (nI (D.2.2.2.2.2 i j)) := by
          unfold f_X9_likes
          rw [e1, Option.bind_some, if_neg (by decide), e3, Option.bind_some, if_neg (by decide), if_neg hij, E_liking lk hi hj h6, Option.bind_some, hHX.2.2.2 i hi j hj]
        have hY : f_X10_likes (nI i) (nI j) ymn ylk = some (nI (D.2.2.2.2.2 i j)) := by
          unfold f_X10_likes
          rw [e2, Option.bind_some, if_neg (by decide), e4, Option.bind_some, if_neg (by decide), if_neg hij, show (6 : Int32) * nI i + nI j = nI (6 * i + j) from nI_ma 6 i j, bdn _ (by omega) (by omega), nI_cl (by omega), hHY.2.2.2.2.2 i hi j hj]
        exact ⟨_, _, _, xo_of hX rfl, xo_of hY rfl, D, a, hI0⟩
theorem in3 (x : Int32) : (f_X10_in x.toInt64 0 3 = some 0 ∧ x ≠ 0 ∧ x ≠ 1 ∧ x ≠ 2 ∧ x ≠ 3) ∨ (f_X10_in x.toInt64 0 3 = some 1 ∧ (x = 0 ∨ x = 1 ∨ x = 2 ∨ x = 3)) := by
  have e : f_X10_in x.toInt64 0 3 = some (if x < 0 then 0 else if nI 3 < x then 0 else 1) := in_eq x (k := 3) (by omega)
  rw [e]
  rcases nI_range x (n := 4) (by omega) with h | ⟨h0, h⟩ | ⟨j, hj, rfl⟩
  · left
    refine ⟨by rw [if_pos h], ?_, ?_, ?_, ?_⟩ <;> (rintro rfl; exact absurd h (by decide))
  · left
    have : nI 3 < x := Int32.lt_of_lt_of_le (nI_lt (by omega) (by omega)) h
    refine ⟨by rw [if_neg h0, if_pos this], ?_, ?_, ?_, ?_⟩ <;> (rintro rfl; exact absurd h (by decide))
  · right
    rcases (show j = 0 ∨ j = 1 ∨ j = 2 ∨ j = 3 by omega) with rfl | rfl | rfl | rfl
    · exact ⟨by decide, Or.inl rfl⟩
    · exact ⟨by decide, Or.inr (Or.inl rfl)⟩
    · exact ⟨by decide, Or.inr (Or.inr (Or.inl rfl))⟩
    · exact ⟨by decide, Or.inr (Or.inr (Or.inr rfl))⟩
theorem op_person : ∀ (y1 : Int32) (y2 : Int32) (X : ZX9) (Y : ZX10), Inv X Y → ∃ (r : Int32) (X1 : ZX9) (Y1 : ZX10), xo_person y1 y2 X = some (r, X1) ∧ yo_person y1 y2 Y = some (r, Y1) ∧ Inv X1 Y1 := by
  intro y1 y2 X Y hI
  obtain ⟨⟨tby, tle, tnu⟩, ⟨pe, ri, hto, bp, sc, kd, lk⟩, dr, row, ⟨ton, tos⟩, ⟨don, dos⟩, ⟨ken, kes⟩, ⟨sw, sf, st, sy, ss⟩, gr, gd, se, ev, wa⟩ := X
  obtain ⟨yle, ytx, ymn, ybs, yst, ykd, ylk, yri, yli, ywh, ykm, yun, yum, yrm, yrw, ysm, yso, ysf, ysg, ysy, ypl, yto, yam, yal, ynu, ytr, ywe, ywt, ylo, yre, ywa, ynx⟩ := Y
  obtain ⟨D, a, hI⟩ := hI
  have hI0 : InvC D a tby tle pe ri bp sc kd lk row ton tos don dos ken kes sw sf st sy ss gr gd yle ytx ymn ybs yst ykd ylk yri ywh ykm yun yum yrm yrw ysm yso ysf ysg ysy yam yal ynu := hI
  obtain ⟨ok, ha, hT, hpe, hri, hHX, hHY, hTB, hrow, hwh, hR, hU, hK, hS, hG⟩ := id hI0
  have h2 := ok.1
  have h6 := ok.2.1
  have hg := ok.2.2.1
  subst hpe hri hrow
  rcases place_cases hHY.1 h2 h6 y1 with ⟨e1, e2⟩ | ⟨i, hi, rfl, e1, e2⟩
  · have hX : f_X9_person y1 y2 (nI (rw_ D.1 a)) (nI D.1) bp sc kd = some (-1) := by unfold f_X9_person; rw [e1, Option.bind_some, if_pos rfl]
    have hY : f_X10_person y1 y2 ymn ybs yst ykd ywh yal ynu = some (-1) := by unfold f_X10_person; rw [e2, Option.bind_some, if_pos rfl]
    exact ⟨_, _, _, xo_of hX rfl, xo_of hY rfl, D, a, hI0⟩
  · rcases in3 y2 with ⟨e3, n0, n1, n2, n3⟩ | ⟨e3, hy⟩
    · have hX : f_X9_person (nI i) y2 (nI (rw_ D.1 a)) (nI D.1) bp sc kd = some (-1) := by unfold f_X9_person; rw [e1, Option.bind_some, if_neg (by decide), if_neg n0, if_neg n1, if_neg n2, if_neg n3]
      have hY : f_X10_person (nI i) y2 ymn ybs yst ykd ywh yal ynu = some (-1) := by unfold f_X10_person; rw [e2, Option.bind_some, if_neg (by decide), e3, Option.bind_some, if_pos rfl]
      exact ⟨_, _, _, xo_of hX rfl, xo_of hY rfl, D, a, hI0⟩
    · rcases hy with rfl | rfl | rfl | rfl
      · have hX : f_X9_person (nI i) 0 (nI (rw_ D.1 a)) (nI D.1) bp sc kd = some (nI (D.2.2.1 i)) := by unfold f_X9_person; rw [e1, Option.bind_some, if_neg (by decide), if_pos rfl, bdn _ (by omega) (by omega), nI_cl (by omega), hHX.1 i hi]
        have hY : f_X10_person (nI i) 0 ymn ybs yst ykd ywh yal ynu = some (nI (D.2.2.1 i)) := by unfold f_X10_person; rw [e2, Option.bind_some, if_neg (by decide), e3, Option.bind_some, if_neg (by decide), if_pos rfl, bdn _ (by omega) (by omega), nI_cl (by omega), hHY.2.2.1 i hi]
        exact ⟨_, _, _, xo_of hX rfl, xo_of hY rfl, D, a, hI0⟩
      · have hX : f_X9_person (nI i) 1 (nI (rw_ D.1 a)) (nI D.1) bp sc kd = some (nI (D.2.2.2.1 i)) := by unfold f_X9_person; rw [e1, Option.bind_some, if_neg (by decide), if_neg (by decide), if_pos rfl, bdn _ (by omega) (by omega), nI_cl (by omega), hHX.2.1 i hi]
        have hY : f_X10_person (nI i) 1 ymn ybs yst ykd ywh yal ynu = some (nI (D.2.2.2.1 i)) := by unfold f_X10_person; rw [e2, Option.bind_some, if_neg (by decide), e3, Option.bind_some, if_neg (by decide), if_neg (by decide), if_pos rfl, bdn _ (by omega) (by omega), nI_cl (by omega), hHY.2.2.2.1 i hi]
        exact ⟨_, _, _, xo_of hX rfl, xo_of hY rfl, D, a, hI0⟩
      · have hX : f_X9_person (nI i) 2 (nI (rw_ D.1 a)) (nI D.1) bp sc kd = some (nI (D.2.2.2.2.1 i)) := by unfold f_X9_person; rw [e1, Option.bind_some, if_neg (by decide), if_neg (by decide), if_neg (by decide), if_pos rfl, bdn _ (by omega) (by omega), nI_cl (by omega), hHX.2.2.1 i hi]
        have hY : f_X10_person (nI i) 2 ymn ybs yst ykd ywh yal ynu = some (nI (D.2.2.2.2.1 i)) := by unfold f_X10_person; rw [e2, Option.bind_some, if_neg (by decide), e3, Option.bind_some, if_neg (by decide), if_neg (by decide), if_neg (by decide), if_pos rfl, bdn _ (by omega) (by omega), nI_cl (by omega), hHY.2.2.2.2.1 i hi]
        exact ⟨_, _, _, xo_of hX rfl, xo_of hY rfl, D, a, hI0⟩
      · have hX : f_X9_person (nI i) 3 (nI (rw_ D.1 a)) (nI D.1) bp sc kd = some (nI (ps D.1 a i)) := by unfold f_X9_person; rw [e1, Option.bind_some, if_neg (by decide), if_neg (by decide), if_neg (by decide), if_neg (by decide), if_pos rfl, tb_place D.1 a ha i hi, Option.bind_some]
        have hY : f_X10_person (nI i) 3 ymn ybs yst ykd ywh yal ynu = some (nI (ps D.1 a i)) := by unfold f_X10_person; rw [e2, Option.bind_some, if_neg (by decide), e3, Option.bind_some, if_neg (by decide), if_neg (by decide), if_neg (by decide), if_neg (by decide), E_now hTB hHY.1 h6 ha hwh, Option.bind_some, E_placeIn hTB h6 ha hi, Option.bind_some]
        exact ⟨_, _, _, xo_of hX rfl, xo_of hY rfl, D, a, hI0⟩
theorem op_suits : ∀ (y1 : Int32) (y2 : Int32) (X : ZX9) (Y : ZX10), (y2 = 0 ∨ y2 = 1) → Inv X Y → ∃ (r : Int32) (X1 : ZX9) (Y1 : ZX10), xo_suits y1 y2 X = some (r, X1) ∧ yo_suits y1 y2 Y = some (r, Y1) ∧ Inv X1 Y1 := by
  intro y1 y2 X Y hz hI
  obtain ⟨⟨tby, tle, tnu⟩, ⟨pe, ri, hto, bp, sc, kd, lk⟩, dr, row, ⟨ton, tos⟩, ⟨don, dos⟩, ⟨ken, kes⟩, ⟨sw, sf, st, sy, ss⟩, gr, gd, se, ev, wa⟩ := X
  obtain ⟨yle, ytx, ymn, ybs, yst, ykd, ylk, yri, yli, ywh, ykm, yun, yum, yrm, yrw, ysm, yso, ysf, ysg, ysy, ypl, yto, yam, yal, ynu, ytr, ywe, ywt, ylo, yre, ywa, ynx⟩ := Y
  obtain ⟨D, a, hI⟩ := hI
  have hI0 : InvC D a tby tle pe ri bp sc kd lk row ton tos don dos ken kes sw sf st sy ss gr gd yle ytx ymn ybs yst ykd ylk yri ywh ykm yun yum yrm yrw ysm yso ysf ysg ysy yam yal ynu := hI
  obtain ⟨ok, ha, hT, hpe, hri, hHX, hHY, hTB, hrow, hwh, hR, hU, hK, hS, hG⟩ := id hI0
  have h2 := ok.1
  have h6 := ok.2.1
  have hg := ok.2.2.1
  subst hpe hri hrow
  rcases hz with rfl | rfl
  · rcases change_cases hHY.1 hHY.2.1 h2 h6 hg y1 with ⟨e1, e2⟩ | ⟨x, hx, rfl, e1, e2⟩
    · have hX : f_X9_suits y1 0 (nI (rw_ D.1 a)) (nI D.1) (nI D.2.1) bp sc kd lk = some (-1) := by unfold f_X9_suits; rw [if_pos rfl, e1, Option.bind_some, if_pos rfl]
      have hY : f_X10_suits y1 0 ymn ybs yst ykd ylk yri ywh yal ynu ytr = some (-1, ytr) := by unfold f_X10_suits; rw [if_pos rfl, e2, Option.bind_some, if_pos rfl]
      exact ⟨_, _, _, xo_of hX rfl, xo_of hY rfl, D, a, hI0⟩
    · have hxn : x < D.1 := Nat.lt_of_lt_of_le hx (kk_bd h2 h6).2
      obtain ⟨tr', hd⟩ := E_doesSuit0 (tr := ytr) ok hHY hTB ha hxn
      have hX : f_X9_suits (nI x) 0 (nI (rw_ D.1 a)) (nI D.1) (nI D.2.1) bp sc kd lk = some (bI (suitB D a x)) := by
        unfold f_X9_suits f_X9_suits_b31 f_X9_suits_b68
        rw [if_pos rfl, e1, Option.bind_some, if_neg (by decide), if_pos rfl, E_changeSuits ok hHX ha hxn, Option.bind_some]
        cases suitB D a x
        · exact if_pos rfl
        · exact if_neg (by decide)
      have hY : f_X10_suits (nI x) 0 ymn ybs yst ykd ylk yri ywh yal ynu ytr = some (bI (suitB D a x), tr') := by
        unfold f_X10_suits f_X10_suits_b25
        rw [if_pos rfl, e2, Option.bind_some, if_neg (by decide), E_now hTB hHY.1 h6 ha hwh, Option.bind_some, hd, Option.bind_some]
        cases suitB D a x
        · exact if_pos rfl
        · exact if_neg (show ¬ bI true = 0 by decide)
      exact ⟨_, _, _, xo_of hX rfl, xo_of hY rfl, D, a, hI0⟩
  · have g1 : ¬ (1 : Int32) = 0 := by decide
    rcases round_cases hHY.1 hHY.2.1 h2 h6 hg y1 with ⟨e1, e2⟩ | ⟨x, hxn, h3, rfl, e1, e2⟩
    · have hX : f_X9_suits y1 1 (nI (rw_ D.1 a)) (nI D.1) (nI D.2.1) bp sc kd lk = some (-1) := by unfold f_X9_suits; rw [if_neg g1, e1, Option.bind_some, if_pos rfl]
      have hY : f_X10_suits y1 1 ymn ybs yst ykd ylk yri ywh yal ynu ytr = some (-1, ytr) := by unfold f_X10_suits; rw [if_neg g1, e2, Option.bind_some, if_pos rfl]
      exact ⟨_, _, _, xo_of hX rfl, xo_of hY rfl, D, a, hI0⟩
    · obtain ⟨tr', hd⟩ := E_doesSuit1 (tr := ytr) ok hHY hTB h3 ha hxn
      have hX : f_X9_suits (nI x) 1 (nI (rw_ D.1 a)) (nI D.1) (nI D.2.1) bp sc kd lk = some (bI (roundB D a x)) := by
        unfold f_X9_suits f_X9_suits_b31 f_X9_suits_b68
        rw [if_neg g1, e1, Option.bind_some, if_neg (by decide), if_neg g1, E_roundSuits ok hHX ha hxn, Option.bind_some]
        cases roundB D a x
        · exact if_pos rfl
        · exact if_neg (by decide)
      have hY : f_X10_suits (nI x) 1 ymn ybs yst ykd ylk yri ywh yal ynu ytr = some (bI (roundB D a x), tr') := by
        unfold f_X10_suits f_X10_suits_b25
        rw [if_neg g1, e2, Option.bind_some, if_neg (by decide), E_now hTB hHY.1 h6 ha hwh, Option.bind_some, hd, Option.bind_some]
        cases roundB D a x
        · exact if_pos rfl
        · exact if_neg (show ¬ bI true = 0 by decide)
      exact ⟨_, _, _, xo_of hX rfl, xo_of hY rfl, D, a, hI0⟩
