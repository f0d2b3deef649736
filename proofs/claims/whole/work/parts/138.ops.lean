theorem op_best : ∀ (y1 : Int32) (X : ZX9) (Y : ZX10), Inv X Y → ∃ (r : Int32) (X1 : ZX9) (Y1 : ZX10), xo_best y1 X = some (r, X1) ∧ yo_best y1 Y = some (r, Y1) ∧ Inv X1 Y1 := by
  intro y1 X Y hI
  obtain ⟨⟨tby, tle, tnu⟩, ⟨pe, ri, hto, bp, sc, kd, lk⟩, dr, row, ⟨ton, tos⟩, ⟨don, dos⟩, ⟨ken, kes⟩, ⟨sw, sf, st, sy, ss⟩, gr, gd, se, ev, wa⟩ := X
  obtain ⟨yle, ytx, ymn, ybs, yst, ykd, ylk, yri, yli, ywh, ykm, yun, yum, yrm, yrw, ysm, yso, ysf, ysg, ysy, ypl, yto, yam, yal, ynu, ytr, ywe, ywt, ylo, yre, ywa, ynx⟩ := Y
  obtain ⟨D, a, hI⟩ := hI
  have hI0 : InvC D a tby tle pe ri bp sc kd lk row ton tos don dos ken kes sw sf st sy ss gr gd yle ytx ymn ybs yst ykd ylk yri ywh ykm yun yum yrm yrw ysm yso ysf ysg ysy yam yal ynu := hI
  obtain ⟨ok, ha, hT, hpe, hri, hHX, hHY, hTB, hrow, hwh, hR, hU, hK, hS, hG⟩ := id hI0
  have h2 := ok.1
  have h6 := ok.2.1
  have hg := ok.2.2.1
  subst hpe hri hrow
  have hNN := NN_1 D.1 (by omega) h2
  have hb : bst_ D (NN D.1) < NN D.1 := bst_lt D _ (by omega)
  rcases all_cases hHY.1 h2 h6 y1 with ⟨e0, e1, e2⟩ | ⟨rfl, e1⟩ | ⟨j, hj, rfl, e0, e1, e2⟩
  · have hX : f_X9_best y1 (nI D.1) (nI D.2.1) bp sc lk = some (-1) := by unfold f_X9_best; rw [e1, Option.bind_some, if_pos rfl]
    have hY : f_X10_best y1 yam ymn ybs yst ylk yri yal = some (-1) := by unfold f_X10_best; rw [if_neg e0, e2, Option.bind_some, if_pos rfl]
    exact ⟨_, _, _, xo_of hX rfl, xo_of hY rfl, D, a, hI0⟩
  · have hX : f_X9_best (-1) (nI D.1) (nI D.2.1) bp sc lk = some (iI (smw D (bst_ D (NN D.1)) + 10000)) := by
      unfold f_X9_best
      rw [e1, Option.bind_some, if_neg (by decide), E_best_x ok hHX]
      unfold f_X9_best_b102
      rw [if_neg (by decide), show (10000 : Int32) = iI 10000 from rfl, iI_add]
    have hY : f_X10_best (-1) yam ymn ybs yst ylk yri yal = some (iI (smw D (bst_ D (NN D.1)) + 10000)) := by
      unfold f_X10_best
      rw [if_pos rfl, E_best_y ok hHY hTB, if_neg (by decide), show (10000 : Int32) = iI 10000 from rfl, iI_add, Int.add_comm]
    exact ⟨_, _, _, xo_of hX rfl, xo_of hY rfl, D, a, hI0⟩
  · have hX : f_X9_best (nI j) (nI D.1) (nI D.2.1) bp sc lk = some (nI (dg D.1 (bst_ D (NN D.1)) j)) := by
      unfold f_X9_best
      rw [e1, Option.bind_some, if_neg (by decide), E_best_x ok hHX]
      unfold f_X9_best_b102
      rw [if_pos (nI_ge0 (by omega)), tb_who D.1 _ hb j hj, Option.bind_some]
    have hY : f_X10_best (nI j) yam ymn ybs yst ylk yri yal = some (nI (dg D.1 (bst_ D (NN D.1)) j)) := by
      unfold f_X10_best
      rw [if_neg e0, e2, Option.bind_some, if_neg (by decide), E_best_y ok hHY hTB, if_pos (nI_ge0 (by omega)), E_whoIn hTB h6 hb hj, Option.bind_some]
    exact ⟨_, _, _, xo_of hX rfl, xo_of hY rfl, D, a, hI0⟩
