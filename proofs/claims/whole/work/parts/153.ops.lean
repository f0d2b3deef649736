theorem op_rests : ∀ (y1 : Int32) (X : ZX9) (Y : ZX10), Inv X Y → ∃ (r : Int32) (X1 : ZX9) (Y1 : ZX10), xo_rests y1 X = some (r, X1) ∧ yo_rests y1 Y = some (r, Y1) ∧ Inv X1 Y1 := by
  intro y1 X Y hI
  obtain ⟨⟨tby, tle, tnu⟩, ⟨pe, ri, hto, bp, sc, kd, lk⟩, dr, row, ⟨ton, tos⟩, ⟨don, dos⟩, ⟨ken, kes⟩, ⟨sw, sf, st, sy, ss⟩, gr, gd, se, ev, wa⟩ := X
  obtain ⟨yle, ytx, ymn, ybs, yst, ykd, ylk, yri, yli, ywh, ykm, yun, yum, yrm, yrw, ysm, yso, ysf, ysg, ysy, ypl, yto, yam, yal, ynu, ytr, ywe, ywt, ylo, yre, ywa, ynx⟩ := Y
  obtain ⟨D, a, hI⟩ := hI
  have hI0 : InvC D a tby tle pe ri bp sc kd lk row ton tos don dos ken kes sw sf st sy ss gr gd yle ytx ymn ybs yst ykd ylk yri ywh ykm yun yum yrm yrw ysm yso ysf ysg ysy yam yal ynu := hI
  obtain ⟨ok, ha, hT, hpe, hri, hHX, hHY, hTB, hrow, hwh, hR, hU, hK, hS, hG⟩ := id hI0
  have h2 := ok.1
  have h6 := ok.2.1
  have hg := ok.2.2.1
  subst hpe hri hrow
  have h0 := NF_big
  have hN := NN_le D.1
  rcases all_cases hHY.1 h2 h6 y1 with ⟨e0, e1, e2⟩ | ⟨rfl, e1⟩ | ⟨j, hj, rfl, e0, e1, e2⟩
  · have hX : f_X9_rests y1 gd (nI D.1) (nI D.2.1) bp sc kd lk gr.2.2.1 gr.2.2.2.1 gr.2.2.2.2.1 gr.2.2.2.2.2.1 gr.2.2.2.2.2.2 gr.1 gr.2.1 = some (-1, gd, gr.2.2.1, gr.2.2.2.1, gr.2.2.2.2.1, gr.2.2.2.2.2.1, gr.2.2.2.2.2.2, gr.1, gr.2.1) := by unfold f_X9_rests; rw [e1, Option.bind_some, if_pos rfl]
    have hY : f_X10_rests y1 yam ymn ybs yst ykd ylk yri yal ynu ytr ywe = some (-1, ytr, ywe) := by unfold f_X10_rests; rw [if_neg e0, e2, Option.bind_some, if_pos rfl]
    exact ⟨_, _, _, xo_of hX rfl, xo_of hY rfl, D, a, hI0⟩
  · obtain ⟨rows, edges, hd, hG0⟩ := E_drawGraph ok hHX hG
    obtain ⟨tr', we', hw, hW⟩ := E_layWeb ok hHY hTB ytr ywe
    have hX : f_X9_rests (-1) gd (nI D.1) (nI D.2.1) bp sc kd lk gr.2.2.1 gr.2.2.2.1 gr.2.2.2.2.1 gr.2.2.2.2.2.1 gr.2.2.2.2.2.2 gr.1 gr.2.1 = some (nI (rests D 0 (NN D.1)), 1, nI D.1, nI (NN D.1), nI (kk D.1 D.2.1), nI (rests D 0 (NN D.1)), frest D 0 (NN D.1), rows, edges) := by
      unfold f_X9_rests
      rw [e1, Option.bind_some, if_neg (by decide), hd, Option.bind_some, if_neg (by decide)]
    have hY : f_X10_rests (-1) yam ymn ybs yst ykd ylk yri yal ynu ytr ywe = some (nI (rests D 0 (NN D.1)), tr', we') := by
      unfold f_X10_rests f_X10_rests_b15
      rw [if_pos rfl, hw, Option.bind_some]
      have h := E_restsY_all (tr := tr') ok hHY hTB hW (NN D.1) 0 NF 0 (by omega) (by omega)
      rw [Nat.zero_add] at h
      exact h
    exact ⟨_, _, _, xo_of hX rfl, xo_of hY rfl, D, a, ok, ha, hT, rfl, rfl, hHX, hHY, hTB, rfl, hwh, hR, hU, hK, hS, Or.inr ⟨rfl, rfl, rfl, rfl, hG0.1, hG0.2, rfl, rfl⟩⟩
  · obtain ⟨rows, edges, hd, hG0⟩ := E_drawGraph ok hHX hG
    obtain ⟨tr', we', hw, hW⟩ := E_layWeb ok hHY hTB ytr ywe
    have hX : f_X9_rests (nI j) gd (nI D.1) (nI D.2.1) bp sc kd lk gr.2.2.1 gr.2.2.2.1 gr.2.2.2.2.1 gr.2.2.2.2.2.1 gr.2.2.2.2.2.2 gr.1 gr.2.1 = some (ansR D j 0 (NN D.1), 1, nI D.1, nI (NN D.1), nI (kk D.1 D.2.1), nI (rests D 0 (NN D.1)), frest D 0 (NN D.1), rows, edges) := by
      unfold f_X9_rests
      rw [e1, Option.bind_some, if_neg (by decide), hd, Option.bind_some, if_pos (nI_ge0 (by omega))]
      rcases frest_ans D j (NN D.1) 0 with ⟨q1, q2⟩ | ⟨s, s1, q1, q2⟩
      · rw [q2]
        refine (if_neg ?_).trans ?_
        · show ¬ (0 : Int32) ≤ frest D 0 (NN D.1)
          rw [q1]; decide
        · rfl
      · have hs : s < NN D.1 := by omega
        rw [q2]
        refine (if_pos ?_).trans ?_
        · show (0 : Int32) ≤ frest D 0 (NN D.1)
          rw [q1]; exact nI_ge0 (by omega)
        · show Option.bind (f_X1_rowOf (frest D 0 (NN D.1)) (nI (NN D.1)) rows) _ = _
          have hr : f_X1_rowOf (frest D 0 (NN D.1)) (nI (NN D.1)) rows = some (nI (rw_ D.1 s)) := by
            unfold f_X1_rowOf
            rw [q1, if_neg (nI_lt0 (by omega)), if_neg (nI_ge hs (by omega)), bdn _ (by omega) (by omega), nI_cl (by omega), hG0.1 s hs]
          rw [hr, Option.bind_some, tb_who D.1 s hs j hj, Option.bind_some]
    have hY : f_X10_rests (nI j) yam ymn ybs yst ykd ylk yri yal ynu ytr ywe = some (ansR D j 0 (NN D.1), tr', we') := by
      unfold f_X10_rests f_X10_rests_b15
      rw [if_neg e0, e2, Option.bind_some, if_neg (by decide), hw, Option.bind_some]
      exact E_restsY_p (tr := tr') ok hHY hTB hW hj (NN D.1) 0 NF 0 (by omega) (by omega)
    exact ⟨_, _, _, xo_of hX rfl, xo_of hY rfl, D, a, ok, ha, hT, rfl, rfl, hHX, hHY, hTB, rfl, hwh, hR, hU, hK, hS, Or.inr ⟨rfl, rfl, rfl, rfl, hG0.1, hG0.2, rfl, rfl⟩⟩
