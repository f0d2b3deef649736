theorem op_goingOn : ∀ (y1 : Int32) (X : ZX9) (Y : ZX10), Inv X Y → ∃ (r : Int32) (X1 : ZX9) (Y1 : ZX10), xo_goingOn y1 X = some (r, X1) ∧ yo_goingOn y1 Y = some (r, Y1) ∧ Inv X1 Y1 := by
  intro y1 X Y hI
  obtain ⟨⟨tby, tle, tnu⟩, ⟨pe, ri, hto, bp, sc, kd, lk⟩, dr, row, ⟨ton, tos⟩, ⟨don, dos⟩, ⟨ken, kes⟩, ⟨sw, sf, st, sy, ss⟩, gr, gd, se, ev, wa⟩ := X
  obtain ⟨yle, ytx, ymn, ybs, yst, ykd, ylk, yri, yli, ywh, ykm, yun, yum, yrm, yrw, ysm, yso, ysf, ysg, ysy, ypl, yto, yam, yal, ynu, ytr, ywe, ywt, ylo, yre, ywa, ynx⟩ := Y
  obtain ⟨D, a, hI⟩ := hI
  have hI0 : InvC D a tby tle pe ri bp sc kd lk row ton tos don dos ken kes sw sf st sy ss gr gd yle ytx ymn ybs yst ykd ylk yri ywh ykm yun yum yrm yrw ysm yso ysf ysg ysy yam yal ynu := hI
  obtain ⟨ok, ha, hT, hpe, hri, hHX, hHY, hTB, hrow, hwh, hR, hU, hK, hS, hG⟩ := id hI0
  have h2 := ok.1
  have h6 := ok.2.1
  have hg := ok.2.2.1
  subst hpe hri hrow
  rcases all_cases hHY.1 h2 h6 y1 with ⟨e0, e1, e2⟩ | hc
  · have hX : f_X9_goingOn y1 (nI (rw_ D.1 a)) (nI D.1) (nI D.2.1) bp sc kd lk wa.1 wa.2 = some (-1, wa.1, wa.2) := by unfold f_X9_goingOn; rw [e1, Option.bind_some, if_pos rfl]
    have hY : f_X10_goingOn y1 yam ywt ymn ybs yst ykd ylk yri ywh yal ynu ytr ywe = some (-1, ywt, ytr, ywe) := by unfold f_X10_goingOn; rw [if_neg e0, e2, Option.bind_some, if_pos rfl]
    exact ⟨_, _, _, xo_of hX rfl, xo_of hY rfl, D, a, hI0⟩
  · have e1 : f_X9_isPlaceOrAll y1 (nI D.1) = some 1 := by
      rcases hc with ⟨_, e⟩ | ⟨_, _, _, _, e, _⟩ <;> exact e
    have eY : f_X10_goingOn y1 yam ywt ymn ybs yst ykd ylk yri ywh yal ynu ytr ywe = f_X10_goingOn_b15 yam ymn ybs yst ykd ylk yri ywh yal ynu y1 ywt ytr ywe := by
      unfold f_X10_goingOn
      rcases hc with ⟨e, _⟩ | ⟨_, _, _, e0, _, e2⟩
      · rw [if_pos e]
      · rw [if_neg e0, e2, Option.bind_some, if_neg (by decide)]
    obtain ⟨c, st', en', x1, x2⟩ := E_comes (os := wa.1) (oe := wa.2) ok hHX ha
    obtain ⟨r, wt', tr', we', z1, z2⟩ := E_goOn (wt := ywt) ok hHY hTB ha hwh ytr ywe
    rcases x2 with ⟨rfl, m, hm, rfl, rfl⟩ | ⟨rfl, hno⟩
    · obtain ⟨rfl, rfl⟩ : r = nI m ∧ wt' = nI (itr D a m) := by
        rcases z2 with ⟨m', hm', q1, q2⟩ | ⟨_, hno⟩
        · rw [RestAt_uniq hm hm']; exact ⟨q1, q2⟩
        · exact absurd (RestAt_no hm hno) (fun h => h)
      have hmb := hm.1
      have hi := itr_lt ok ha m
      rcases hc with ⟨rfl, _⟩ | ⟨j, hj, rfl, _, _, _⟩
      · have hX : f_X9_goingOn (-1) (nI (rw_ D.1 a)) (nI D.1) (nI D.2.1) bp sc kd lk wa.1 wa.2 = some (nI m, nI m, nI (rw_ D.1 (itr D a m))) := by
          unfold f_X9_goingOn
          rw [e1, Option.bind_some, if_neg (by decide), x1, Option.bind_some]
          refine (if_neg (show ¬ (1 : Int32) = 0 by decide)).trans ?_
          exact if_neg (by decide)
        have hY : f_X10_goingOn (-1) yam ywt ymn ybs yst ykd ylk yri ywh yal ynu ytr ywe = some (nI m, nI (itr D a m), tr', we') := by
          rw [eY]
          unfold f_X10_goingOn_b15 f_X10_goingOn_b28
          rw [z1, Option.bind_some]
          refine (if_neg (show ¬ nI m < 0 from nI_lt0 (by omega))).trans ?_
          exact if_neg (by decide)
        exact ⟨_, _, _, xo_of hX rfl, xo_of hY rfl, D, a, hI0⟩
      · have hX : f_X9_goingOn (nI j) (nI (rw_ D.1 a)) (nI D.1) (nI D.2.1) bp sc kd lk wa.1 wa.2 = some (nI (dg D.1 (itr D a m) j), nI m, nI (rw_ D.1 (itr D a m))) := by
          unfold f_X9_goingOn
          rw [e1, Option.bind_some, if_neg (by decide), x1, Option.bind_some]
          refine (if_neg (show ¬ (1 : Int32) = 0 by decide)).trans ?_
          refine (if_pos (nI_ge0 (by omega))).trans ?_
          show Option.bind (f_X4_who (nI (rw_ D.1 (itr D a m))) (nI j)) _ = _
          rw [tb_who D.1 _ hi j hj, Option.bind_some]
        have hY : f_X10_goingOn (nI j) yam ywt ymn ybs yst ykd ylk yri ywh yal ynu ytr ywe = some (nI (dg D.1 (itr D a m) j), nI (itr D a m), tr', we') := by
          rw [eY]
          unfold f_X10_goingOn_b15 f_X10_goingOn_b28
          rw [z1, Option.bind_some]
          refine (if_neg (show ¬ nI m < 0 from nI_lt0 (by omega))).trans ?_
          refine (if_pos (nI_ge0 (by omega))).trans ?_
          show Option.bind (f_X10_whoIn (nI (itr D a m)) (nI j) yal) _ = _
          rw [E_whoIn hTB h6 hi hj, Option.bind_some]
        exact ⟨_, _, _, xo_of hX rfl, xo_of hY rfl, D, a, hI0⟩
    · obtain rfl : r = -4 := by
        rcases z2 with ⟨m', hm', q1, q2⟩ | ⟨q, _⟩
        · exact absurd (RestAt_no hm' hno) (fun h => h)
        · exact q
      have hX : f_X9_goingOn y1 (nI (rw_ D.1 a)) (nI D.1) (nI D.2.1) bp sc kd lk wa.1 wa.2 = some (-4, st', en') := by
        unfold f_X9_goingOn
        rw [e1, Option.bind_some, if_neg (by decide), x1, Option.bind_some]
        exact if_pos rfl
      have hY : f_X10_goingOn y1 yam ywt ymn ybs yst ykd ylk yri ywh yal ynu ytr ywe = some (-4, wt', tr', we') := by
        rw [eY]
        unfold f_X10_goingOn_b15 f_X10_goingOn_b28
        rw [z1, Option.bind_some]
        exact if_pos (show (-4 : Int32) < 0 by decide)
      exact ⟨_, _, _, xo_of hX rfl, xo_of hY rfl, D, a, hI0⟩
