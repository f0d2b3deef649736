theorem op_lie : ∀ (y1 : Int32) (y2 : Int32) (X : ZX9) (Y : ZX10), Inv X Y → ∃ (r : Int32) (X1 : ZX9) (Y1 : ZX10), xo_lie y1 y2 X = some (r, X1) ∧ yo_lie y1 y2 Y = some (r, Y1) ∧ Inv X1 Y1 := by
  intro y1 y2 X Y hI
  obtain ⟨⟨tby, tle, tnu⟩, ⟨pe, ri, hto, bp, sc, kd, lk⟩, dr, row, ⟨ton, tos⟩, ⟨don, dos⟩, ⟨ken, kes⟩, ⟨sw, sf, st, sy, ss⟩, gr, gd, se, ev, wa⟩ := X
  obtain ⟨yle, ytx, ymn, ybs, yst, ykd, ylk, yri, yli, ywh, ykm, yun, yum, yrm, yrw, ysm, yso, ysf, ysg, ysy, ypl, yto, yam, yal, ynu, ytr, ywe, ywt, ylo, yre, ywa, ynx⟩ := Y
  obtain ⟨D, a, hI⟩ := hI
  have hI0 : InvC D a tby tle pe ri bp sc kd lk row ton tos don dos ken kes sw sf st sy ss gr gd yle ytx ymn ybs yst ykd ylk yri ywh ykm yun yum yrm yrw ysm yso ysf ysg ysy yam yal ynu := hI
  obtain ⟨ok, ha, hT, hpe, hri, hHX, hHY, hTB, hrow, hwh, hR, hU, hK, hS, hG⟩ := id hI0
  have h2 := ok.1
  have h6 := ok.2.1
  have hg := ok.2.2.1
  subst hpe hri hrow
  rcases place_cases hHY.1 h2 h6 y1 with ⟨e1, e2⟩ | ⟨i, hi, rfl, e1, e2⟩
  · have hX : f_X9_lie y1 y2 (nI (rw_ D.1 a)) (nI D.1) (nI D.2.1) bp sc kd lk wa.1 wa.2 = some (-1, bp, wa.1, wa.2) := by unfold f_X9_lie; rw [e1, Option.bind_some, if_pos rfl]
    have hY : f_X10_lie y1 y2 yam ywt ymn ybs yst ykd ylk yri ywh yal ynu ytr ywe = some (-1, ywt, ybs, ytr, ywe) := by unfold f_X10_lie; rw [e2, Option.bind_some, if_pos rfl]
    exact ⟨_, _, _, xo_of hX rfl, xo_of hY rfl, D, a, hI0⟩
  · rcases either_cases y2 with ⟨e3, e4⟩ | ⟨hw, e3, e4⟩
    · have hX : f_X9_lie (nI i) y2 (nI (rw_ D.1 a)) (nI D.1) (nI D.2.1) bp sc kd lk wa.1 wa.2 = some (-1, bp, wa.1, wa.2) := by unfold f_X9_lie; rw [e1, Option.bind_some, if_neg (by decide), e3, Option.bind_some, if_pos rfl]
      have hY : f_X10_lie (nI i) y2 yam ywt ymn ybs yst ykd ylk yri ywh yal ynu ytr ywe = some (-1, ywt, ybs, ytr, ywe) := by unfold f_X10_lie; rw [e2, Option.bind_some, if_neg (by decide), e4, Option.bind_some, if_pos rfl]
      exact ⟨_, _, _, xo_of hX rfl, xo_of hY rfl, D, a, hI0⟩
    · have h0 := NF_big
      have hown := ok.2.2.2.1 i hi
      obtain ⟨v, bp', st', en', x1, x2, x3⟩ := E_wbs (os := wa.1) (oe := wa.2) ok hHX hi hown ha
      rw [setB_own] at x3
      obtain ⟨r0, wt', tr', we', z1, z2⟩ := E_goOn (wt := ywt) ok hHY hTB ha hwh ytr ywe
      rcases x3 with ⟨m, hm, rfl⟩ | ⟨rfl, hno⟩
      · obtain ⟨rfl, rfl⟩ : r0 = nI m ∧ wt' = nI (itr D a m) := by
          rcases z2 with ⟨m', hm', q1, q2⟩ | ⟨_, hno⟩
          · rw [RestAt_uniq hm hm']; exact ⟨q1, q2⟩
          · exact absurd (RestAt_no hm hno) (fun h => h)
        have hmb := hm.1
        have wb := wsay_bd (m := m) ok hi hown ha
        have hit := itr_lt ok ha m
        have ew : wsay D i a (D.2.2.1 i) m = wth D (itr D a m) (ps D.1 (itr D a m) i) := by unfold wsay; rw [setB_own]
        obtain ⟨r, bp2, os2, oe2, wt2, bs2, tr2, we2, i1, i2, i3, i4⟩ := E_lie_l (am := yam) (what := y2) (tru := iI (wsay D i a (D.2.2.1 i) m)) (wh := ywh) ok hTB hi ha hwh hm D.1 0 NF NF (-1000000) (-4) 0 bp' ybs st' en' (nI (itr D a m)) tr' we' (by omega) (by omega) (by omega) x2 hHY (Or.inl ⟨rfl, rfl, Nat.zero_le _⟩)
        have hX : f_X9_lie (nI i) y2 (nI (rw_ D.1 a)) (nI D.1) (nI D.2.1) bp sc kd lk wa.1 wa.2 = some (r, bp2, os2, oe2) := by
          unfold f_X9_lie
          rw [e1, Option.bind_some, if_neg (by decide), e3, Option.bind_some, if_neg (by decide), bdn _ (by omega) (by omega), nI_cl (by omega), hHX.1 i hi, x1, Option.bind_some]
          refine (if_neg (show ¬ iI (wsay D i a (D.2.2.1 i) m) = (-1000000 : Int32) from fun q => absurd ((iI_eq (b := -1000000) (by omega) (by omega) (by omega) (by omega)).mp q) (by omega))).trans ?_
          exact i1
        have hY : f_X10_lie (nI i) y2 yam ywt ymn ybs yst ykd ylk yri ywh yal ynu ytr ywe = some (r, wt2, bs2, tr2, we2) := by
          unfold f_X10_lie
          rw [e2, Option.bind_some, if_neg (by decide), e4, Option.bind_some, if_neg (by decide), z1, Option.bind_some]
          refine (if_pos (show (0 : Int32) ≤ nI m from nI_ge0 (by omega))).trans ?_
          show Option.bind (f_X10_worthIn (nI (itr D a m)) (nI i) ymn ybs yst ylk yri yal) _ = _
          rw [E_worthIn ok hHY hTB hit hi, Option.bind_some, bdn _ (by omega) (by omega), nI_cl (by omega), hHY.2.2.1 i hi, ← ew]
          exact i2
        exact ⟨_, _, _, xo_of hX rfl, xo_of hY rfl, D, a, ok, ha, hT, rfl, rfl, i3, i4, hTB, rfl, hwh, hR, hU, hK, hS, hG⟩
      · obtain rfl : r0 = -4 := by
          rcases z2 with ⟨m', hm', q1, q2⟩ | ⟨q, _⟩
          · exact absurd (RestAt_no hm' hno) (fun h => h)
          · exact q
        have hX : f_X9_lie (nI i) y2 (nI (rw_ D.1 a)) (nI D.1) (nI D.2.1) bp sc kd lk wa.1 wa.2 = some (-4, bp', st', en') := by
          unfold f_X9_lie
          rw [e1, Option.bind_some, if_neg (by decide), e3, Option.bind_some, if_neg (by decide), bdn _ (by omega) (by omega), nI_cl (by omega), hHX.1 i hi, x1, Option.bind_some]
          exact if_pos rfl
        have hY : f_X10_lie (nI i) y2 yam ywt ymn ybs yst ykd ylk yri ywh yal ynu ytr ywe = some (-4, wt', ybs, tr', we') := by
          unfold f_X10_lie
          rw [e2, Option.bind_some, if_neg (by decide), e4, Option.bind_some, if_neg (by decide), z1, Option.bind_some]
          exact if_neg (show ¬ (0 : Int32) ≤ -4 by decide)
        exact ⟨_, _, _, xo_of hX rfl, xo_of hY rfl, D, a, ok, ha, hT, rfl, rfl, x2, hHY, hTB, rfl, hwh, hR, hU, hK, hS, hG⟩
