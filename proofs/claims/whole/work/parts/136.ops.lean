theorem op_price : ∀ (y1 : Int32) (y2 : Int32) (X : ZX9) (Y : ZX10), Inv X Y → ∃ (r : Int32) (X1 : ZX9) (Y1 : ZX10), xo_price y1 y2 X = some (r, X1) ∧ yo_price y1 y2 Y = some (r, Y1) ∧ Inv X1 Y1 := by
  intro y1 y2 X Y hI
  obtain ⟨⟨tby, tle, tnu⟩, ⟨pe, ri, hto, bp, sc, kd, lk⟩, dr, row, ⟨ton, tos⟩, ⟨don, dos⟩, ⟨ken, kes⟩, ⟨sw, sf, st, sy, ss⟩, gr, gd, se, ev, wa⟩ := X
  obtain ⟨yle, ytx, ymn, ybs, yst, ykd, ylk, yri, yli, ywh, ykm, yun, yum, yrm, yrw, ysm, yso, ysf, ysg, ysy, ypl, yto, yam, yal, ynu, ytr, ywe, ywt, ylo, yre, ywa, ynx⟩ := Y
  obtain ⟨D, a, hI⟩ := hI
  have hI0 : InvC D a tby tle pe ri bp sc kd lk row ton tos don dos ken kes sw sf st sy ss gr gd yle ytx ymn ybs yst ykd ylk yri ywh ykm yun yum yrm yrw ysm yso ysf ysg ysy yam yal ynu := hI
  obtain ⟨ok, ha, hT, hpe, hri, hHX, hHY, hTB, hrow, hwh, hR, hU, hK, hS, hG⟩ := id hI0
  have h2 := ok.1
  have h6 := ok.2.1
  have hg := ok.2.2.1
  subst hpe hri hrow
  rcases change_cases hHY.1 hHY.2.1 h2 h6 hg y1 with ⟨e1, e2⟩ | ⟨x, hx, rfl, e1, e2⟩
  · have hX : f_X9_price y1 y2 (nI (rw_ D.1 a)) (nI D.1) (nI D.2.1) bp sc kd lk = some (-1) := by unfold f_X9_price; rw [e1, Option.bind_some, if_pos rfl]
    have hY : f_X10_price y1 y2 ymn ybs yst ykd ylk yri ywh yal ynu ytr = some (-1, ytr) := by unfold f_X10_price; rw [e2, Option.bind_some, if_pos rfl]
    exact ⟨_, _, _, xo_of hX rfl, xo_of hY rfl, D, a, hI0⟩
  · rcases either_cases y2 with ⟨e3, e4⟩ | ⟨hw, e3, e4⟩
    · have hX : f_X9_price (nI x) y2 (nI (rw_ D.1 a)) (nI D.1) (nI D.2.1) bp sc kd lk = some (-1) := by unfold f_X9_price; rw [e1, Option.bind_some, if_neg (by decide), e3, Option.bind_some, if_pos rfl]
      have hY : f_X10_price (nI x) y2 ymn ybs yst ykd ylk yri ywh yal ynu ytr = some (-1, ytr) := by unfold f_X10_price; rw [e2, Option.bind_some, if_neg (by decide), e4, Option.bind_some, if_pos rfl]
      exact ⟨_, _, _, xo_of hX rfl, xo_of hY rfl, D, a, hI0⟩
    · obtain ⟨w, hw1, rfl⟩ : ∃ w, w ≤ 1 ∧ y2 = nI w := by
        rcases hw with rfl | rfl
        · exact ⟨0, by omega, rfl⟩
        · exact ⟨1, by omega, rfl⟩
      have hxn : x < D.1 := Nat.lt_of_lt_of_le hx (kk_bd h2 h6).2
      have hp := plw_lt (w := w) (show D.1 < 7 by omega) hxn
      have hi := tb_dg D.1 a ha _ hp
      have hb := tb_chg D.1 a ha x hxn
      have hz : ¬ nI D.1 = 0 := nI_ne0 (by omega) (by omega)
      obtain ⟨tr1, hbh⟩ := E_behind0 (tr := ytr) hTB hHY.1 h2 h6 ha hxn
      obtain ⟨m2, m3, m4⟩ := mis_prc (k := D.2.2.2.2.1 (dg D.1 a (plw D.1 x w))) (x := wth D a (plw D.1 x w)) (y := wth D (chg D.1 a x) (plw D.1 x (1 - w))) (ok.2.2.2.2.2.1 _ hi)
      have gb := gn_bd (w := w) ok ha hxn
      have mb := mis_bd (k := D.2.2.2.2.1 (dg D.1 a (plw D.1 x w))) (g := gn D a x w) (by omega) (by omega)
      have hX : f_X9_price (nI x) (nI w) (nI (rw_ D.1 a)) (nI D.1) (nI D.2.1) bp sc kd lk = some (iI (prw D a x w)) := by
        unfold f_X9_price
        rw [e1, Option.bind_some, if_neg (by decide), e3, Option.bind_some, if_neg (by decide), E_priceOf ok hHX ha hxn hw1, Option.bind_some]
        change mis _ (gn D a x w) = (if _ then -1 else prw D a x w) at m2
        change _ → 0 ≤ prw D a x w at m3
        change _ → prw D a x w = -4 at m4
        generalize mis (D.2.2.2.2.1 (dg D.1 a (plw D.1 x w))) (gn D a x w) = M at m2 mb ⊢
        by_cases hK : D.2.2.2.2.1 (dg D.1 a (plw D.1 x w)) = 3
        · rw [if_pos hK] at m2
          rw [if_neg (show ¬ (0 : Int32) ≤ iI M from fun q => absurd ((iI_le (a := 0) (by omega) (by omega) (by omega) (by omega)).mp q) (by omega)), m4 hK]; rfl
        · rw [if_neg hK] at m2
          have := m3 hK
          rw [if_pos (show (0 : Int32) ≤ iI M from (iI_le (a := 0) (by omega) (by omega) (by omega) (by omega)).mpr (by omega)), m2]
      have hY : f_X10_price (nI x) (nI w) ymn ybs yst ykd ylk yri ywh yal ynu ytr = some (iI (prw D a x w), tr1) := by
        unfold f_X10_price
        rw [e2, Option.bind_some, if_neg (by decide), e4, Option.bind_some, if_neg (by decide), E_now hTB hHY.1 h6 ha hwh, Option.bind_some, hbh, Option.bind_some, bd0, c0, hHY.1, dz_ok _ hz, nI_add, nI_rem (by omega) (by omega) (by omega), mod_plw (by omega) hxn hw1, E_whoIn hTB h6 ha hp, Option.bind_some, E_priceOfY ok hHY hTB ha hb hi, Option.bind_some, ps_dg ha hp, ps_plw h2 h6 ha hxn hw1]
        rfl
      exact ⟨_, _, _, xo_of hX rfl, xo_of hY rfl, D, a, hI0⟩
theorem op_deal : ∀ (y1 : Int32) (X : ZX9) (Y : ZX10), Inv X Y → ∃ (r : Int32) (X1 : ZX9) (Y1 : ZX10), xo_deal y1 X = some (r, X1) ∧ yo_deal y1 Y = some (r, Y1) ∧ Inv X1 Y1 := by
  intro y1 X Y hI
  obtain ⟨⟨tby, tle, tnu⟩, ⟨pe, ri, hto, bp, sc, kd, lk⟩, dr, row, ⟨ton, tos⟩, ⟨don, dos⟩, ⟨ken, kes⟩, ⟨sw, sf, st, sy, ss⟩, gr, gd, se, ev, wa⟩ := X
  obtain ⟨yle, ytx, ymn, ybs, yst, ykd, ylk, yri, yli, ywh, ykm, yun, yum, yrm, yrw, ysm, yso, ysf, ysg, ysy, ypl, yto, yam, yal, ynu, ytr, ywe, ywt, ylo, yre, ywa, ynx⟩ := Y
  obtain ⟨D, a, hI⟩ := hI
  have hI0 : InvC D a tby tle pe ri bp sc kd lk row ton tos don dos ken kes sw sf st sy ss gr gd yle ytx ymn ybs yst ykd ylk yri ywh ykm yun yum yrm yrw ysm yso ysf ysg ysy yam yal ynu := hI
  obtain ⟨ok, ha, hT, hpe, hri, hHX, hHY, hTB, hrow, hwh, hR, hU, hK, hS, hG⟩ := id hI0
  have h2 := ok.1
  have h6 := ok.2.1
  have hg := ok.2.2.1
  subst hpe hri hrow
  rcases change_cases hHY.1 hHY.2.1 h2 h6 hg y1 with ⟨e1, e2⟩ | ⟨x, hx, rfl, e1, e2⟩
  · have hX : f_X9_deal y1 (nI (rw_ D.1 a)) (nI D.1) (nI D.2.1) bp sc kd lk = some (-1) := by unfold f_X9_deal; rw [e1, Option.bind_some, if_pos rfl]
    have hY : f_X10_deal y1 ymn ybs yst ykd ylk yri ywh yal ynu ytr = some (-1, ytr) := by unfold f_X10_deal; rw [e2, Option.bind_some, if_pos rfl]
    exact ⟨_, _, _, xo_of hX rfl, xo_of hY rfl, D, a, hI0⟩
  · have hxn : x < D.1 := Nat.lt_of_lt_of_le hx (kk_bd h2 h6).2
    obtain ⟨tr1, hbh⟩ := E_behind0 (tr := ytr) hTB hHY.1 h2 h6 ha hxn
    have p0 := E_pays (w := 0) ok hHX ha hxn (by omega)
    have p1 := E_pays (w := 1) ok hHX ha hxn (by omega)
    have hX : f_X9_deal (nI x) (nI (rw_ D.1 a)) (nI D.1) (nI D.2.1) bp sc kd lk = some (bI (payB D a x 1 || (payB D a x 0 || false))) := by
      unfold f_X9_deal f_X9_deal_b31
      rw [e1, Option.bind_some, if_neg (by decide)]
      rw [show f_X9_pays (nI x) (0 : Int32) (nI (rw_ D.1 a)) (nI D.1) (nI D.2.1) bp sc kd lk = _ from p0, Option.bind_some]
      cases payB D a x 0
      · rw [if_pos (show bI false = 0 from rfl)]
        rw [show f_X9_pays (nI x) (1 : Int32) (nI (rw_ D.1 a)) (nI D.1) (nI D.2.1) bp sc kd lk = _ from p1, Option.bind_some]
        cases payB D a x 1
        · exact if_pos rfl
        · exact if_neg (show ¬ bI true = 0 by decide)
      · rw [if_neg (show ¬ bI true = 0 by decide)]
        cases payB D a x 1 <;> rfl
    have hY : f_X10_deal (nI x) ymn ybs yst ykd ylk yri ywh yal ynu ytr = some (bI (payB D a x 1 || (payB D a x 0 || false)), tr1) := by
      obtain ⟨f, hNF⟩ : ∃ g, NF = g + 3 := ⟨NF - 3, by have := NF_big; omega⟩
      unfold f_X10_deal
      rw [e2, Option.bind_some, if_neg (by decide), E_now hTB hHY.1 h6 ha hwh, Option.bind_some, hbh, Option.bind_some, hNF]
      show f_X10_deal_l29 ymn ybs yst ykd ylk yri ywh yal ynu (f + 2 + 1) (nI x) (nI a) (nI (chg D.1 a x)) (bI false) (nI 0) tr1 = _
      rw [E_deal_s ok hHY hTB ha hxn (by omega), E_deal_s (w := 0 + 1) ok hHY hTB ha hxn (by omega), f_X10_deal_l29.eq_2, if_pos (show (2 : Int32) ≤ nI (0 + 1 + 1) by decide)]
    exact ⟨_, _, _, xo_of hX rfl, xo_of hY rfl, D, a, hI0⟩
