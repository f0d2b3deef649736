theorem op_fits : ∀ (y1 : Int32) (y2 : Int32) (X : ZX9) (Y : ZX10), Inv X Y → ∃ (r : Int32) (X1 : ZX9) (Y1 : ZX10), xo_fits y1 y2 X = some (r, X1) ∧ yo_fits y1 y2 Y = some (r, Y1) ∧ Inv X1 Y1 := by
  intro y1 y2 X Y hI
  obtain ⟨⟨tby, tle, tnu⟩, ⟨pe, ri, hto, bp, sc, kd, lk⟩, dr, row, ⟨ton, tos⟩, ⟨don, dos⟩, ⟨ken, kes⟩, ⟨sw, sf, st, sy, ss⟩, gr, gd, se, ev, wa⟩ := X
  obtain ⟨yle, ytx, ymn, ybs, yst, ykd, ylk, yri, yli, ywh, ykm, yun, yum, yrm, yrw, ysm, yso, ysf, ysg, ysy, ypl, yto, yam, yal, ynu, ytr, ywe, ywt, ylo, yre, ywa, ynx⟩ := Y
  obtain ⟨D, a, hI⟩ := hI
  have hI0 : InvC D a tby tle pe ri bp sc kd lk row ton tos don dos ken kes sw sf st sy ss gr gd yle ytx ymn ybs yst ykd ylk yri ywh ykm yun yum yrm yrw ysm yso ysf ysg ysy yam yal ynu := hI
  obtain ⟨ok, ha, hT, hpe, hri, hHX, hHY, hTB, hrow, hwh, hR, hU, hK, hS, hG⟩ := id hI0
  have h2 := ok.1
  have h6 := ok.2.1
  have hg := ok.2.2.1
  subst hpe hri hrow
  obtain ⟨k, hk, rfl, rfl, hSe⟩ := id hS
  rcases place_cases hHY.1 h2 h6 y1 with ⟨e1, e2⟩ | ⟨i, hi, rfl, e1, e2⟩
  · have hX : f_X9_fits y1 y2 (nI D.1) (nI D.2.1) sc kd (nI k) sw sf st sy = some (-1) := by unfold f_X9_fits; rw [e1, Option.bind_some, if_pos rfl]
    have hY : f_X10_fits y1 y2 (nI k) ymn yst ykd yri yso ysf ysg ysy = some (-1) := by unfold f_X10_fits; rw [e2, Option.bind_some, if_pos rfl]
    exact ⟨_, _, _, xo_of hX rfl, xo_of hY rfl, D, a, hI0⟩
  · rcases either_cases y2 with ⟨e3, e4⟩ | ⟨hw, e3, e4⟩
    · have hX : f_X9_fits (nI i) y2 (nI D.1) (nI D.2.1) sc kd (nI k) sw sf st sy = some (-1) := by unfold f_X9_fits; rw [e1, Option.bind_some, if_neg (by decide), e3, Option.bind_some, if_pos rfl]
      have hY : f_X10_fits (nI i) y2 (nI k) ymn yst ykd yri yso ysf ysg ysy = some (-1) := by unfold f_X10_fits; rw [e2, Option.bind_some, if_neg (by decide), e4, Option.bind_some, if_pos rfl]
      exact ⟨_, _, _, xo_of hX rfl, xo_of hY rfl, D, a, hI0⟩
    · have h0 := NF_big
      have cl : ∀ q : Nat, q < D.1 → (nI q).toNatClampNeg = q := fun q hq => nI_cl (by omega)
      have zc : ∀ z : Bool, bI z = bI (decide (bI z = 1)) := by intro z; cases z <;> rfl
      have q1 : ∀ j, j < k → (sw j).toNatClampNeg < D.1 ∧ (sf j).toNatClampNeg < D.1 ∧ (st j).toNatClampNeg < D.1 ∧ sw j = nI (sw j).toNatClampNeg ∧ sf j = nI (sf j).toNatClampNeg ∧ st j = nI (st j).toNatClampNeg ∧ sy j = bI (decide (sy j = 1)) := by
        intro j hj
        obtain ⟨i', x', y', z', p1, p2, p3, p4, p5, p6, p7, p8, p9, p10, p11⟩ := hSe j hj
        rw [p4, p6, p8, p10, cl _ p1, cl _ p2, cl _ p3]
        exact ⟨p1, p2, p3, rfl, rfl, rfl, zc z'⟩
      have q2 : ∀ j, j < k → (sw j).toNatClampNeg < D.1 ∧ (sf j).toNatClampNeg < D.1 ∧ (st j).toNatClampNeg < D.1 ∧ yso j = nI (sw j).toNatClampNeg ∧ ysf j = nI (sf j).toNatClampNeg ∧ ysg j = nI (st j).toNatClampNeg ∧ ysy j = bI (decide (sy j = 1)) := by
        intro j hj
        obtain ⟨i', x', y', z', p1, p2, p3, p4, p5, p6, p7, p8, p9, p10, p11⟩ := hSe j hj
        rw [p4, p6, p8, p10, cl _ p1, cl _ p2, cl _ p3, p5, p7, p9, p11]
        exact ⟨p1, p2, p3, rfl, rfl, rfl, zc z'⟩
      obtain ⟨r, i1, i2⟩ := E_fits_l (ei := fun j => (sw j).toNatClampNeg) (ex := fun j => (sf j).toNatClampNeg) (ey := fun j => (st j).toNatClampNeg) (ez := fun j => decide (sy j = 1)) (w := y2) ok hHX hHY hk hi q1 q2 D.1 NF NF 0 (-4) (Nat.le_refl _) (by omega) (by omega)
      have hX : f_X9_fits (nI i) y2 (nI D.1) (nI D.2.1) sc kd (nI k) sw sf st sy = some r := by
        unfold f_X9_fits
        rw [e1, Option.bind_some, if_neg (by decide), e3, Option.bind_some, if_neg (by decide)]
        exact i1
      have hY : f_X10_fits (nI i) y2 (nI k) ymn yst ykd yri yso ysf ysg ysy = some r := by
        unfold f_X10_fits
        rw [e2, Option.bind_some, if_neg (by decide), e4, Option.bind_some, if_neg (by decide), bd0, c0, hHY.1]
        exact i2
      exact ⟨_, _, _, xo_of hX rfl, xo_of hY rfl, D, a, hI0⟩
