theorem op_tell : ∀ (y1 : Int32) (X : ZX9) (Y : ZX10), Inv X Y → ∃ (r : Int32) (X1 : ZX9) (Y1 : ZX10), xo_tell y1 X = some (r, X1) ∧ yo_tell y1 Y = some (r, Y1) ∧ Inv X1 Y1 := by
  intro y1 X Y hI
  obtain ⟨⟨tby, tle, tnu⟩, ⟨pe, ri, hto, bp, sc, kd, lk⟩, dr, row, ⟨ton, tos⟩, ⟨don, dos⟩, ⟨ken, kes⟩, ⟨sw, sf, st, sy, ss⟩, gr, gd, se, ev, wa⟩ := X
  obtain ⟨yle, ytx, ymn, ybs, yst, ykd, ylk, yri, yli, ywh, ykm, yun, yum, yrm, yrw, ysm, yso, ysf, ysg, ysy, ypl, yto, yam, yal, ynu, ytr, ywe, ywt, ylo, yre, ywa, ynx⟩ := Y
  obtain ⟨D, a, hI⟩ := hI
  have hI0 : InvC D a tby tle pe ri bp sc kd lk row ton tos don dos ken kes sw sf st sy ss gr gd yle ytx ymn ybs yst ykd ylk yri ywh ykm yun yum yrm yrw ysm yso ysf ysg ysy yam yal ynu := hI
  obtain ⟨ok, ha, hT, hpe, hri, hHX, hHY, hTB, hrow, hwh, hR, hU, hK, hS, hG⟩ := id hI0
  have h2 := ok.1
  have h6 := ok.2.1
  have hg := ok.2.2.1
  subst hpe hri hrow
  obtain ⟨k, hk, rfl, rfl, hRe⟩ := id hR
  rcases change_cases hHY.1 hHY.2.1 h2 h6 hg y1 with ⟨e1, e2⟩ | ⟨x, hx, rfl, e1, e2⟩
  · have hX : f_X9_tell y1 12 (nI D.1) (nI D.2.1) (nI k) ton = some (-1, nI k, ton) := by unfold f_X9_tell; rw [e1, Option.bind_some, if_pos rfl]
    have hY : f_X10_tell y1 (nI k) ymn yri yrw = some (-1, nI k, yrw) := by unfold f_X10_tell; rw [e2, Option.bind_some, if_pos rfl]
    exact ⟨_, _, _, xo_of hX rfl, xo_of hY rfl, D, a, hI0⟩
  · by_cases h : k < 12
    · have hX : f_X9_tell (nI x) 12 (nI D.1) (nI D.2.1) (nI k) ton = some (nI (k + 1), nI (k + 1), upd ton k (nI x)) := by
        unfold f_X9_tell
        rw [e1, Option.bind_some, if_neg (by decide), E_isFull (by omega) (by omega), Option.bind_some, if_pos h, if_pos rfl, E_push h (by omega), Option.bind_some]
      have hY : f_X10_tell (nI x) (nI k) ymn yri yrw = some (nI (k + 1), nI (k + 1), upd yrw k (nI x)) := by
        unfold f_X10_tell
        rw [e2, Option.bind_some, if_neg (by decide), if_neg (show ¬ nI k = (12 : Int32) from fun q => absurd ((nI_eq (b := 12) (by omega) (by omega)).mp q) (by omega)), bdn _ h (by omega), nI_cl (by omega), show nI k + (1 : Int32) = nI (k + 1) from nI_1 k]
      exact ⟨_, _, _, xo_of hX rfl, xo_of hY rfl, D, a, ok, ha, hT, rfl, rfl, hHX, hHY, hTB, rfl, hwh, ⟨k + 1, by omega, rfl, rfl, fun j hj => by
        by_cases q : j = k
        · subst q; exact ⟨x, hx, pk_us, pk_us⟩
        · obtain ⟨z, z1, z2, z3⟩ := hRe j (by omega)
          exact ⟨z, z1, by show upd ton k (nI x) j = nI z; rw [pk_un q]; exact z2, by show upd yrw k (nI x) j = nI z; rw [pk_un q]; exact z3⟩⟩, hU, hK, hS, hG⟩
    · have hX : f_X9_tell (nI x) 12 (nI D.1) (nI D.2.1) (nI k) ton = some (-3, nI k, ton) := by
        unfold f_X9_tell
        rw [e1, Option.bind_some, if_neg (by decide), E_isFull (by omega) (by omega), Option.bind_some, if_neg h, if_neg (by decide)]
      have hY : f_X10_tell (nI x) (nI k) ymn yri yrw = some (-3, nI k, yrw) := by
        unfold f_X10_tell
        rw [e2, Option.bind_some, if_neg (by decide), if_pos (show nI k = (12 : Int32) by rw [show k = 12 by omega]; rfl)]
      exact ⟨_, _, _, xo_of hX rfl, xo_of hY rfl, D, a, hI0⟩
theorem op_keep : ∀ (X : ZX9) (Y : ZX10), Inv X Y → ∃ (r : Int32) (X1 : ZX9) (Y1 : ZX10), xo_keep  X = some (r, X1) ∧ yo_keep  Y = some (r, Y1) ∧ Inv X1 Y1 := by
  intro X Y hI
  obtain ⟨⟨tby, tle, tnu⟩, ⟨pe, ri, hto, bp, sc, kd, lk⟩, dr, row, ⟨ton, tos⟩, ⟨don, dos⟩, ⟨ken, kes⟩, ⟨sw, sf, st, sy, ss⟩, gr, gd, se, ev, wa⟩ := X
  obtain ⟨yle, ytx, ymn, ybs, yst, ykd, ylk, yri, yli, ywh, ykm, yun, yum, yrm, yrw, ysm, yso, ysf, ysg, ysy, ypl, yto, yam, yal, ynu, ytr, ywe, ywt, ylo, yre, ywa, ynx⟩ := Y
  obtain ⟨D, a, hI⟩ := hI
  have hI0 : InvC D a tby tle pe ri bp sc kd lk row ton tos don dos ken kes sw sf st sy ss gr gd yle ytx ymn ybs yst ykd ylk yri ywh ykm yun yum yrm yrw ysm yso ysf ysg ysy yam yal ynu := hI
  obtain ⟨ok, ha, hT, hpe, hri, hHX, hHY, hTB, hrow, hwh, hR, hU, hK, hS, hG⟩ := id hI0
  have h2 := ok.1
  have h6 := ok.2.1
  have hg := ok.2.2.1
  subst hpe hri hrow
  obtain ⟨k, hk, rfl, rfl, hKe⟩ := id hK
  by_cases h : k < 2
  · obtain ⟨wh', g1, g2, g3⟩ := E_copy (s := 0) (t := k + 1) (by omega) (by omega) (by omega) ywh
    have hX : f_X9_keep 2 (nI (rw_ D.1 a)) (nI k) ken = some (nI (k + 1), nI (k + 1), upd ken k (nI (rw_ D.1 a))) := by
      unfold f_X9_keep
      rw [E_isFull (by omega) (by omega), Option.bind_some, if_pos h, if_pos rfl, E_push h (by omega), Option.bind_some]
    have hY : f_X10_keep (nI k) ywh = some (nI (k + 1), nI (k + 1), wh') := by
      unfold f_X10_keep
      rw [if_neg (show ¬ nI k = (2 : Int32) from fun q => absurd ((nI_eq (b := 2) (by omega) (by omega)).mp q) (by omega)), show nI k + (1 : Int32) = nI (k + 1) from nI_1 k]
      rw [show f_X10_copy (0 : Int32) (nI (k + 1)) ywh = some wh' from g1, Option.bind_some]
    have w0 : ∀ p, p < D.1 → wh' p = ywh p := fun p hp => g3 p (Or.inl (by omega))
    exact ⟨_, _, _, xo_of hX rfl, xo_of hY rfl, D, a, ok, ha, hT, rfl, rfl, hHX, hHY, hTB, rfl, fun p hp => (w0 p hp).trans (hwh p hp), hR, hU, ⟨k + 1, by omega, rfl, rfl, fun j hj => by
        by_cases q : j = k
        · subst q
          refine ⟨a, ha, pk_us, fun p hp => ?_⟩
          show wh' (6 * (j + 1) + p) = _
          rw [g2 p (by omega), Nat.mul_zero, Nat.zero_add]; exact hwh p hp
        · obtain ⟨b, b1, b2, b3⟩ := hKe j (by omega)
          refine ⟨b, b1, ?_, fun p hp => ?_⟩
          · show upd ken k _ j = _
            rw [pk_un q]; exact b2
          · show wh' (6 * (j + 1) + p) = _
            rw [g3 _ (Or.inl (by omega))]; exact b3 p hp⟩, hS, hG⟩
  · have hX : f_X9_keep 2 (nI (rw_ D.1 a)) (nI k) ken = some (-3, nI k, ken) := by
      unfold f_X9_keep
      rw [E_isFull (by omega) (by omega), Option.bind_some, if_neg h, if_neg (by decide)]
    have hY : f_X10_keep (nI k) ywh = some (-3, nI k, ywh) := by
      unfold f_X10_keep
      rw [if_pos (show nI k = (2 : Int32) by rw [show k = 2 by omega]; rfl)]
    exact ⟨_, _, _, xo_of hX rfl, xo_of hY rfl, D, a, hI0⟩
theorem op_back : ∀ (X : ZX9) (Y : ZX10), Inv X Y → ∃ (r : Int32) (X1 : ZX9) (Y1 : ZX10), xo_back  X = some (r, X1) ∧ yo_back  Y = some (r, Y1) ∧ Inv X1 Y1 := by
  intro X Y hI
  obtain ⟨⟨tby, tle, tnu⟩, ⟨pe, ri, hto, bp, sc, kd, lk⟩, dr, row, ⟨ton, tos⟩, ⟨don, dos⟩, ⟨ken, kes⟩, ⟨sw, sf, st, sy, ss⟩, gr, gd, se, ev, wa⟩ := X
  obtain ⟨yle, ytx, ymn, ybs, yst, ykd, ylk, yri, yli, ywh, ykm, yun, yum, yrm, yrw, ysm, yso, ysf, ysg, ysy, ypl, yto, yam, yal, ynu, ytr, ywe, ywt, ylo, yre, ywa, ynx⟩ := Y
  obtain ⟨D, a, hI⟩ := hI
  have hI0 : InvC D a tby tle pe ri bp sc kd lk row ton tos don dos ken kes sw sf st sy ss gr gd yle ytx ymn ybs yst ykd ylk yri ywh ykm yun yum yrm yrw ysm yso ysf ysg ysy yam yal ynu := hI
  obtain ⟨ok, ha, hT, hpe, hri, hHX, hHY, hTB, hrow, hwh, hR, hU, hK, hS, hG⟩ := id hI0
  have h2 := ok.1
  have h6 := ok.2.1
  have hg := ok.2.2.1
  subst hpe hri hrow
  obtain ⟨k, hk, rfl, rfl, hKe⟩ := id hK
  by_cases h : k = 0
  · subst h
    have hX : f_X9_back 2 (nI (rw_ D.1 a)) dos (nI 0) ken = some (-2, nI (rw_ D.1 a), dos, nI 0) := by unfold f_X9_back; rw [if_pos (show nI 0 = (0 : Int32) from rfl)]
    have hY : f_X10_back (nI 0) yum ywh = some (-2, nI 0, yum, ywh) := by unfold f_X10_back; rw [if_pos (show nI 0 = (0 : Int32) from rfl)]
    exact ⟨_, _, _, xo_of hX rfl, xo_of hY rfl, D, a, hI0⟩
  · obtain ⟨b, b1, b2, b3⟩ := hKe (k - 1) (by omega)
    obtain ⟨wh', g1, g2, g3⟩ := E_copy (s := k) (t := 0) (by omega) (by omega) (by omega) ywh
    have hX : f_X9_back 2 (nI (rw_ D.1 a)) dos (nI k) ken = some (nI (k - 1), nI (rw_ D.1 b), 0, nI (k - 1)) := by
      unfold f_X9_back
      rw [if_neg (nI_ne0 (by omega) (by omega)), E_pop (by omega) (by omega) (by omega), Option.bind_some, b2]
    have hY : f_X10_back (nI k) yum ywh = some (nI (k - 1), nI (k - 1), 0, wh') := by
      unfold f_X10_back
      rw [if_neg (nI_ne0 (by omega) (by omega)), nI_s1 (by omega)]
      rw [show f_X10_copy (nI k) (0 : Int32) ywh = some wh' from g1, Option.bind_some]
    exact ⟨_, _, _, xo_of hX rfl, xo_of hY rfl, D, b, ok, b1, hT, rfl, rfl, hHX, hHY, hTB, rfl, fun p hp => by
        have q := g2 p (by omega)
        rw [Nat.mul_zero, Nat.zero_add] at q
        show wh' p = _
        rw [q, ← b3 p hp, show k - 1 + 1 = k by omega], hR, ⟨0, by omega, rfl, rfl, fun j hj => absurd hj (by omega)⟩, ⟨k - 1, by omega, rfl, rfl, fun j hj => by
        obtain ⟨z, z1, z2, z3⟩ := hKe j (by omega)
        refine ⟨z, z1, z2, fun p hp => ?_⟩
        show wh' (6 * (j + 1) + p) = _
        rw [g3 _ (Or.inr (by omega))]; exact z3 p hp⟩, hS, hG⟩
theorem op_undo : ∀ (X : ZX9) (Y : ZX10), Inv X Y → ∃ (r : Int32) (X1 : ZX9) (Y1 : ZX10), xo_undo  X = some (r, X1) ∧ yo_undo  Y = some (r, Y1) ∧ Inv X1 Y1 := by
  intro X Y hI
  obtain ⟨⟨tby, tle, tnu⟩, ⟨pe, ri, hto, bp, sc, kd, lk⟩, dr, row, ⟨ton, tos⟩, ⟨don, dos⟩, ⟨ken, kes⟩, ⟨sw, sf, st, sy, ss⟩, gr, gd, se, ev, wa⟩ := X
  obtain ⟨yle, ytx, ymn, ybs, yst, ykd, ylk, yri, yli, ywh, ykm, yun, yum, yrm, yrw, ysm, yso, ysf, ysg, ysy, ypl, yto, yam, yal, ynu, ytr, ywe, ywt, ylo, yre, ywa, ynx⟩ := Y
  obtain ⟨D, a, hI⟩ := hI
  have hI0 : InvC D a tby tle pe ri bp sc kd lk row ton tos don dos ken kes sw sf st sy ss gr gd yle ytx ymn ybs yst ykd ylk yri ywh ykm yun yum yrm yrw ysm yso ysf ysg ysy yam yal ynu := hI
  obtain ⟨ok, ha, hT, hpe, hri, hHX, hHY, hTB, hrow, hwh, hR, hU, hK, hS, hG⟩ := id hI0
  have h2 := ok.1
  have h6 := ok.2.1
  have hg := ok.2.2.1
  subst hpe hri hrow
  obtain ⟨k, hk, rfl, rfl, hUe⟩ := id hU
  by_cases h : k = 0
  · subst h
    have hX : f_X9_undo 8 (nI (rw_ D.1 a)) (nI 0) don = some (-2, nI (rw_ D.1 a), nI 0) := by unfold f_X9_undo; rw [if_pos (show nI 0 = (0 : Int32) from rfl)]
    have hY : f_X10_undo (nI 0) ymn ywh yun yal = some (-2, nI 0, ywh) := by unfold f_X10_undo; rw [if_pos (show nI 0 = (0 : Int32) from rfl)]
    exact ⟨_, _, _, xo_of hX rfl, xo_of hY rfl, D, a, hI0⟩
  · obtain ⟨b, b1, b2, b3⟩ := hUe (k - 1) (by omega)
    obtain ⟨wh', g1, g2, g3⟩ := E_go hTB hHY.1 h6 b1 ywh
    have hX : f_X9_undo 8 (nI (rw_ D.1 a)) (nI k) don = some (nI (k - 1), nI (rw_ D.1 b), nI (k - 1)) := by
      unfold f_X9_undo
      rw [if_neg (nI_ne0 (by omega) (by omega)), E_pop (by omega) (by omega) (by omega), Option.bind_some, b2]
    have hY : f_X10_undo (nI k) ymn ywh yun yal = some (nI (k - 1), nI (k - 1), wh') := by
      unfold f_X10_undo
      rw [if_neg (nI_ne0 (by omega) (by omega)), nI_s1 (by omega), bdn _ (by omega) (by omega), nI_cl (by omega), b3, g1, Option.bind_some]
    exact ⟨_, _, _, xo_of hX rfl, xo_of hY rfl, D, b, ok, b1, hT, rfl, rfl, hHX, hHY, hTB, rfl, g2, hR, ⟨k - 1, by omega, rfl, rfl, fun j hj => hUe j (by omega)⟩, (by
        obtain ⟨kq, q1, q2, q3, q4⟩ := hK
        refine ⟨kq, q1, q2, q3, fun j hj => ?_⟩
        obtain ⟨z, z1, z2, z3⟩ := q4 j hj
        refine ⟨z, z1, z2, fun p hp => ?_⟩
        show wh' (6 * (j + 1) + p) = _
        rw [g3 _ (by omega)]; exact z3 p hp), hS, hG⟩
theorem op_change : ∀ (y1 : Int32) (X : ZX9) (Y : ZX10), Inv X Y → ∃ (r : Int32) (X1 : ZX9) (Y1 : ZX10), xo_change y1 X = some (r, X1) ∧ yo_change y1 Y = some (r, Y1) ∧ Inv X1 Y1 := by
  intro y1 X Y hI
  obtain ⟨⟨tby, tle, tnu⟩, ⟨pe, ri, hto, bp, sc, kd, lk⟩, dr, row, ⟨ton, tos⟩, ⟨don, dos⟩, ⟨ken, kes⟩, ⟨sw, sf, st, sy, ss⟩, gr, gd, se, ev, wa⟩ := X
  obtain ⟨yle, ytx, ymn, ybs, yst, ykd, ylk, yri, yli, ywh, ykm, yun, yum, yrm, yrw, ysm, yso, ysf, ysg, ysy, ypl, yto, yam, yal, ynu, ytr, ywe, ywt, ylo, yre, ywa, ynx⟩ := Y
  obtain ⟨D, a, hI⟩ := hI
  have hI0 : InvC D a tby tle pe ri bp sc kd lk row ton tos don dos ken kes sw sf st sy ss gr gd yle ytx ymn ybs yst ykd ylk yri ywh ykm yun yum yrm yrw ysm yso ysf ysg ysy yam yal ynu := hI
  obtain ⟨ok, ha, hT, hpe, hri, hHX, hHY, hTB, hrow, hwh, hR, hU, hK, hS, hG⟩ := id hI0
  have h2 := ok.1
  have h6 := ok.2.1
  have hg := ok.2.2.1
  subst hpe hri hrow
  obtain ⟨k, hk, rfl, rfl, hUe⟩ := id hU
  rcases change_cases hHY.1 hHY.2.1 h2 h6 hg y1 with ⟨e1, e2⟩ | ⟨x, hx, rfl, e1, e2⟩
  · have hX : f_X9_change y1 8 (nI (rw_ D.1 a)) (nI D.1) (nI D.2.1) bp sc kd lk (nI k) don = some (-1, nI (rw_ D.1 a), nI k, don) := by unfold f_X9_change; rw [e1, Option.bind_some, if_pos rfl]
    have hY : f_X10_change y1 (nI k) ymn ybs yst ykd ylk yri ywh yun yal ynu ytr = some (-1, nI k, ywh, yun, ytr) := by unfold f_X10_change; rw [e2, Option.bind_some, if_pos rfl]
    exact ⟨_, _, _, xo_of hX rfl, xo_of hY rfl, D, a, hI0⟩
  · have hxn : x < D.1 := Nat.lt_of_lt_of_le hx (kk_bd h2 h6).2
    have hb := tb_chg D.1 a ha x hxn
    obtain ⟨tr1, hd⟩ := E_doesSuit0 (tr := ytr) ok hHY hTB ha hxn
    cases hs : suitB D a x with
    | false =>
      rw [hs] at hd
      have hX : f_X9_change (nI x) 8 (nI (rw_ D.1 a)) (nI D.1) (nI D.2.1) bp sc kd lk (nI k) don = some (-2, nI (rw_ D.1 a), nI k, don) := by
        unfold f_X9_change
        rw [e1, Option.bind_some, if_neg (by decide), E_changeSuits ok hHX ha hxn, hs, Option.bind_some]
        exact if_pos rfl
      have hY : f_X10_change (nI x) (nI k) ymn ybs yst ykd ylk yri ywh yun yal ynu ytr = some (-2, nI k, ywh, yun, tr1) := by
        unfold f_X10_change
        rw [e2, Option.bind_some, if_neg (by decide), E_doIt_no hHY hTB h6 ha hwh hd, Option.bind_some]
      exact ⟨_, _, _, xo_of hX rfl, xo_of hY rfl, D, a, hI0⟩
    | true =>
      rw [hs] at hd
      obtain ⟨don', m1, m2, m3⟩ := E_moveTo (n := D.1) (b := chg D.1 a x) (x := x) (k := k) (r := rw_ D.1 a) (don := don) hb hxn hk
      obtain ⟨wh', un', tr', g1, g2, g3, g4, g5⟩ := E_doIt_yes (b := chg D.1 a x) (un := yun) hHY hTB h6 ha hb hxn hk hwh hd (fun tr0 => E_behind0 (tr := tr0) hTB hHY.1 h2 h6 ha hxn)
      have hX : f_X9_change (nI x) 8 (nI (rw_ D.1 a)) (nI D.1) (nI D.2.1) bp sc kd lk (nI k) don = some (nI (dg D.1 (chg D.1 a x) x), nI (rw_ D.1 (chg D.1 a x)), nI (k8 k + 1), don') := by
        unfold f_X9_change
        rw [e1, Option.bind_some, if_neg (by decide), E_changeSuits ok hHX ha hxn, hs, Option.bind_some, if_neg (show ¬ bI true = 0 by decide), E_changed h6 ha hxn, Option.bind_some, m1, Option.bind_some]
      have hY : f_X10_change (nI x) (nI k) ymn ybs yst ykd ylk yri ywh yun yal ynu ytr = some (nI (dg D.1 (chg D.1 a x) x), nI (k8 k + 1), wh', un', tr') := by
        unfold f_X10_change
        rw [e2, Option.bind_some, if_neg (by decide), g1, Option.bind_some]
      have hU' : PU D don' (nI (k8 k + 1)) (nI (k8 k + 1)) un' := by
        refine ⟨k8 k + 1, by unfold k8; split <;> omega, rfl, rfl, fun j hj => ?_⟩
        by_cases q : j = k8 k
        · subst q; exact ⟨a, ha, m3, g5⟩
        · have hj' : j < k8 k := by omega
          rw [m2 j hj', g4 j hj']
          refine hUe (shf k j) ?_
          unfold k8 at hj'; unfold shf
          split at hj' <;> rename_i h8 <;> (first | rw [if_pos h8] | rw [if_neg h8]) <;> omega
      exact ⟨_, _, _, xo_of hX rfl, xo_of hY rfl, D, (chg D.1 a x), ok, hb, hT, rfl, rfl, hHX, hHY, hTB, rfl, g2, hR, hU', (by
        obtain ⟨kq, q1, q2, q3, q4⟩ := hK
        refine ⟨kq, q1, q2, q3, fun j hj => ?_⟩
        obtain ⟨z, z1, z2, z3⟩ := q4 j hj
        refine ⟨z, z1, z2, fun p hp => ?_⟩
        show wh' (6 * (j + 1) + p) = _
        rw [g3 _ (by omega)]; exact z3 p hp), hS, hG⟩
theorem op_round : ∀ (y1 : Int32) (X : ZX9) (Y : ZX10), Inv X Y → ∃ (r : Int32) (X1 : ZX9) (Y1 : ZX10), xo_round y1 X = some (r, X1) ∧ yo_round y1 Y = some (r, Y1) ∧ Inv X1 Y1 := by
  intro y1 X Y hI
  obtain ⟨⟨tby, tle, tnu⟩, ⟨pe, ri, hto, bp, sc, kd, lk⟩, dr, row, ⟨ton, tos⟩, ⟨don, dos⟩, ⟨ken, kes⟩, ⟨sw, sf, st, sy, ss⟩, gr, gd, se, ev, wa⟩ := X
  obtain ⟨yle, ytx, ymn, ybs, yst, ykd, ylk, yri, yli, ywh, ykm, yun, yum, yrm, yrw, ysm, yso, ysf, ysg, ysy, ypl, yto, yam, yal, ynu, ytr, ywe, ywt, ylo, yre, ywa, ynx⟩ := Y
  obtain ⟨D, a, hI⟩ := hI
  have hI0 : InvC D a tby tle pe ri bp sc kd lk row ton tos don dos ken kes sw sf st sy ss gr gd yle ytx ymn ybs yst ykd ylk yri ywh ykm yun yum yrm yrw ysm yso ysf ysg ysy yam yal ynu := hI
  obtain ⟨ok, ha, hT, hpe, hri, hHX, hHY, hTB, hrow, hwh, hR, hU, hK, hS, hG⟩ := id hI0
  have h2 := ok.1
  have h6 := ok.2.1
  have hg := ok.2.2.1
  subst hpe hri hrow
  obtain ⟨k, hk, rfl, rfl, hUe⟩ := id hU
  rcases round_cases hHY.1 hHY.2.1 h2 h6 hg y1 with ⟨e1, e2⟩ | ⟨x, hxn, h3, rfl, e1, e2⟩
  · have hX : f_X9_round y1 8 (nI (rw_ D.1 a)) (nI D.1) (nI D.2.1) bp sc kd lk (nI k) don = some (-1, nI (rw_ D.1 a), nI k, don) := by unfold f_X9_round; rw [e1, Option.bind_some, if_pos rfl]
    have hY : f_X10_round y1 (nI k) ymn ybs yst ykd ylk yri ywh yun yal ynu ytr = some (-1, nI k, ywh, yun, ytr) := by unfold f_X10_round; rw [e2, Option.bind_some, if_pos rfl]
    exact ⟨_, _, _, xo_of hX rfl, xo_of hY rfl, D, a, hI0⟩
  · have hb := trn_lt h6 ha hxn
    obtain ⟨tr1, hd⟩ := E_doesSuit1 (tr := ytr) ok hHY hTB h3 ha hxn
    cases hs : roundB D a x with
    | false =>
      rw [hs] at hd
      have hX : f_X9_round (nI x) 8 (nI (rw_ D.1 a)) (nI D.1) (nI D.2.1) bp sc kd lk (nI k) don = some (-2, nI (rw_ D.1 a), nI k, don) := by
        unfold f_X9_round
        rw [e1, Option.bind_some, if_neg (by decide), E_roundSuits ok hHX ha hxn, hs, Option.bind_some]
        exact if_pos rfl
      have hY : f_X10_round (nI x) (nI k) ymn ybs yst ykd ylk yri ywh yun yal ynu ytr = some (-2, nI k, ywh, yun, tr1) := by
        unfold f_X10_round
        rw [e2, Option.bind_some, if_neg (by decide), E_doIt_no hHY hTB h6 ha hwh hd, Option.bind_some]
      exact ⟨_, _, _, xo_of hX rfl, xo_of hY rfl, D, a, hI0⟩
    | true =>
      rw [hs] at hd
      obtain ⟨don', m1, m2, m3⟩ := E_moveTo (n := D.1) (b := trn D.1 a x) (x := x) (k := k) (r := rw_ D.1 a) (don := don) hb hxn hk
      obtain ⟨wh', un', tr', g1, g2, g3, g4, g5⟩ := E_doIt_yes (b := trn D.1 a x) (un := yun) hHY hTB h6 ha hb hxn hk hwh hd (fun tr0 => E_behind1 (tr := tr0) (show ¬ (1 : Int32) = 0 by decide) hTB hHY.1 h3 h6 ha hxn)
      have hX : f_X9_round (nI x) 8 (nI (rw_ D.1 a)) (nI D.1) (nI D.2.1) bp sc kd lk (nI k) don = some (nI (dg D.1 (trn D.1 a x) x), nI (rw_ D.1 (trn D.1 a x)), nI (k8 k + 1), don') := by
        unfold f_X9_round
        rw [e1, Option.bind_some, if_neg (by decide), E_roundSuits ok hHX ha hxn, hs, Option.bind_some, if_neg (show ¬ bI true = 0 by decide), E_turned h6 ha hxn, Option.bind_some, m1, Option.bind_some]
      have hY : f_X10_round (nI x) (nI k) ymn ybs yst ykd ylk yri ywh yun yal ynu ytr = some (nI (dg D.1 (trn D.1 a x) x), nI (k8 k + 1), wh', un', tr') := by
        unfold f_X10_round
        rw [e2, Option.bind_some, if_neg (by decide), g1, Option.bind_some]
      have hU' : PU D don' (nI (k8 k + 1)) (nI (k8 k + 1)) un' := by
        refine ⟨k8 k + 1, by unfold k8; split <;> omega, rfl, rfl, fun j hj => ?_⟩
        by_cases q : j = k8 k
        · subst q; exact ⟨a, ha, m3, g5⟩
        · have hj' : j < k8 k := by omega
          rw [m2 j hj', g4 j hj']
          refine hUe (shf k j) ?_
          unfold k8 at hj'; unfold shf
          split at hj' <;> rename_i h8 <;> (first | rw [if_pos h8] | rw [if_neg h8]) <;> omega
      exact ⟨_, _, _, xo_of hX rfl, xo_of hY rfl, D, (trn D.1 a x), ok, hb, hT, rfl, rfl, hHX, hHY, hTB, rfl, g2, hR, hU', (by
        obtain ⟨kq, q1, q2, q3, q4⟩ := hK
        refine ⟨kq, q1, q2, q3, fun j hj => ?_⟩
        obtain ⟨z, z1, z2, z3⟩ := q4 j hj
        refine ⟨z, z1, z2, fun p hp => ?_⟩
        show wh' (6 * (j + 1) + p) = _
        rw [g3 _ (by omega)]; exact z3 p hp), hS, hG⟩
theorem op_seen : ∀ (y1 : Int32) (y2 : Int32) (y3 : Int32) (y4 : Int32) (X : ZX9) (Y : ZX10), (y4 = 0 ∨ y4 = 1) → Inv X Y → ∃ (r : Int32) (X1 : ZX9) (Y1 : ZX10), xo_seen y1 y2 y3 y4 X = some (r, X1) ∧ yo_seen y1 y2 y3 y4 Y = some (r, Y1) ∧ Inv X1 Y1 := by
  intro y1 y2 y3 y4 X Y hz hI
  obtain ⟨⟨tby, tle, tnu⟩, ⟨pe, ri, hto, bp, sc, kd, lk⟩, dr, row, ⟨ton, tos⟩, ⟨don, dos⟩, ⟨ken, kes⟩, ⟨sw, sf, st, sy, ss⟩, gr, gd, se, ev, wa⟩ := X
  obtain ⟨yle, ytx, ymn, ybs, yst, ykd, ylk, yri, yli, ywh, ykm, yun, yum, yrm, yrw, ysm, yso, ysf, ysg, ysy, ypl, yto, yam, yal, ynu, ytr, ywe, ywt, ylo, yre, ywa, ynx⟩ := Y
  obtain ⟨D, a, hI⟩ := hI
  have hI0 : InvC D a tby tle pe ri bp sc kd lk row ton tos don dos ken kes sw sf st sy ss gr gd yle ytx ymn ybs yst ykd ylk yri ywh ykm yun yum yrm yrw ysm yso ysf ysg ysy yam yal ynu := hI
  obtain ⟨ok, ha, hT, hpe, hri, hHX, hHY, hTB, hrow, hwh, hR, hU, hK, hS, hG⟩ := id hI0
  have h2 := ok.1
  have h6 := ok.2.1
  have hg := ok.2.2.1
  subst hpe hri hrow
  obtain ⟨k, hk, rfl, rfl, hSe⟩ := id hS
  rcases place_cases hHY.1 h2 h6 y1 with ⟨e1, e2⟩ | ⟨i, hi, rfl, e1, e2⟩
  · have hX : f_X9_seen y1 y2 y3 y4 (nI D.1) (nI k) sw sf st sy = some (-1, nI k, sw, sf, st, sy) := by unfold f_X9_seen; rw [e1, Option.bind_some, if_pos rfl]
    have hY : f_X10_seen y1 y2 y3 y4 (nI k) ymn yso ysf ysg ysy = some (-1, nI k, yso, ysf, ysg, ysy) := by unfold f_X10_seen; rw [e2, Option.bind_some, if_pos rfl]
    exact ⟨_, _, _, xo_of hX rfl, xo_of hY rfl, D, a, hI0⟩
  · rcases place_cases hHY.1 h2 h6 y2 with ⟨e3, e4⟩ | ⟨x, hx, rfl, e3, e4⟩
    · have hX : f_X9_seen (nI i) y2 y3 y4 (nI D.1) (nI k) sw sf st sy = some (-1, nI k, sw, sf, st, sy) := by unfold f_X9_seen; rw [e1, Option.bind_some, if_neg (by decide), e3, Option.bind_some, if_pos rfl]
      have hY : f_X10_seen (nI i) y2 y3 y4 (nI k) ymn yso ysf ysg ysy = some (-1, nI k, yso, ysf, ysg, ysy) := by unfold f_X10_seen; rw [e2, Option.bind_some, if_neg (by decide), e4, Option.bind_some, if_pos rfl]
      exact ⟨_, _, _, xo_of hX rfl, xo_of hY rfl, D, a, hI0⟩
    · rcases place_cases hHY.1 h2 h6 y3 with ⟨e5, e6⟩ | ⟨y, hy, rfl, e5, e6⟩
      · have hX : f_X9_seen (nI i) (nI x) y3 y4 (nI D.1) (nI k) sw sf st sy = some (-1, nI k, sw, sf, st, sy) := by unfold f_X9_seen; rw [e1, Option.bind_some, if_neg (by decide), e3, Option.bind_some, if_neg (by decide), e5, Option.bind_some, if_pos rfl]
        have hY : f_X10_seen (nI i) (nI x) y3 y4 (nI k) ymn yso ysf ysg ysy = some (-1, nI k, yso, ysf, ysg, ysy) := by unfold f_X10_seen; rw [e2, Option.bind_some, if_neg (by decide), e4, Option.bind_some, if_neg (by decide), e6, Option.bind_some, if_pos rfl]
        exact ⟨_, _, _, xo_of hX rfl, xo_of hY rfl, D, a, hI0⟩
      · by_cases hxy : nI x = nI y
        · have hX : f_X9_seen (nI i) (nI x) (nI y) y4 (nI D.1) (nI k) sw sf st sy = some (-1, nI k, sw, sf, st, sy) := by unfold f_X9_seen; rw [e1, Option.bind_some, if_neg (by decide), e3, Option.bind_some, if_neg (by decide), e5, Option.bind_some, if_neg (by decide), if_pos hxy]
          have hY : f_X10_seen (nI i) (nI x) (nI y) y4 (nI k) ymn yso ysf ysg ysy = some (-1, nI k, yso, ysf, ysg, ysy) := by unfold f_X10_seen; rw [e2, Option.bind_some, if_neg (by decide), e4, Option.bind_some, if_neg (by decide), e6, Option.bind_some, if_neg (by decide), if_pos hxy]
          exact ⟨_, _, _, xo_of hX rfl, xo_of hY rfl, D, a, hI0⟩
        · by_cases h : k < 8
          · obtain ⟨z, hz4⟩ : ∃ z : Bool, y4 = bI z := by
              rcases hz with rfl | rfl
              · exact ⟨false, rfl⟩
              · exact ⟨true, rfl⟩
            have hv : vp_nar .boolean y4 = y4 := by rw [hz4]; cases z <;> rfl
            have hX : f_X9_seen (nI i) (nI x) (nI y) y4 (nI D.1) (nI k) sw sf st sy = some (nI (k + 1), nI (k + 1), upd sw k (nI i), upd sf k (nI x), upd st k (nI y), upd sy k y4) := by
              unfold f_X9_seen
              rw [e1, Option.bind_some, if_neg (by decide), e3, Option.bind_some, if_neg (by decide), e5, Option.bind_some, if_neg (by decide), if_neg hxy]
              unfold f_X6_add
              rw [if_pos (show nI k < (8 : Int32) from nI_lt (b := 8) h (by omega)), bdn _ h (by omega), bdn _ h (by omega), bdn _ h (by omega), bdn _ h (by omega), nI_cl (by omega), hv, show nI k + (1 : Int32) = nI (k + 1) from nI_1 k, Option.bind_some]
              exact if_neg (show ¬ (1 : Int32) = 0 by decide)
            have hY : f_X10_seen (nI i) (nI x) (nI y) y4 (nI k) ymn yso ysf ysg ysy = some (nI (k + 1), nI (k + 1), upd yso k (nI i), upd ysf k (nI x), upd ysg k (nI y), upd ysy k y4) := by
              unfold f_X10_seen f_X10_seen_b91
              rw [e2, Option.bind_some, if_neg (by decide), e4, Option.bind_some, if_neg (by decide), e6, Option.bind_some, if_neg (by decide), if_neg hxy, if_neg (show ¬ nI k = (8 : Int32) from fun q => absurd ((nI_eq (b := 8) (by omega) (by omega)).mp q) (by omega)), bdn _ h (by omega), bdn _ h (by omega), bdn _ h (by omega), bdn _ h (by omega), bdn _ h (by omega), nI_cl (by omega), show nI k + (1 : Int32) = nI (k + 1) from nI_1 k]
              rcases hz with rfl | rfl
              · exact if_pos rfl
              · exact if_neg (by decide)
            exact ⟨_, _, _, xo_of hX rfl, xo_of hY rfl, D, a, ok, ha, hT, rfl, rfl, hHX, hHY, hTB, rfl, hwh, hR, hU, hK, ⟨k + 1, by omega, rfl, rfl, fun j hj => by
              by_cases q : j = k
              · subst q
                exact ⟨i, x, y, z, hi, hx, hy, pk_us, pk_us, pk_us, pk_us, pk_us, pk_us, pk_us.trans hz4, pk_us.trans hz4⟩
              · obtain ⟨i', x', y', z', p1, p2, p3, p4, p5, p6, p7, p8, p9, p10, p11⟩ := hSe j (by omega)
                exact ⟨i', x', y', z', p1, p2, p3, (pk_un q).trans p4, (pk_un q).trans p5, (pk_un q).trans p6, (pk_un q).trans p7, (pk_un q).trans p8, (pk_un q).trans p9, (pk_un q).trans p10, (pk_un q).trans p11⟩⟩, hG⟩
          · have hX : f_X9_seen (nI i) (nI x) (nI y) y4 (nI D.1) (nI k) sw sf st sy = some (-3, nI k, sw, sf, st, sy) := by
              unfold f_X9_seen
              rw [e1, Option.bind_some, if_neg (by decide), e3, Option.bind_some, if_neg (by decide), e5, Option.bind_some, if_neg (by decide), if_neg hxy]
              unfold f_X6_add
              rw [if_neg (show ¬ nI k < (8 : Int32) from nI_nlt (b := 8) (by omega) (by omega)), Option.bind_some]
              exact if_pos rfl
            have hY : f_X10_seen (nI i) (nI x) (nI y) y4 (nI k) ymn yso ysf ysg ysy = some (-3, nI k, yso, ysf, ysg, ysy) := by
              unfold f_X10_seen
              rw [e2, Option.bind_some, if_neg (by decide), e4, Option.bind_some, if_neg (by decide), e6, Option.bind_some, if_neg (by decide), if_neg hxy, if_pos (show nI k = (8 : Int32) by rw [show k = 8 by omega]; rfl)]
            exact ⟨_, _, _, xo_of hX rfl, xo_of hY rfl, D, a, hI0⟩
