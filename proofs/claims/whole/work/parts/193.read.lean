/-! the whole text -/
section RD
variable {L : Nat} {tx : Nat → Int32} {D : HD}
/-- both find the same fault, or both none -/
def RR (L : Nat) (D : HD) (A : Option (Int32 × (Nat → Int32) × Int32 × Int32 × Int32 × (Nat → Int32) × (Nat → Int32) × (Nat → Int32) × (Nat → Int32))) (B : Option (Int32 × Int32 × Int32 × (Nat → Int32) × (Nat → Int32) × (Nat → Int32) × (Nat → Int32) × (Nat → Int32) × (Nat → Int32) × (Nat → Int32))) : Prop :=
  (∃ m nu p rg ht bp sc kd lk li pl mn bs st yk yl yr to, m < L ∧ A = some (nI m, nu, p, rg, ht, bp, sc, kd, lk) ∧ B = some (nI m, li, pl, mn, bs, st, yk, yl, yr, to) ∧ HY D mn bs st yk yl yr) ∨
  (∃ E h hl nu p rg ht bp sc kd lk li pl mn bs st yk yl yr to, A = some (-1, nu, p, rg, ht, bp, sc, kd, lk) ∧ B = some (-4, li, pl, mn, bs, st, yk, yl, yr, to) ∧ DR E h hl p rg ht bp sc kd lk li mn bs st yk yl yr ∧ HY D mn bs st yk yl yr)
theorem E_read_l (hL : L ≤ 300) (hD6 : D.1 ≤ 6) : ∀ (j k f f' : Nat) (E : HD) (h hl : Nat) (p rg ht : Int32) (bp sc kd lk : Nat → Int32) (li : Int32) (mn bs st yk yl yr nu to : Nat → Int32), k ≤ L → L ≤ k + j → j < f → j < f' → DR E h hl p rg ht bp sc kd lk li mn bs st yk yl yr → HY D mn bs st yk yl yr → RR L D (f_X7_read_l6 (nI L) tx f (nI k) nu p rg ht bp sc kd lk) (f_X10_readAll_l15 (nI L) tx f' li (nI k) mn bs st yk yl yr to) := by
  intro j
  induction j with
  | zero =>
    intro k f f' E h hl p rg ht bp sc kd lk li mn bs st yk yl yr nu to hk hj hf hf' hR hy
    obtain ⟨f, rfl⟩ : ∃ q, f = q + 1 := ⟨f - 1, by omega⟩
    obtain ⟨f', rfl⟩ : ∃ q, f' = q + 1 := ⟨f' - 1, by omega⟩
    right
    rw [f_X7_read_l6.eq_2, if_pos (nI_le (by omega) (by omega)), f_X10_readAll_l15.eq_2, if_pos (nI_le (by omega) (by omega))]
    exact ⟨E, h, hl, _, _, _, _, _, _, _, _, _, _, _, _, _, _, _, _, _, rfl, rfl, hR, hy⟩
  | succ j ih =>
    intro k f f' E h hl p rg ht bp sc kd lk li mn bs st yk yl yr nu to hk hj hf hf' hR hy
    obtain ⟨f, rfl⟩ : ∃ q, f = q + 1 := ⟨f - 1, by omega⟩
    obtain ⟨f', rfl⟩ : ∃ q, f' = q + 1 := ⟨f' - 1, by omega⟩
    by_cases hkL : k < L
    · rw [f_X7_read_l6.eq_2, if_neg (nI_ge hkL (by omega)), f_X10_readAll_l15.eq_2, if_neg (nI_ge hkL (by omega))]
      rcases E_item (tx := tx) hL hkL hD6 hR hy nu to with ⟨nu1, p1, rg1, ht1, bp1, sc1, kd1, lk1, li1, pl1, mn1, bs1, st1, yk1, yl1, yr1, to1, e1, e2, hy1⟩ | ⟨k1, E1, h1, hl1, nu1, p1, rg1, ht1, bp1, sc1, kd1, lk1, li1, mn1, bs1, st1, yk1, yl1, yr1, to1, e1, e2, a1, a2, hR1, hy1⟩
      · left
        rw [e1, e2, Option.bind_some, Option.bind_some]
        refine ⟨k, nu1, p1, rg1, ht1, bp1, sc1, kd1, lk1, li1, pl1, mn1, bs1, st1, yk1, yl1, yr1, to1, hkL, ?_, ?_, hy1⟩
        · exact if_neg (show ¬ nI k < (-1 : Int32) from fun e => absurd (Int32.lt_trans e (show (-1 : Int32) < 0 by decide)) (nI_lt0 (by omega)))
        · exact if_pos rfl
      · rw [e1, e2, Option.bind_some, Option.bind_some]
        have hA : ∀ (X Y : Option (Int32 × (Nat → Int32) × Int32 × Int32 × Int32 × (Nat → Int32) × (Nat → Int32) × (Nat → Int32) × (Nat → Int32))), (if nI k < nI k1 then X else Y) = X := fun X Y => if_pos (nI_lt a1 (by omega))
        have hB : ∀ (X Y : Option (Int32 × Int32 × Int32 × (Nat → Int32) × (Nat → Int32) × (Nat → Int32) × (Nat → Int32) × (Nat → Int32) × (Nat → Int32) × (Nat → Int32))), (if (1 : Int32) = 0 then X else Y) = Y := fun X Y => if_neg (by decide)
        show RR L D (if nI k < nI k1 then f_X7_read_l6 (nI L) tx f (nI k1) nu1 p1 rg1 ht1 bp1 sc1 kd1 lk1 else _) (if (1 : Int32) = 0 then _ else f_X10_readAll_l15 (nI L) tx f' li1 (nI k1) mn1 bs1 st1 yk1 yl1 yr1 to1)
        rw [hA, hB]
        exact ih k1 f f' E1 h1 hl1 p1 rg1 ht1 bp1 sc1 kd1 lk1 li1 mn1 bs1 st1 yk1 yl1 yr1 nu1 to1 a2 (by omega) (by omega) (by omega) hR1 hy1
    · right
      rw [f_X7_read_l6.eq_2, if_pos (nI_le (by omega) (by omega)), f_X10_readAll_l15.eq_2, if_pos (nI_le (by omega) (by omega))]
      exact ⟨E, h, hl, _, _, _, _, _, _, _, _, _, _, _, _, _, _, _, _, _, rfl, rfl, hR, hy⟩
theorem E_read (hL : L ≤ 300) (hD6 : D.1 ≤ 6) (nu : Nat → Int32) (p rg ht : Int32) (bp sc kd lk : Nat → Int32) (li pl : Int32) (mn bs st yk yl yr to : Nat → Int32) (hy : HY D mn bs st yk yl yr) : RR L D (f_X7_read (nI L) tx nu p rg ht bp sc kd lk) (f_X10_readAll (nI L) li pl tx mn bs st yk yl yr to) := by
  have h0 := NF_big
  obtain ⟨lk', c1, c2⟩ := E_clear p rg ht lk
  obtain ⟨yl', n1, n2, n3⟩ := E_noHouses (b := 1) (by omega) mn yl yr
  unfold f_X7_read f_X10_readAll
  rw [c1, Option.bind_some, show f_X10_noHouses (1 : Int32) mn yl yr = _ from n1, Option.bind_some]
  refine E_read_l hL hD6 L 0 NF NF (0, 0, (fun _ => 0), (fun _ => 0), (fun _ => 0), (fun _ _ => 50)) 0 0 0 0 0 bp sc kd lk' 0 (upd mn 1 0) bs st yk yl' (upd yr 1 0) nu to (by omega) (by omega) (by omega) (by omega) ⟨show 0 ≤ 6 by omega, show 0 ≤ 1 by omega, fun i hi => absurd (show i < 0 from hi) (by omega), fun i hi j hj => show 50 ≤ 99 by omega, rfl, pk_us, rfl, pk_us, fun i hi => absurd (show i < 0 from hi) (by omega), fun i hi j hj => ⟨c2 _ (by omega), ?_⟩, rfl, rfl, by omega, by omega, fun i hi => absurd (show i < 0 from hi) (by omega), Or.inl rfl⟩ ⟨by rw [pk_un (by omega)]; exact hy.1, by rw [pk_un (by omega)]; exact hy.2.1, hy.2.2.1, hy.2.2.2.1, hy.2.2.2.2.1, fun i hi j hj => ?_⟩
  · have := n2 (6 * i + j) (by omega)
    rw [show 36 * 1 + (6 * i + j) = 36 + 6 * i + j by omega] at this
    exact this
  · rw [n3 _ (Or.inl (by omega))]
    exact hy.2.2.2.2.2 i hi j hj
end RD
theorem op_fault : ∀ (X : ZX9) (Y : ZX10), Inv X Y → ∃ (r : Int32) (X1 : ZX9) (Y1 : ZX10), xo_fault  X = some (r, X1) ∧ yo_fault  Y = some (r, Y1) ∧ Inv X1 Y1 := by
  intro X Y hI
  obtain ⟨⟨tby, tle, tnu⟩, ⟨pe, ri, hto, bp, sc, kd, lk⟩, dr, row, ⟨ton, tos⟩, ⟨don, dos⟩, ⟨ken, kes⟩, ⟨sw, sf, st, sy, ss⟩, gr, gd, se, ev, wa⟩ := X
  obtain ⟨yle, ytx, ymn, ybs, yst, ykd, ylk, yri, yli, ywh, ykm, yun, yum, yrm, yrw, ysm, yso, ysf, ysg, ysy, ypl, yto, yam, yal, ynu, ytr, ywe, ywt, ylo, yre, ywa, ynx⟩ := Y
  obtain ⟨D, a, hI⟩ := hI
  have hI0 : InvC D a tby tle pe ri bp sc kd lk row ton tos don dos ken kes sw sf st sy ss gr gd yle ytx ymn ybs yst ykd ylk yri ywh ykm yun yum yrm yrw ysm yso ysf ysg ysy yam yal ynu := hI
  obtain ⟨ok, ha, hT, hpe, hri, hHX, hHY, hTB, hrow, hwh, hR, hU, hK, hS, hG⟩ := id hI0
  obtain ⟨L, hL, rfl, rfl, rfl⟩ := id hT
  rcases E_read (tx := tby) hL ok.2.1 tnu dr.1 dr.2.1 dr.2.2.1 dr.2.2.2.1 dr.2.2.2.2.1 dr.2.2.2.2.2.1 dr.2.2.2.2.2.2 yli ypl ymn ybs yst ykd ylk yri yto hHY with ⟨m, nu, p, rg, ht, bp', sc', kd', lk', li, pl, mn', bs', st', yk', yl', yr', to', hm, e1, e2, hy⟩ | ⟨E, h, hl, nu, p, rg, ht, bp', sc', kd', lk', li, pl, mn', bs', st', yk', yl', yr', to', e1, e2, hDR, hy⟩
  · have hX : f_X9_fault (nI L) tby tnu dr.1 dr.2.1 dr.2.2.1 dr.2.2.2.1 dr.2.2.2.2.1 dr.2.2.2.2.2.1 dr.2.2.2.2.2.2 = some (nI m, nu, p, rg, ht, bp', sc', kd', lk') := by
      unfold f_X9_fault
      rw [e1, Option.bind_some]
      exact if_pos (show (0 : Int32) ≤ nI m from nI_ge0 (by omega))
    have hY : f_X10_fault (nI L) yli ypl tby ymn ybs yst ykd ylk yri yto = some (nI m, li, pl, mn', bs', st', yk', yl', yr', to') := by
      unfold f_X10_fault
      rw [e2, Option.bind_some]
    exact ⟨_, _, _, xo_of hX rfl, xo_of hY rfl, D, a, ok, ha, hT, hpe, hri, hHX, hy, hTB, hrow, hwh, hR, hU, hK, hS, hG⟩
  · have hX : f_X9_fault (nI L) tby tnu dr.1 dr.2.1 dr.2.2.1 dr.2.2.2.1 dr.2.2.2.2.1 dr.2.2.2.2.2.1 dr.2.2.2.2.2.2 = some (-4, nu, p, rg, ht, bp', sc', kd', lk') := by
      unfold f_X9_fault
      rw [e1, Option.bind_some]
      exact if_neg (show ¬ (0 : Int32) ≤ -1 by decide)
    have hY : f_X10_fault (nI L) yli ypl tby ymn ybs yst ykd ylk yri yto = some (-4, li, pl, mn', bs', st', yk', yl', yr', to') := by
      unfold f_X10_fault
      rw [e2, Option.bind_some]
    exact ⟨_, _, _, xo_of hX rfl, xo_of hY rfl, D, a, ok, ha, hT, hpe, hri, hHX, hy, hTB, hrow, hwh, hR, hU, hK, hS, hG⟩
