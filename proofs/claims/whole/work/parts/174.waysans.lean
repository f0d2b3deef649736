/-! the class and the reference find the same -/
theorem ways_eq {N K : Nat} {S : Nat → Nat → Bool} {T : Nat → Nat → Nat} {P : Nat → Bool} {a R : Nat} {qu st fi : Nat → Int32} {q d g : Nat → Nat} {r n : Int32} (hN : N ≤ 720) (hK : K ≤ 6) (hT : ∀ a, a < N → ∀ x, x < K → T a x < N) (ha : a < N) (hF : SF N K S T a R qu st fi q d g) (hn : NR P R q r) (hf : Few N N K S T P a n) :
    (r = -1 ∧ n = -4) ∨ ∃ s m, s < N ∧ r = nI s ∧ st s = nI m ∧ n = nI m ∧ m < 720 ∧ (0 < m → ∃ y, y < K ∧ fi s = nI y ∧ S a y = true ∧ FewAt N K S T P (T a y) (m - 1) ∧ ∀ z, z < y → S a z = true → ¬ FewAt N K S T P (T a z) (m - 1)) := by
  obtain ⟨hQ, hall, _⟩ := hF
  have hRN := SQ_le hQ
  obtain ⟨s1, s2, s3, s4, s5, s6, s7, s8, s9⟩ := hQ
  have hin : ∀ m b, Wy K S T a m b → ∃ i, i < R ∧ q i = b ∧ d b ≤ m := by
    intro m b hw
    cases m with
    | zero =>
      have hw' : a = b := hw
      subst hw'
      exact ⟨0, s1, s2, by omega⟩
    | succ m =>
      obtain ⟨x, hx, hs, hw'⟩ := wy_split m b hw
      obtain ⟨i, i1, i2, i3⟩ := hall x hx hs m b hw'
      exact ⟨i, i1, i2, by omega⟩
  rcases hn with ⟨j, j1, j2, j3, j4⟩ | ⟨rfl, hno⟩
  · right
    have hge : ∀ i, i < R → P (q i) = true → j ≤ i := fun i hi hp => by
      by_cases c : j ≤ i
      · exact c
      · rw [j4 i (by omega)] at hp; exact absurd hp (by decide)
    have hmon : ∀ i, i < R → P (q i) = true → 8 * d (q j) + g (q j) ≤ 8 * d (q i) + g (q i) := fun i hi hp => by
      have := hge i hi hp
      by_cases c : i = j
      · subst c; exact Nat.le_refl _
      · exact s9 j i (by omega) hi
    obtain ⟨a1, a2, a3, a4, a5, a6⟩ := s5 j j1
    have hW : Wy K S T a (d (q j)) (q j) := by
      by_cases c : j = 0
      · subst c
        rw [s2, s3]; exact rfl
      · obtain ⟨b1, b2, b3, b4⟩ := s8 j (by omega) j1
        have := wy_first b2 b3 _ _ b4
        rw [show d (q j) - 1 + 1 = d (q j) by omega] at this
        exact this
    rcases hf with ⟨m, hm, ⟨⟨b, b1, b2, b3⟩, hmin⟩, rfl⟩ | ⟨hnone, rfl⟩
    · obtain ⟨i, i1, i2, i3⟩ := hin m b b3
      subst i2
      have m1 := hmon i i1 b2
      have m2 := hmin _ a1 j2 _ hW
      have m3 := (s5 i i1).2.2.2.2.2
      obtain rfl : m = d (q j) := by omega
      refine ⟨q j, d (q j), a1, j3, a3, rfl, by omega, fun hpos => ?_⟩
      have j0 : j ≠ 0 := by
        intro c; subst c
        rw [s2, s3] at hpos; omega
      obtain ⟨b1', b2', b3', b4'⟩ := s8 j (by omega) j1
      refine ⟨g (q j), b2', a4, b3', ⟨⟨q j, a1, j2, b4'⟩, fun c c1 c2 m' hw => ?_⟩, fun z hz hs hat => ?_⟩
      · have := hmin c c1 c2 _ (wy_first b2' b3' _ _ hw)
        omega
      · obtain ⟨⟨c, c1, c2, c3⟩, _⟩ := hat
        obtain ⟨l, l1, l2, l3⟩ := hall z (by omega) hs _ c c3
        subst l2
        have := hmon l l1 c2
        omega
    · exact absurd hW (hnone _ a1 j2 _)
  · left
    refine ⟨rfl, ?_⟩
    rcases hf with ⟨m, hm, ⟨⟨b, b1, b2, b3⟩, hmin⟩, rfl⟩ | ⟨hnone, rfl⟩
    · obtain ⟨i, i1, i2, i3⟩ := hin m b b3
      subst i2
      rw [hno i i1] at b2
      exact absurd b2 (by decide)
    · rfl
/-! and answer the same -/
theorem ways_ans {N K : Nat} {S : Nat → Nat → Bool} {T : Nat → Nat → Nat} {P : Nat → Bool} {mn ri all we wh num : Nat → Int32} {x2 x3 : Int32} (hW : WK N K S T P mn ri all we x2 x3) {a R : Nat} {qu st fi : Nat → Int32} {q d g : Nat → Nat} {r n : Int32} (ha : a < N) (hF : SF N K S T a R qu st fi q d g) (hn : NR P R q r) (hf : Few N N K S T P a n) (hnow : f_X10_now mn wh num = some (nI a)) {what : Int32} (hw : what = 0 ∨ what = 1) {α β : Type} (F : Int32 → α) (G : Int32 → (Nat → Int32) → β) (rc : Nat → Int32) :
    ∃ v rc', (if 0 ≤ r then Option.bind (f_X9_answerOfWay r what st fi) (fun u => some (F u)) else some (F (-4))) = some (F v) ∧ (if what = 0 then some (G n rc) else if 0 < n then Option.bind (f_X10_firstOf x2 x3 n (nI N) mn ri wh all num we rc) (fun u => some (G u.1 u.2)) else some (G (-4) rc)) = some (G v rc') := by
  have h0 := NF_big
  rcases ways_eq hW.1 hW.2.1 hW.2.2.1 ha hF hn hf with ⟨rfl, rfl⟩ | ⟨s, m, hs, rfl, e1, rfl, hm, hy⟩
  · rw [if_neg (show ¬ (0 : Int32) ≤ -1 by decide), if_neg (show ¬ (0 : Int32) < -4 by decide)]
    refine ⟨-4, rc, rfl, ?_⟩
    split <;> rfl
  · have hsN := hW.1
    rw [if_pos (nI_ge0 (by omega))]
    have est : f_X5_stepsTo (nI s) st = some (nI m) := by
      unfold f_X5_stepsTo
      rw [if_neg (nI_lt0 (by omega)), if_neg (show ¬ (720 : Int32) ≤ nI s from nI_ge (b := 720) (by omega) (by omega)), bdn _ (show s < 720 by omega) (by omega), nI_cl (by omega), e1]
    unfold f_X9_answerOfWay
    rw [est, Option.bind_some]
    rcases hw with rfl | rfl
    · rw [if_pos rfl, if_pos rfl]
      exact ⟨_, rc, rfl, rfl⟩
    · rw [if_neg (show ¬ (1 : Int32) = 0 by decide), if_neg (show ¬ (1 : Int32) = 0 by decide)]
      by_cases hm0 : m = 0
      · subst hm0
        rw [if_pos (show nI 0 = (0 : Int32) from rfl), if_neg (show ¬ (0 : Int32) < nI 0 by decide)]
        exact ⟨_, rc, rfl, rfl⟩
      · obtain ⟨y, y1, y2, y3, y4, y5⟩ := hy (by omega)
        have efi : f_X5_firstTo (nI s) fi = some (nI y) := by
          unfold f_X5_firstTo
          rw [if_neg (nI_lt0 (by omega)), if_neg (show ¬ (720 : Int32) ≤ nI s from nI_ge (b := 720) (by omega) (by omega)), bdn _ (show s < 720 by omega) (by omega), nI_cl (by omega), y2]
        obtain ⟨r', rc', f1, f2⟩ := E_fo9 (wh := wh) (num := num) hW ha (show 1 ≤ m by omega) (by omega) K 0 NF rc (by omega) (by have := hW.2.1; omega)
        have er : r' = nI y := by
          rcases f2 with ⟨y', z1, z2, z3, z4, rfl, z6⟩ | ⟨_, h⟩
          · rcases Nat.lt_trichotomy y y' with c | c | c
            · exact absurd y4 (z6 y (by omega) c y3)
            · rw [c]
            · exact absurd z4 (y5 y' c z3)
          · exact absurd y4 (h y (by omega) y1 y3)
        subst er
        have efo : f_X10_firstOf x2 x3 (nI m) (nI N) mn ri wh all num we rc = some (nI y, rc') := by
          unfold f_X10_firstOf
          rw [hnow, Option.bind_some]
          exact f1
        rw [if_neg (fun e => hm0 ((nI_eq0 (by omega)).mp e)), efi, if_pos (show (0 : Int32) < nI m from nI_lt (a := 0) (by omega) (by omega)), efo]
        exact ⟨_, rc', rfl, rfl⟩
/-! in our houses -/
theorem kk6 {D : HD} (ok : HOK D) : kk D.1 D.2.1 ≤ 6 := by
  have := (kk_bd (rg := D.2.1) ok.1 ok.2.1).2
  have := ok.2.1
  omega
theorem chg_in {D : HD} (ok : HOK D) : ∀ a, a < NN D.1 → ∀ x, x < kk D.1 D.2.1 → chg D.1 a x < NN D.1 := fun a ha x hx => tb_chg D.1 a ha x (by
  have := (kk_bd (rg := D.2.1) ok.1 ok.2.1).2
  omega)
theorem WK_rest {D : HD} {mn bs st ykd ylk ri all num : Nat → Int32} {am : Int32} (ok : HOK D) (hy : HY D mn bs st ykd ylk ri) (tb : TB D.1 am all num) {we : Nat → Int32} (hw : WOK D we) : WK (NN D.1) (kk D.1 D.2.1) (suitB D) (chg D.1) (restB D) mn ri all we 0 (-4) := by
  refine ⟨NN_le D.1, kk6 ok, chg_in ok, E_countY hy.1 hy.2.1 ok.1 ok.2.1 ok.2.2.1, hw, fun f k x4 rc hk => ?_⟩
  have hN := NN_le D.1
  rw [f_X10_fewestFrom_l12.eq_2, if_neg (nI_ge hk (by omega)), if_pos (show (-4 : Int32) < 0 by decide), E_lowest ok hy hw hk, Option.bind_some]
  have hl := lowI_neg ok (a := k)
  cases hr : restB D k with
  | false => rw [if_pos (hl.mpr hr)]; rfl
  | true => rw [if_neg (fun e => by rw [hl.mp e] at hr; exact absurd hr (by decide))]; rfl
theorem WK_with {D : HD} {S : Nat → Nat → Bool} {mn bs st ykd ylk ri all num : Nat → Int32} {am : Int32} (ok : HOK D) (hy : HY D mn bs st ykd ylk ri) (tb : TB D.1 am all num) {we : Nat → Int32} (hw : ∀ a, a < NN D.1 → ∀ x, x < kk D.1 D.2.1 → we (6 * a + x) = if S a x then nI (chg D.1 a x) else -4) {i p : Nat} (hi : i < D.1) (hp : p < D.1) : WK (NN D.1) (kk D.1 D.2.1) S (chg D.1) (fun s => decide (dg D.1 s p = i)) mn ri all we (nI i) (nI p) := by
  refine ⟨NN_le D.1, kk6 ok, chg_in ok, E_countY hy.1 hy.2.1 ok.1 ok.2.1 ok.2.2.1, hw, fun f k x4 rc hk => ?_⟩
  have hN := NN_le D.1
  have h6 := ok.2.1
  have hd := tb_dg D.1 k hk p hp
  rw [f_X10_fewestFrom_l12.eq_2, if_neg (nI_ge hk (by omega)), if_neg (nI_lt0 (by omega)), E_whoIn tb ok.2.1 hk hp, Option.bind_some]
  by_cases hr : dg D.1 k p = i
  · rw [if_pos (by rw [hr])]
    show _ = f_X10_fewestFrom_b58 (nI (NN D.1)) mn ri all we (f_X10_fewestFrom_l12 (nI (NN D.1)) mn ri all we f) (nI i) (nI p) x4 (nI k) (bI (decide (dg D.1 k p = i))) rc
    rw [decide_eq_true hr]; rfl
  · rw [if_neg (fun e => hr ((nI_eq (by omega) (by omega)).mp e))]
    show _ = f_X10_fewestFrom_b58 (nI (NN D.1)) mn ri all we (f_X10_fewestFrom_l12 (nI (NN D.1)) mn ri all we f) (nI i) (nI p) x4 (nI k) (bI (decide (dg D.1 k p = i))) rc
    rw [decide_eq_false hr]; rfl
theorem E_spreadD {D : HD} (ok : HOK D) {rows edges : Nat → Int32} (hG : GOK0 D rows edges) (mk : Nat) {a : Nat} (ha : a < NN D.1) (r0 : Int32) (qu st fi : Nat → Int32) : ∃ R qu' st' fi' q d g, f_X5_spread (nI a) (mkI D.1 mk) r0 qu st fi (nI D.1) (nI (NN D.1)) (nI (kk D.1 D.2.1)) rows edges = some (nI R, qu', st', fi') ∧ SF (NN D.1) (kk D.1 D.2.1) (suitM D mk) (chg D.1) a R qu' st' fi' q d g :=
  E_spread (NN_le D.1) (kk6 ok) (chg_in ok) (fun s hs x hx => E_leads0 ok hG hs hx) ha r0 qu st fi
