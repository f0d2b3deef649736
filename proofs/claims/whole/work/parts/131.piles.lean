/-! piles, going to an arrangement, keeping -/
theorem E_go_l {n b : Nat} {am : Int32} {mn all num : Nat → Int32} (tb : TB n am all num) (hm : mn 0 = nI n) (hn : n ≤ 6) (hb : b < NN n) : ∀ (j p f : Nat) (wh : Nat → Int32), p + j = n → j < f → ∃ wh', f_X10_go_l2 mn all f (nI b) (nI p) wh = some wh' ∧ (∀ q, p ≤ q → q < n → wh' q = nI (dg n b q)) ∧ (∀ q, q < p ∨ n ≤ q → wh' q = wh q) := by
  intro j
  induction j with
  | zero =>
    intro p f wh hp hf
    obtain ⟨f, rfl⟩ : ∃ g, f = g + 1 := ⟨f - 1, by omega⟩
    refine ⟨wh, ?_, fun q h1 h2 => absurd h2 (by omega), fun _ _ => rfl⟩
    rw [f_X10_go_l2.eq_2, bd0, c0, hm, if_pos (nI_le (by omega) (by omega))]
  | succ j ih =>
    intro p f wh hp hf
    obtain ⟨f, rfl⟩ : ∃ g, f = g + 1 := ⟨f - 1, by omega⟩
    obtain ⟨wh', h1, h2, h3⟩ := ih (p + 1) f (upd wh p (nI (dg n b p))) (by omega) (by omega)
    refine ⟨wh', ?_, fun q q1 q2 => ?_, fun q hq => ?_⟩
    · rw [f_X10_go_l2.eq_2, bd0, c0, hm, if_neg (nI_ge (by omega) (by omega)), E_whoIn tb hn hb (by omega), Option.bind_some, bdn _ (by omega) (by omega), nI_cl (by omega), show nI p + (1 : Int32) = nI (p + 1) from nI_1 p]
      exact h1
    · by_cases h : q = p
      · subst h; rw [h3 q (Or.inl (by omega)), pk_us]
      · exact h2 q (by omega) q2
    · rw [h3 q (by omega), pk_un (by omega)]
theorem E_go {n b : Nat} {am : Int32} {mn all num : Nat → Int32} (tb : TB n am all num) (hm : mn 0 = nI n) (hn : n ≤ 6) (hb : b < NN n) (wh : Nat → Int32) : ∃ wh', f_X10_go (nI b) mn wh all = some wh' ∧ (∀ q, q < n → wh' q = nI (dg n b q)) ∧ (∀ q, n ≤ q → wh' q = wh q) := by
  have h := NF_big
  obtain ⟨wh', h1, h2, h3⟩ := E_go_l tb hm hn hb n 0 NF wh (by omega) (by omega)
  exact ⟨wh', h1, fun q hq => h2 q (by omega) hq, fun q hq => h3 q (Or.inr hq)⟩
theorem E_copy_l {s t : Nat} (hs : s ≤ 2) (ht : t ≤ 2) (hne : s ≠ t) : ∀ (j k f : Nat) (wh : Nat → Int32), k + j = 6 → j < f → ∃ wh', f_X10_copy_l2 f (nI s) (nI t) (nI k) wh = some wh' ∧ (∀ p, k ≤ p → p < 6 → wh' (6 * t + p) = wh (6 * s + p)) ∧ (∀ q, (q < 6 * t + k ∨ 6 * t + 6 ≤ q) → wh' q = wh q) := by
  intro j
  induction j with
  | zero =>
    intro k f wh hk hf
    obtain ⟨f, rfl⟩ : ∃ g, f = g + 1 := ⟨f - 1, by omega⟩
    refine ⟨wh, ?_, fun p h1 h2 => absurd h2 (by omega), fun _ _ => rfl⟩
    rw [f_X10_copy_l2.eq_2, if_pos (show (6 : Int32) ≤ nI k from nI_le (a := 6) (by omega) (by omega))]
  | succ j ih =>
    intro k f wh hk hf
    obtain ⟨f, rfl⟩ : ∃ g, f = g + 1 := ⟨f - 1, by omega⟩
    obtain ⟨wh', h1, h2, h3⟩ := ih (k + 1) f (upd wh (6 * t + k) (wh (6 * s + k))) (by omega) (by omega)
    refine ⟨wh', ?_, fun p p1 p2 => ?_, fun q hq => ?_⟩
    · rw [f_X10_copy_l2.eq_2, if_neg (show ¬ (6 : Int32) ≤ nI k from nI_ge (b := 6) (by omega) (by omega)), show (6 : Int32) * nI s + nI k = nI (6 * s + k) from nI_ma 6 s k, show (6 : Int32) * nI t + nI k = nI (6 * t + k) from nI_ma 6 t k, bdn _ (by omega) (by omega), bdn _ (by omega) (by omega), nI_cl (by omega), nI_cl (by omega), show nI k + (1 : Int32) = nI (k + 1) from nI_1 k]
      exact h1
    · by_cases h : p = k
      · subst h; rw [h3 _ (Or.inl (by omega)), pk_us]
      · rw [h2 p (by omega) p2, pk_un (by omega)]
    · rw [h3 q (by omega), pk_un (by omega)]
theorem E_copy {s t : Nat} (hs : s ≤ 2) (ht : t ≤ 2) (hne : s ≠ t) (wh : Nat → Int32) : ∃ wh', f_X10_copy (nI s) (nI t) wh = some wh' ∧ (∀ p, p < 6 → wh' (6 * t + p) = wh (6 * s + p)) ∧ (∀ q, (q < 6 * t ∨ 6 * t + 6 ≤ q) → wh' q = wh q) := by
  have h := NF_big
  obtain ⟨wh', h1, h2, h3⟩ := E_copy_l hs ht hne 6 0 NF wh (by omega) (by omega)
  exact ⟨wh', h1, fun p hp => h2 p (by omega) hp, fun q hq => h3 q (by omega)⟩
theorem E_isFull {n k : Nat} (hk : k < 1000) (hn : n < 1000) : f_X3_isFull n (nI k) = some (if k < n then 0 else 1) := by
  unfold f_X3_isFull
  by_cases h : k < n
  · rw [if_pos (nI_lt h (by omega)), if_pos h]
  · rw [if_neg (nI_nlt (by omega) (by omega)), if_neg h]
theorem E_push {n k : Nat} {v : Int32} {f : Nat → Int32} (hk : k < n) (hn : n < 1000) : f_X3_push v n (nI k) f = some (nI (k + 1), upd f k v) := by
  unfold f_X3_push
  rw [E_isFull (by omega) hn, Option.bind_some, if_pos hk, if_pos rfl, bdn _ hk (by omega), nI_cl (by omega), show nI k + (1 : Int32) = nI (k + 1) from nI_1 k]
theorem E_pop {n k : Nat} {f : Nat → Int32} (h0 : 0 < k) (hk : k ≤ n) (hn : n < 1000) : f_X3_pop n (nI k) f = some (f (k - 1), nI (k - 1)) := by
  unfold f_X3_pop
  rw [if_neg (nI_ne0 h0 (by omega)), nI_s1 (by omega), bdn _ (by omega) (by omega), nI_cl (by omega)]
/-- the place from which an entry comes, where the oldest is dropped -/
def shf (k j : Nat) : Nat := if k = 8 then j + 1 else j
def k8 (k : Nat) : Nat := if k = 8 then 7 else k
theorem E_moveTo {n b x k r : Nat} {don : Nat → Int32} (hb : b < NN n) (hx : x < n) (hk : k ≤ 8) : ∃ don', f_X9_moveTo (nI (rw_ n b)) (nI x) 8 (nI r) (nI k) don = some (nI (dg n b x), nI (rw_ n b), nI (k8 k + 1), don') ∧ (∀ j, j < k8 k → don' j = don (shf k j)) ∧ don' (k8 k) = nI r := by
  unfold f_X9_moveTo f_X9_moveTo_b17
  rw [E_isFull (by omega) (by omega), Option.bind_some]
  by_cases h : k < 8
  · have e1 : k8 k = k := by unfold k8; rw [if_neg (by omega)]
    refine ⟨upd don k (nI r), ?_, fun j hj => ?_, ?_⟩
    · rw [if_pos h, if_pos rfl, E_push h (by omega), Option.bind_some, tb_who n b hb x hx, Option.bind_some, e1]
    · rw [e1] at hj
      rw [pk_un (by omega)]; unfold shf; rw [if_neg (by omega)]
    · rw [e1, pk_us]
  · obtain rfl : k = 8 := by omega
    have e1 : k8 8 = 7 := rfl
    have d : f_X3_dropOldest 8 (nI 8) don = some (nI 7, va_cpy don don 1 0 7) := by
      unfold f_X3_dropOldest cpg
      rw [if_neg (by decide), if_pos (by decide)]
      rfl
    refine ⟨upd (va_cpy don don 1 0 7) 7 (nI r), ?_, fun j hj => ?_, ?_⟩
    · rw [if_neg h, if_neg (by decide), d, Option.bind_some]
      show Option.bind (f_X3_push (nI r) 8 (nI 7) (va_cpy don don 1 0 7)) _ = _
      rw [E_push (by omega) (by omega), Option.bind_some, tb_who n b hb x hx, Option.bind_some, e1]
    · rw [e1] at hj
      rw [pk_un (by omega), pk_cpy_in (by omega) (by omega)]
      unfold shf
      rw [if_pos rfl, Nat.sub_zero, Nat.add_comm]
    · rw [e1, pk_us]
section DI
variable {D : HD} {mn bs st kd lk ri all num : Nat → Int32} {am : Int32}
theorem E_shift {x1 x2 x3 um : Int32} {wh tr : Nat → Int32} (P : Option (Int32 × Int32 × (Nat → Int32) × (Nat → Int32) × (Nat → Int32)) → Prop) : ∀ (j c f : Nat) (un : Nat → Int32), c + j = 8 → 1 ≤ c → j < f → (∀ un' : Nat → Int32, (∀ i, i < 7 → un' i = if i < c - 1 then un i else un (i + 1)) → P (f_X10_doIt_b69 mn bs st kd lk ri all num x1 x2 x3 (um - (1 : Int32)) wh un' tr)) → P (f_X10_doIt_l30 mn bs st kd lk ri all num f x1 x2 x3 (nI c) um wh un tr) := by
  intro j
  induction j with
  | zero =>
    intro c f un hc h1 hf hP
    obtain ⟨f, rfl⟩ : ∃ g, f = g + 1 := ⟨f - 1, by omega⟩
    rw [f_X10_doIt_l30.eq_2, if_pos (show (8 : Int32) ≤ nI c from nI_le (a := 8) (by omega) (by omega))]
    exact hP un (fun i hi => by rw [if_pos (by omega)])
  | succ j ih =>
    intro c f un hc h1 hf hP
    obtain ⟨f, rfl⟩ : ∃ g, f = g + 1 := ⟨f - 1, by omega⟩
    rw [f_X10_doIt_l30.eq_2, if_neg (show ¬ (8 : Int32) ≤ nI c from nI_ge (b := 8) (by omega) (by omega)), bdn _ (by omega) (by omega), nI_s1 h1, bdn _ (by omega) (by omega), nI_cl (by omega), nI_cl (by omega), show nI c + (1 : Int32) = nI (c + 1) from nI_1 c]
    refine ih (c + 1) f _ (by omega) (by omega) (by omega) (fun un' h => hP un' (fun i hi => ?_))
    rw [h i hi]
    by_cases q1 : i < c - 1
    · rw [if_pos (by omega), if_pos q1, pk_un (by omega)]
    · rw [if_neg q1]
      by_cases q2 : i = c - 1
      · rw [if_pos (by omega), q2, pk_us, show c - 1 + 1 = c by omega]
      · rw [if_neg (by omega), pk_un (by omega)]
theorem E_doIt_no (hy : HY D mn bs st kd lk ri) (tb : TB D.1 am all num) (h6 : D.1 ≤ 6) {a x : Nat} {t3 um : Int32} {wh un tr tr1 : Nat → Int32} (ha : a < NN D.1) (hw : ∀ p, p < D.1 → wh p = nI (dg D.1 a p)) (hd : f_X10_doesSuit (nI a) (nI x) t3 mn bs st kd lk ri all num tr = some (bI false, tr1)) : f_X10_doIt (nI x) t3 um mn bs st kd lk ri wh un all num tr = some (-2, um, wh, un, tr1) := by
  unfold f_X10_doIt
  rw [E_now tb hy.1 h6 ha hw, Option.bind_some, hd, Option.bind_some]
  exact if_pos rfl
theorem E_doIt_yes (hy : HY D mn bs st kd lk ri) (tb : TB D.1 am all num) (h6 : D.1 ≤ 6) {a b x k : Nat} {t3 : Int32} {wh un tr tr1 : Nat → Int32} (ha : a < NN D.1) (hb : b < NN D.1) (hx : x < D.1) (hk : k ≤ 8) (hw : ∀ p, p < D.1 → wh p = nI (dg D.1 a p)) (hd : f_X10_doesSuit (nI a) (nI x) t3 mn bs st kd lk ri all num tr = some (bI true, tr1)) (hbh : ∀ tr0, ∃ tr', f_X10_behind (nI a) (nI x) t3 mn all num tr0 = some (nI b, tr')) : ∃ wh' un' tr', f_X10_doIt (nI x) t3 (nI k) mn bs st kd lk ri wh un all num tr = some (nI (dg D.1 b x), nI (k8 k + 1), wh', un', tr') ∧ (∀ q, q < D.1 → wh' q = nI (dg D.1 b q)) ∧ (∀ q, D.1 ≤ q → wh' q = wh q) ∧ (∀ j, j < k8 k → un' j = un (shf k j)) ∧ un' (k8 k) = nI a := by
  obtain ⟨wh', g1, g2, g3⟩ := E_go tb hy.1 h6 hb wh
  obtain ⟨tr', hbt⟩ := hbh tr1
  have fin : ∀ (m : Nat) (un0 : Nat → Int32), m ≤ 8 → f_X10_doIt_b69 mn bs st kd lk ri all num (nI x) t3 (nI a) (nI m) wh un0 tr1 = some (nI (dg D.1 b x), nI (m + 1), wh', upd un0 m (nI a), tr') := by
    intro m un0 hm
    unfold f_X10_doIt_b69
    rw [bdn _ (by omega) (by omega), hbt, Option.bind_some]
    show Option.bind (f_X10_go (nI b) mn wh all) _ = _
    rw [g1, Option.bind_some, bdn _ (by omega) (by omega), nI_cl (by omega), nI_cl (by omega), g2 x hx, show nI m + (1 : Int32) = nI (m + 1) from nI_1 m]
  unfold f_X10_doIt
  rw [E_now tb hy.1 h6 ha hw, Option.bind_some, hd, Option.bind_some]
  show ∃ wh' un' tr', (if bI true = 0 then _ else _) = _ ∧ _
  rw [if_neg (by decide)]
  by_cases h : k = 8
  · subst h
    rw [if_pos (show nI 8 = (8 : Int32) from rfl)]
    have h0 := NF_big
    refine E_shift (fun o => ∃ wh' un' tr', o = some (nI (dg D.1 b x), nI (k8 8 + 1), wh', un', tr') ∧ (∀ q, q < D.1 → wh' q = nI (dg D.1 b q)) ∧ (∀ q, D.1 ≤ q → wh' q = wh q) ∧ (∀ j, j < k8 8 → un' j = un (shf 8 j)) ∧ un' (k8 8) = nI a) 7 1 NF un (by omega) (by omega) (by omega) (fun un0 hun => ?_)
    refine ⟨wh', upd un0 7 (nI a), tr', ?_, g2, g3, fun j hj => ?_, ?_⟩
    · rw [show nI 8 - (1 : Int32) = nI 7 from nI_s1 (p := 8) (by omega), fin 7 un0 (by omega)]; rfl
    · have hj' : j < 7 := hj
      rw [pk_un (by omega), hun j hj', if_neg (by omega)]
      rfl
    · show upd un0 7 (nI a) 7 = nI a
      exact pk_us
  · have e1 : k8 k = k := by unfold k8; rw [if_neg h]
    rw [if_neg (show ¬ nI k = (8 : Int32) from fun q => h ((nI_eq (b := 8) (by omega) (by omega)).mp q))]
    refine ⟨wh', upd un k (nI a), tr', ?_, g2, g3, fun j hj => ?_, ?_⟩
    · rw [fin k un hk, e1]
    · rw [e1] at hj
      rw [pk_un (by omega)]; unfold shf; rw [if_neg h]
    · rw [e1, pk_us]
end DI
