/-! the longest way, in the reference -/
/-- how many -/
def cn (P : Nat → Bool) : Nat → Nat
  | 0 => 0
  | n + 1 => cn P n + (if P n then 1 else 0)
theorem cn_le (P : Nat → Bool) : ∀ n, cn P n ≤ n
  | 0 => Nat.le_refl _
  | n + 1 => by
    have := cn_le P n
    rw [cn]; split <;> omega
theorem cn_cong {P Q : Nat → Bool} : ∀ {n : Nat}, (∀ i, i < n → P i = Q i) → cn P n = cn Q n
  | 0, _ => rfl
  | n + 1, h => by rw [cn, cn, cn_cong (fun i hi => h i (by omega)), h n (by omega)]
theorem cn_up {P Q : Nat → Bool} {e : Nat} (h0 : P e = false) (h1 : Q e = true) : ∀ {n : Nat}, e < n → (∀ i, i < n → i ≠ e → Q i = P i) → cn Q n = cn P n + 1
  | 0, he, _ => absurd he (by omega)
  | n + 1, he, h => by
    rw [cn, cn]
    by_cases c : e = n
    · subst c
      rw [h0, h1, cn_cong (fun i hi => h i (by omega) (by omega)), if_pos rfl, if_neg (by decide)]
    · rw [cn_up h0 h1 (show e < n by omega) (fun i hi => h i (by omega)), h n (by omega) (fun q => c q.symm)]
      omega
theorem cn_zero {P : Nat → Bool} : ∀ {n : Nat}, cn P n = 0 → ∀ i, i < n → P i = false
  | 0, _, i, hi => absurd hi (by omega)
  | n + 1, h, i, hi => by
    rw [cn] at h
    by_cases c : i = n
    · subst c
      cases q : P i with
      | false => rfl
      | true => rw [q, if_pos rfl] at h; omega
    · exact cn_zero (n := n) (by omega) i (by omega)
theorem cn_zero' {P : Nat → Bool} : ∀ {n : Nat}, (∀ i, i < n → P i = false) → cn P n = 0
  | 0, _ => rfl
  | n + 1, h => by rw [cn, h n (by omega), cn_zero' (fun i hi => h i (by omega))]; rfl
theorem upd_id (f : Nat → Int32) (k : Nat) : upd f k (f k) = f := by
  funext j
  by_cases h : j = k
  · rw [h, pk_us]
  · rw [pk_un h]
/-- m is the length of the longest way from b -/
def LG (K : Nat) (S : Nat → Nat → Bool) (T : Nat → Nat → Nat) (b m : Nat) : Prop := (∃ c, Wy K S T b m c) ∧ ∀ m' c, Wy K S T b m' c → m' ≤ m
theorem lg_uniq {K : Nat} {S : Nat → Nat → Bool} {T : Nat → Nat → Nat} {b m m' : Nat} (h : LG K S T b m) (h' : LG K S T b m') : m = m' := by
  obtain ⟨⟨c, hc⟩, h1⟩ := h
  obtain ⟨⟨c', hc'⟩, h1'⟩ := h'
  have := h1 _ _ hc'
  have := h1' _ _ hc
  omega
theorem lg_step {K : Nat} {S : Nat → Nat → Bool} {T : Nat → Nat → Nat} {b M : Nat} (h1 : ∀ y, y < K → S b y = true → ∃ m, LG K S T (T b y) m ∧ m + 1 ≤ M) (h2 : M = 0 ∨ ∃ y, y < K ∧ S b y = true ∧ 0 < M ∧ LG K S T (T b y) (M - 1)) : LG K S T b M := by
  constructor
  · rcases h2 with rfl | ⟨y, y1, y2, y3, ⟨c, hc⟩, _⟩
    · exact ⟨b, rfl⟩
    · have := wy_first y1 y2 _ _ hc
      rw [show M - 1 + 1 = M by omega] at this
      exact ⟨c, this⟩
  · intro m' c hw
    cases m' with
    | zero => omega
    | succ m' =>
      obtain ⟨x, x1, x2, x3⟩ := wy_split m' c hw
      obtain ⟨m, hm, hM⟩ := h1 x x1 x2
      have := hm.2 _ _ x3
      omega
theorem lg_all {N K : Nat} {S : Nat → Nat → Bool} {T : Nat → Nat → Nat} (hT : ∀ a, a < N → ∀ x, x < K → T a x < N) : ∀ (m b : Nat), b < N → LG K S T b m → ∀ i, i ≤ m → ∃ c, c < N ∧ LG K S T c i := by
  intro m
  induction m with
  | zero =>
    intro b hb h i hi
    obtain rfl : i = 0 := by omega
    exact ⟨b, hb, h⟩
  | succ m ih =>
    intro b hb h i hi
    by_cases c : i = m + 1
    · subst c; exact ⟨b, hb, h⟩
    · obtain ⟨⟨c', hc⟩, hb'⟩ := h
      obtain ⟨x, x1, x2, x3⟩ := wy_split m c' hc
      refine ih (T b x) (hT b hb x x1) ⟨⟨c', x3⟩, fun m' c'' hw => ?_⟩ i (by omega)
      have := hb' _ _ (wy_first x1 x2 _ _ hw)
      omega
theorem lg_lt {N K : Nat} {S : Nat → Nat → Bool} {T : Nat → Nat → Nat} (hT : ∀ a, a < N → ∀ x, x < K → T a x < N) {m b : Nat} (hb : b < N) (h : LG K S T b m) : m < N := by
  have h1 : ∀ i : Nat, ∃ c : Nat, i ≤ m → (c < N ∧ LG K S T c i) := by
    intro i
    by_cases c : i ≤ m
    · obtain ⟨c', h'⟩ := lg_all hT m b hb h i c
      exact ⟨c', fun _ => h'⟩
    · exact ⟨0, fun h => absurd h c⟩
  obtain ⟨q, hq⟩ := Classical.axiomOfChoice h1
  have := pig N (m + 1) q (fun i hi => (hq i (by omega)).1) (fun i j hij hj e => by
    have a1 := (hq i (by omega)).2
    have a2 := (hq j (by omega)).2
    rw [e] at a1
    have := lg_uniq a1 a2
    omega)
  omega
/-- in a pass -/
def RP (N K : Nat) (S : Nat → Nat → Bool) (T : Nat → Nat → Nat) (rc : Nat → Int32) (c k : Nat) (mo : Int32) (lo : Nat → Int32) : Prop :=
  (∀ b, b < N → (∃ m, LG K S T b m ∧ lo b = nI m) ∨ lo b = -4) ∧ c ≤ cn (fun b => decide (0 ≤ lo b)) N ∧ ((mo = 0 ∧ ∀ b, b < k → b < N → 0 ≤ rc b → lo b = -4 → ∃ x, x < K ∧ S b x = true ∧ lo (T b x) = -4) ∨ (mo = 1 ∧ c + 1 ≤ cn (fun b => decide (0 ≤ lo b)) N))
/-- at a number -/
def RM (K : Nat) (S : Nat → Nat → Bool) (T : Nat → Nat → Nat) (lo : Nat → Int32) (k x : Nat) (x3 : Int32) : Prop :=
  (x3 = -4 ∧ ∃ y, y < x ∧ S k y = true ∧ lo (T k y) = -4) ∨ ∃ M, M ≤ 720 ∧ x3 = nI M ∧ (∀ y, y < x → S k y = true → ∃ m, LG K S T (T k y) m ∧ m + 1 ≤ M) ∧ (M = 0 ∨ ∃ y, y < x ∧ S k y = true ∧ 0 < M ∧ LG K S T (T k y) (M - 1))
section LO
variable {aM : Int32} {mn bs st kd lk ri wh all num we : Nat → Int32} {N K : Nat} {S : Nat → Nat → Bool} {T : Nat → Nat → Nat}
theorem E_lo77 (hN : N ≤ 720) (hK : K ≤ 6) (hT : ∀ a, a < N → ∀ x, x < K → T a x < N) (hc : f_X10_changeMany mn ri = some (nI K)) (hw : ∀ a, a < N → ∀ x, x < K → we (6 * a + x) = if S a x then nI (T a x) else -4) {tr rc : Nat → Int32} {c k : Nat} (hk : k < N) (K38 : Int32 → (Nat → Int32) → (Nat → Int32) → (Nat → Int32) → (Nat → Int32) → Option (Int32 × (Nat → Int32) × (Nat → Int32) × (Nat → Int32) × (Nat → Int32))) (K46 : Int32 → Int32 → (Nat → Int32) → (Nat → Int32) → (Nat → Int32) → (Nat → Int32) → Option (Int32 × (Nat → Int32) × (Nat → Int32) × (Nat → Int32) × (Nat → Int32))) {mo : Int32} {lo : Nat → Int32} (hP : RP N K S T rc c k mo lo) (hlk : lo k = -4) : ∀ (j x f : Nat) (x3 : Int32), x + j = K → j < f → RM K S T lo k x x3 → ∃ mo' lo', f_X10_longest_l77 aM mn bs st kd lk ri wh all num K38 K46 f mo (nI k) x3 (nI x) tr we lo rc = K46 mo' (nI (k + 1)) tr we lo' rc ∧ RP N K S T rc c (k + 1) mo' lo' := by
  intro j
  induction j with
  | zero =>
    intro x f x3 hx hf hM
    obtain ⟨f, rfl⟩ : ∃ q, f = q + 1 := ⟨f - 1, by omega⟩
    obtain rfl : x = K := by omega
    obtain ⟨p1, p2, p3⟩ := hP
    rw [f_X10_longest_l77.eq_2, hc, Option.bind_some, if_pos (nI_le (Nat.le_refl _) (by omega)), bdn _ (show k < 720 by omega) (by omega), nI_cl (by omega)]
    unfold f_X10_longest_b172 f_X10_longest_b177 f_X10_longest_b178
    rw [show nI k + (1 : Int32) = nI (k + 1) from nI_1 k]
    rcases hM with ⟨rfl, y, y1, y2, y3⟩ | ⟨M, hM, rfl, m1, m2⟩
    · rw [show upd lo k (-4) = lo from by rw [← hlk]; exact upd_id lo k]
      rcases p3 with ⟨rfl, p3⟩ | ⟨rfl, p3⟩
      · rw [if_pos rfl, if_pos (by decide)]
        refine ⟨0, lo, rfl, p1, p2, Or.inl ⟨rfl, fun b hb hbN hr hl => ?_⟩⟩
        by_cases q : b = k
        · subst q; exact ⟨y, y1, y2, y3⟩
        · exact p3 b (by omega) hbN hr hl
      · rw [if_neg (by decide)]
        exact ⟨1, lo, rfl, p1, p2, Or.inr ⟨rfl, p3⟩⟩
    · have hcn : cn (fun b => decide (0 ≤ upd lo k (nI M) b)) N = cn (fun b => decide (0 ≤ lo b)) N + 1 := by
        refine cn_up (e := k) (decide_eq_false (by rw [hlk]; decide)) (decide_eq_true (by rw [pk_us]; exact nI_ge0 (by omega))) hk (fun i hi hik => ?_)
        show decide (0 ≤ upd lo k (nI M) i) = _
        rw [pk_un hik]
      refine ⟨1, upd lo k (nI M), ?_, fun b hb => ?_, by omega, Or.inr ⟨rfl, by omega⟩⟩
      · rcases p3 with ⟨rfl, p3⟩ | ⟨rfl, p3⟩
        · rw [if_pos rfl, if_neg (nI_lt0 (by omega))]
        · rw [if_neg (by decide)]
      · by_cases q : b = k
        · subst q
          exact Or.inl ⟨M, lg_step m1 m2, pk_us⟩
        · rw [pk_un q]; exact p1 b hb
  | succ j ih =>
    intro x f x3 hx hf hM
    obtain ⟨f, rfl⟩ : ∃ q, f = q + 1 := ⟨f - 1, by omega⟩
    have hxK : x < K := by omega
    rw [f_X10_longest_l77.eq_2, hc, Option.bind_some, if_neg (nI_ge (by omega) (by omega)), show (6 : Int32) * nI k + nI x = nI (6 * k + x) from nI_ma 6 k x, bdn _ (show 6 * k + x < 4320 by omega) (by omega), nI_cl (by omega), hw k hk x hxK]
    unfold f_X10_longest_b150 f_X10_longest_b151
    rw [show nI x + (1 : Int32) = nI (x + 1) from nI_1 x]
    have hx1 : ∀ y, y < x + 1 → y < x ∨ y = x := fun y hy => by omega
    cases hs : S k x with
    | false =>
      rw [show (if false = true then nI (T k x) else (-4 : Int32)) = -4 from rfl, if_pos (show (-4 : Int32) < 0 by decide)]
      refine ih (x + 1) f x3 (by omega) (by omega) ?_
      rcases hM with ⟨h1, y, y1, y2, y3⟩ | ⟨M, hM, h1, m1, m2⟩
      · exact Or.inl ⟨h1, y, by omega, y2, y3⟩
      · refine Or.inr ⟨M, hM, h1, fun y hy hsy => ?_, ?_⟩
        · rcases hx1 y hy with q | rfl
          · exact m1 y q hsy
          · rw [hs] at hsy; exact absurd hsy (by decide)
        · rcases m2 with m2 | ⟨y, y1, y2⟩
          · exact Or.inl m2
          · exact Or.inr ⟨y, by omega, y2⟩
    | true =>
      have ht := hT k hk x hxK
      rw [show (if true = true then nI (T k x) else (-4 : Int32)) = nI (T k x) from rfl, if_neg (nI_lt0 (by omega))]
      rcases hM with ⟨rfl, y, y1, y2, y3⟩ | ⟨M, hM, rfl, m1, m2⟩
      · rw [if_pos (show (-4 : Int32) < 0 by decide)]
        exact ih (x + 1) f (-4) (by omega) (by omega) (Or.inl ⟨rfl, y, by omega, y2, y3⟩)
      · rw [if_neg (nI_lt0 (by omega)), bdn _ (show T k x < 720 by omega) (by omega), nI_cl (by omega)]
        rcases hP.1 (T k x) ht with ⟨m, hm, e⟩ | e
        · have hmN := lg_lt hT ht hm
          rw [e, if_pos (nI_ge0 (by omega)), bdn _ (show T k x < 720 by omega) (by omega), show nI m + (1 : Int32) = nI (m + 1) from nI_1 m]
          by_cases hmM : m + 1 ≤ M
          · rw [if_pos (nI_le hmM (by omega))]
            refine ih (x + 1) f (nI M) (by omega) (by omega) (Or.inr ⟨M, hM, rfl, fun y hy hsy => ?_, ?_⟩)
            · rcases hx1 y hy with q | rfl
              · exact m1 y q hsy
              · exact ⟨m, hm, hmM⟩
            · rcases m2 with m2 | ⟨y, y1, y2⟩
              · exact Or.inl m2
              · exact Or.inr ⟨y, by omega, y2⟩
          · rw [if_neg (nI_ge (by omega) (by omega)), bdn _ (show T k x < 720 by omega) (by omega)]
            refine ih (x + 1) f (nI (m + 1)) (by omega) (by omega) (Or.inr ⟨m + 1, by omega, rfl, fun y hy hsy => ?_, Or.inr ⟨x, by omega, hs, by omega, hm⟩⟩)
            rcases hx1 y hy with q | rfl
            · obtain ⟨m', a1, a2⟩ := m1 y q hsy
              exact ⟨m', a1, by omega⟩
            · exact ⟨m, hm, Nat.le_refl _⟩
        · rw [e, if_neg (by decide)]
          exact ih (x + 1) f (-4) (by omega) (by omega) (Or.inl ⟨rfl, x, by omega, hs, e⟩)
theorem E_lo46 (hN : N ≤ 720) (hK : K ≤ 6) (hT : ∀ a, a < N → ∀ x, x < K → T a x < N) (hc : f_X10_changeMany mn ri = some (nI K)) (hw : ∀ a, a < N → ∀ x, x < K → we (6 * a + x) = if S a x then nI (T a x) else -4) {tr rc : Nat → Int32} {c : Nat} (K38 : Int32 → (Nat → Int32) → (Nat → Int32) → (Nat → Int32) → (Nat → Int32) → Option (Int32 × (Nat → Int32) × (Nat → Int32) × (Nat → Int32) × (Nat → Int32))) : ∀ (j k f : Nat) (mo : Int32) (lo : Nat → Int32), k + j = N → j < f → RP N K S T rc c k mo lo → ∃ mo' lo', f_X10_longest_l46 (nI N) mn bs st kd lk ri wh all num K38 f mo (nI k) tr we lo rc = K38 mo' tr we lo' rc ∧ RP N K S T rc c N mo' lo' := by
  have h0 := NF_big
  intro j
  induction j with
  | zero =>
    intro k f mo lo hk hf hP
    obtain ⟨f, rfl⟩ : ∃ q, f = q + 1 := ⟨f - 1, by omega⟩
    obtain rfl : k = N := by omega
    refine ⟨mo, lo, ?_, hP⟩
    rw [f_X10_longest_l46.eq_2, if_pos (nI_le (Nat.le_refl _) (by omega))]
  | succ j ih =>
    intro k f mo lo hk hf hP
    obtain ⟨f, rfl⟩ : ∃ q, f = q + 1 := ⟨f - 1, by omega⟩
    have hkN : k < N := by omega
    rw [f_X10_longest_l46.eq_2, if_neg (nI_ge hkN (by omega)), bdn _ (show k < 720 by omega) (by omega), nI_cl (by omega)]
    have hskip : (0 ≤ lo k ∨ rc k < 0) → ∃ mo' lo', f_X10_longest_b178 (nI N) mn bs st kd lk ri wh all num K38 (f_X10_longest_l46 (nI N) mn bs st kd lk ri wh all num K38 f) mo (nI k) tr we lo rc = K38 mo' tr we lo' rc ∧ RP N K S T rc c N mo' lo' := by
      intro hs
      unfold f_X10_longest_b178
      rw [show nI k + (1 : Int32) = nI (k + 1) from nI_1 k]
      refine ih (k + 1) f mo lo (by omega) (by omega) ⟨hP.1, hP.2.1, ?_⟩
      rcases hP.2.2 with ⟨p1, p2⟩ | p
      · refine Or.inl ⟨p1, fun b hb hbN hr hl => ?_⟩
        by_cases q : b = k
        · subst q
          rcases hs with hs | hs
          · rw [hl] at hs; exact absurd hs (by decide)
          · exact absurd hr (Int32.not_le.mpr hs)
        · exact p2 b (by omega) hbN hr hl
      · exact Or.inr p
    by_cases h1 : 0 ≤ lo k
    · rw [if_pos h1]
      exact hskip (Or.inl h1)
    · rw [if_neg h1, bdn _ (show k < 720 by omega) (by omega)]
      by_cases h2 : rc k < 0
      · rw [if_pos h2]
        exact hskip (Or.inr h2)
      · rw [if_neg h2]
        have hlk : lo k = -4 := by
          rcases hP.1 k hkN with ⟨m, hm, e⟩ | e
          · have := lg_lt hT hkN hm
            exact absurd (e ▸ nI_ge0 (by omega)) h1
          · exact e
        obtain ⟨mo1, lo1, e1, hP1⟩ := E_lo77 (aM := nI N) (bs := bs) (st := st) (kd := kd) (lk := lk) (wh := wh) (all := all) (num := num) (tr := tr) hN hK hT hc hw hkN K38 (f_X10_longest_l46 (nI N) mn bs st kd lk ri wh all num K38 f) hP hlk K 0 NF 0 (by omega) (by omega) (Or.inr ⟨0, by omega, rfl, fun y hy => absurd hy (by omega), Or.inl rfl⟩)
        obtain ⟨mo2, lo2, e2, hP2⟩ := ih (k + 1) f mo1 lo1 (by omega) (by omega) hP1
        exact ⟨mo2, lo2, e1.trans e2, hP2⟩
theorem E_lo38 (hN : N ≤ 720) (hK : K ≤ 6) (hT : ∀ a, a < N → ∀ x, x < K → T a x < N) (hc : f_X10_changeMany mn ri = some (nI K)) (hw : ∀ a, a < N → ∀ x, x < K → we (6 * a + x) = if S a x then nI (T a x) else -4) {tr rc : Nat → Int32} {a : Nat} (ha : a < N) (hnow : f_X10_now mn wh num = some (nI a)) (hF : RF N K S T a rc) : ∀ (f c : Nat) (lo : Nat → Int32), N + 2 ≤ c + f → (∀ b, b < N → (∃ m, LG K S T b m ∧ lo b = nI m) ∨ lo b = -4) → c ≤ cn (fun b => decide (0 ≤ lo b)) N → ∃ r lo', f_X10_longest_l38 (nI N) mn bs st kd lk ri wh all num f 1 tr we lo rc = some (r, tr, we, lo', rc) ∧ ((∃ m, LG K S T a m ∧ r = nI m) ∨ (r = -4 ∧ ∀ m, ∃ c, Wy K S T a m c)) := by
  have h0 := NF_big
  intro f
  induction f with
  | zero =>
    intro c lo hf hl hcn
    have := cn_le (fun b => decide (0 ≤ lo b)) N
    omega
  | succ f ih =>
    intro c lo hf hl hcn
    have hle := cn_le (fun b => decide (0 ≤ lo b)) N
    obtain ⟨mo1, lo1, e1, p1, p2, p3⟩ := E_lo46 (bs := bs) (st := st) (kd := kd) (lk := lk) (wh := wh) (all := all) (num := num) (tr := tr) (rc := rc) (c := c) hN hK hT hc hw (f_X10_longest_l38 (nI N) mn bs st kd lk ri wh all num f) N 0 NF 0 lo (by omega) (by omega) ⟨hl, hcn, Or.inl ⟨rfl, fun b hb => absurd hb (by omega)⟩⟩
    rw [f_X10_longest_l38.eq_2, if_neg (by decide)]
    rcases p3 with ⟨rfl, p3⟩ | ⟨rfl, p3⟩
    · obtain ⟨f, rfl⟩ : ∃ q, f = q + 1 := ⟨f - 1, by omega⟩
      refine ⟨lo1 a, lo1, e1.trans ?_, ?_⟩
      · rw [f_X10_longest_l38.eq_2, if_pos rfl, hnow, Option.bind_some, bdn _ (show a < 720 by omega) (by omega), nI_cl (by omega)]
      · rcases p1 a ha with h | h
        · exact Or.inl h
        · refine Or.inr ⟨h, ?_⟩
          have hall : ∀ (m b : Nat), (∃ l, Wy K S T a l b) → lo1 b = -4 → ∃ c, Wy K S T b m c := by
            intro m
            induction m with
            | zero => intro b _ _; exact ⟨b, rfl⟩
            | succ m ihm =>
              intro b ⟨l, hl⟩ hb4
              have hbN := wy_lt hT ha l b hl
              have hrb : 0 ≤ rc b := by
                rcases hF b hbN with ⟨m', m1, m2, m3⟩ | ⟨h1, _⟩
                · rw [m3]; exact nI_ge0 (by omega)
                · exact absurd hl (h1 l)
              obtain ⟨x, x1, x2, x3⟩ := p3 b hbN hbN hrb hb4
              obtain ⟨c', hc'⟩ := ihm (T b x) ⟨l + 1, b, hl, x, x1, x2, rfl⟩ x3
              exact ⟨c', wy_first x1 x2 _ _ hc'⟩
          exact fun m => hall m a ⟨0, rfl⟩ h
    · obtain ⟨r, lo2, e2, h2⟩ := ih (c + 1) lo1 (by omega) p1 p3
      exact ⟨r, lo2, e1.trans e2, h2⟩
theorem E_lo14 (hN : N ≤ 720) (hK : K ≤ 6) (hT : ∀ a, a < N → ∀ x, x < K → T a x < N) (hc : f_X10_changeMany mn ri = some (nI K)) (hw : ∀ a, a < N → ∀ x, x < K → we (6 * a + x) = if S a x then nI (T a x) else -4) {tr rc : Nat → Int32} {a : Nat} (ha : a < N) (hnow : f_X10_now mn wh num = some (nI a)) (hF : RF N K S T a rc) : ∀ (j k f : Nat) (lo : Nat → Int32), k + j = N → j < f → (∀ b, b < k → lo b = -4) → ∃ r lo', f_X10_longest_l14 (nI N) mn bs st kd lk ri wh all num f (nI k) tr we lo rc = some (r, tr, we, lo', rc) ∧ ((∃ m, LG K S T a m ∧ r = nI m) ∨ (r = -4 ∧ ∀ m, ∃ c, Wy K S T a m c)) := by
  have h0 := NF_big
  intro j
  induction j with
  | zero =>
    intro k f lo hk hf h4
    obtain ⟨f, rfl⟩ : ∃ q, f = q + 1 := ⟨f - 1, by omega⟩
    rw [f_X10_longest_l14.eq_2, if_pos (nI_le (by omega) (by omega))]
    exact E_lo38 hN hK hT hc hw ha hnow hF NF 0 lo (by omega) (fun b hb => Or.inr (h4 b (by omega))) (by omega)
  | succ j ih =>
    intro k f lo hk hf h4
    obtain ⟨f, rfl⟩ : ∃ q, f = q + 1 := ⟨f - 1, by omega⟩
    rw [f_X10_longest_l14.eq_2, if_neg (nI_ge (by omega) (by omega)), bdn _ (show k < 720 by omega) (by omega), nI_cl (by omega), show nI k + (1 : Int32) = nI (k + 1) from nI_1 k]
    refine ih (k + 1) f _ (by omega) (by omega) (fun b hb => ?_)
    by_cases c : b = k
    · subst c; exact pk_us
    · rw [pk_un c]; exact h4 b (by omega)
end LO
