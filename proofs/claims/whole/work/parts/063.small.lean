def f_X7_append_l19 : Nat → Int64 → Int32 → Int32 → (Nat → Int32) → Option (Int32 × Int32 × (Nat → Int32))
  | 0, _, _, _, _ => none
  | n + 1, x2, x4, o_length, o_bytes => if x4 < 0 then some ((1 : Int32), o_length, o_bytes) else bd o_length 300 ((f_X7_append_l19 n) x2 (x4 + (-1 : Int32)) (o_length + (1 : Int32)) (upd o_bytes o_length.toNatClampNeg (((x2 >>> (((8 : Int32) * x4).toInt64 &&& 63)).toInt32) &&& (255 : Int32))))
def f_X7_append (x1 : Int32) (x2 : Int64) (o_length : Int32) (o_bytes : Nat → Int32) : Option (Int32 × Int32 × (Nat → Int32)) := if (o_length + x1) ≤ (300 : Int32) then f_X7_append_l19 NF x2 (x1 - (1 : Int32)) o_length o_bytes else some ((0 : Int32), o_length, o_bytes)
abbrev rm_X7_append : Room := { frames := 0, cells := 0, slots := 0, locals := 0 }
theorem kd_X7_append : yX7_append.cls ≠ "java/lang/invoke/MethodHandle" ∧ yX7_append.cls ≠ "java/lang/invoke/VarHandle" ∧ (parseMethodDescriptor yX7_append.desc).map (fun d => d.parameters.length) = some 2 := by decide +kernel
set_option maxHeartbeats 4000000 in
set_option maxRecDepth 100000 in
theorem c_X7_append (l : Launch) (dC : Nat → ClassId) (dI : Nat → Nat → Nat) (cI cJ cZ : ClassId) (a_o a_o_bytes a_o_numbers : Nat) (sz : Nat) (o_length : Int32) (o_bytes : Nat → Int32) (x1 : Int32) (x2 : Int64) (res : Int32 × Int32 × (Nat → Int32)) (hf : f_X7_append x1 x2 o_length o_bytes = some res) : kMi Unit l yX7_append cX7_append 5 (some .boolean) rm_X7_append [.ref a_o, .int x1, .long x2] (dC, dI) (kT cI cJ cZ) sz [(a_o, .inr (6, [.ref a_o_bytes, .int o_length, .ref a_o_numbers])), (a_o_bytes, .inl (cI, 300, .inl o_bytes))] res.1 (fun _ => [(a_o, .inr (6, [.ref a_o_bytes, .int res.2.1, .ref a_o_numbers])), (a_o_bytes, .inl (cI, 300, .inl res.2.2))]) := by
  refine Met.ofW (cc := cX7_append) (maxL := 5) (ret := (some .boolean)) (by decide) rfl ?_
  intro p e s m args below meth c s₁ B hml hv
  obtain ⟨rfl, hsz, hP, hK, hD0⟩ := hv
  have hx := B.exec
  have hb := B.bytes
  have hr := B.returns
  have ht : ∀ w ∈ lw_g, w.before ([.ref a_o, .int x1, .long x2] : List Value).toArray s = true := fun w h => atoms_spec (ws := kws yX7_append cX7_append 5 (some .boolean)) B.pre w (List.mem_cons_of_mem _ h)
  have hown : s.vm.findClass RX7 = some m.cls := findClass_of_methodNamed B.named
  have hlocks := B.notSynchronized
  subst hsz
  have hD := hD0.self (sz := s.heap.size)
  generalize hAe : va_A [(a_o, .inr (6, [.ref a_o_bytes, .int o_length, .ref a_o_numbers])), (a_o_bytes, .inl (cI, 300, .inl o_bytes))] s.heap.size = A at hD ⊢
  have hA : ∀ q : Nat, s.heap.size ≤ q → A q := fun q h => by rw [← hAe]; exact Or.inr h
  have hS : va_S A s.heap s.heap [] := va_S.rf
  have hret : ∀ (H : Heap) (locs : List Loc) (ls : Array Slot) (pc : Nat) (v : Int32) (o0 : Int32) (o1 : Nat → Int32), some (v, o0, o1) = some res → (v = 0 ∨ v = 1) → decode cX7_append pc = .ok (.ireturn, 1) → va_P (dC, dI) vwCl [(a_o, .inr (6, [.ref a_o_bytes, .int o0, .ref a_o_numbers])), (a_o_bytes, .inl (cI, 300, .inl o1))] H → va_D A [(a_o, .inr (6, [.ref a_o_bytes, .int o0, .ref a_o_numbers])), (a_o_bytes, .inl (cI, 300, .inl o1))] → va_S A s.heap H locs → W p l e (headSpec (kws yX7_append cX7_append 5 (some .boolean)) rm_X7_append).room s m ([.ref a_o, .int x1, .long x2] : List Value).toArray below meth c H locs 0 0 (MQ below (kQi Unit (dC, dI) A res.1 (fun _ => [(a_o, .inr (6, [.ref a_o_bytes, .int res.2.1, .ref a_o_numbers])), (a_o_bytes, .inl (cI, 300, .inl res.2.2))])) ([.ref a_o, .int x1, .long x2] : List Value).toArray s 0 0 A) (F0 m pc ls [.int v]) := by
    intro H locs ls pc v o0 o1 he hz hd hP hD hS
    obtain rfl := Option.some.inj he
    exact krz hx hb hr hlocks () hz hP hD hS hd
  have hl := lv_entry ([.ref a_o, .int x1, .long x2]) (n := 5) (Nat.le_of_ble_eq_true rfl)
  rw [lg_entry_eq]
  generalize (lg_sl ([.ref a_o, .int x1, .long x2]) ++ List.replicate (5 - (lg_sl ([.ref a_o, .int x1, .long x2])).length) Slot.unset).toArray = ls at hl ⊢
  have hl : lv_has ls 5 [(0, .ref a_o), (1, .int x1), (2, .long x2)] := hl
  generalize (MQ below _ ([.ref a_o, .int x1, .long x2] : List Value).toArray s 0 0 A) = Q at hret ⊢
  generalize ([.ref a_o, .int x1, .long x2] : List Value).toArray = args at ht hret ⊢
  have hP : va_P (dC, dI) vwCl [(a_o, .inr (6, [.ref a_o_bytes, .int o_length, .ref a_o_numbers])), (a_o_bytes, .inl (cI, 300, .inl o_bytes))] s.heap := hP
  unfold f_X7_append at hf
  have L19 : ∀ (n : Nat) (x2 : Int64) (x4 : Int32) (o_length : Int32) (o_bytes : Nat → Int32) (H : Heap) (locs : List Loc) (ls : Array Slot), f_X7_append_l19 n x2 x4 o_length o_bytes = some res → va_P (dC, dI) vwCl [(a_o, .inr (6, [.ref a_o_bytes, .int o_length, .ref a_o_numbers])), (a_o_bytes, .inl (cI, 300, .inl o_bytes))] H → va_D A [(a_o, .inr (6, [.ref a_o_bytes, .int o_length, .ref a_o_numbers])), (a_o_bytes, .inl (cI, 300, .inl o_bytes))] → va_S A s.heap H locs → lv_has ls 5 [(0, .ref a_o), (2, .long x2), (4, .int x4)] → W p l e (headSpec (kws yX7_append cX7_append 5 (some .boolean)) rm_X7_append).room s m args below meth c H locs 0 0 Q (F0 m 19 ls []) := by
    intro n
    induction n with
    | zero =>
      intro x2 x4 o_length o_bytes H locs ls hf hP hD hS hl
      rw [f_X7_append_l19.eq_1] at hf
      cases hf
    | succ n19 ih19 =>
      intro x2 x4 o_length o_bytes H locs ls hf hP hD hS hl
      rw [f_X7_append_l19.eq_2] at hf
      refine lv_iload hx hb dX7_append_19 (lv_at hl 2 rfl) ?_
      refine lv_if_lt (tgt := 61) hx hb dX7_append_21 (by decide) (fun c_1 => ?_) (fun c_1 => ?_)
      · have hf := ifp c_1 hf
        refine lv_iconst (v := (1 : Int32)) hx hb dX7_append_61 (by decide) ?_
        exact hret H locs ls 62 (1 : Int32) o_length o_bytes hf (Or.inr rfl) dX7_append_62 hP hD hS
      · have hf := ifn c_1 hf
        refine lv_aload_n hx hb dX7_append_24 rfl (lv_at hl 0 rfl) ?_
        refine va_get (ci := 6) (v := .ref a_o_bytes) (C := RX7) (T := TX7) (N := 3) hx hb ht inX7 hown hK hP 0 rfl rfl 0 (by decide) (ht _ wd_1_29) (fun _ h9 => h9) rfl dX7_append_25 ?_
        refine lv_aload_n hx hb dX7_append_28 rfl (lv_at hl 0 rfl) ?_
        refine va_get (ci := 6) (v := .int o_length) (C := RX7) (T := TX7) (N := 3) hx hb ht inX7 hown hK hP 0 rfl rfl 1 (by decide) (ht _ wd_1_30) (fun _ h9 => h9) rfl dX7_append_29 ?_
        refine lv_lload_n hx hb dX7_append_32 rfl (lv_at hl 1 rfl) ?_
        refine lv_bipush (v := (8 : Int32)) hx hb dX7_append_33 (by decide) ?_
        refine lv_iload hx hb dX7_append_35 (lv_at hl 2 rfl) ?_
        refine lv_imul hx hb dX7_append_37 ?_
        refine lv_lshr (v := (x2 >>> (((8 : Int32) * x4).toInt64 &&& 63))) hx hb dX7_append_38 rfl ?_
        refine lv_l2i hx hb dX7_append_39 rfl ?_
        refine lv_sipush (v := (255 : Int32)) hx hb dX7_append_40 (by decide) ?_
        refine lv_iand hx hb dX7_append_43 ?_
        obtain ⟨b_2, hf⟩ := bd_some hf
        refine va_iast hx hb hK hP hD hS 1 0 rfl rfl b_2 dX7_append_44 (fun H locs hP hD hS => ?_)
        have hP : va_P (dC, dI) vwCl [(a_o, .inr (6, [.ref a_o_bytes, .int o_length, .ref a_o_numbers])), (a_o_bytes, .inl (cI, 300, .inl (upd o_bytes o_length.toNatClampNeg (((x2 >>> (((8 : Int32) * x4).toInt64 &&& 63)).toInt32) &&& (255 : Int32)))))] H := hP
        have hD : va_D A [(a_o, .inr (6, [.ref a_o_bytes, .int o_length, .ref a_o_numbers])), (a_o_bytes, .inl (cI, 300, .inl (upd o_bytes o_length.toNatClampNeg (((x2 >>> (((8 : Int32) * x4).toInt64 &&& 63)).toInt32) &&& (255 : Int32)))))] := hD
        refine lv_aload_n hx hb dX7_append_45 rfl (lv_at hl 0 rfl) ?_
        refine lv_dup hx hb dX7_append_46 rfl ?_
        refine va_get (ci := 6) (v := .int o_length) (C := RX7) (T := TX7) (N := 3) hx hb ht inX7 hown hK hP 0 rfl rfl 1 (by decide) (ht _ wd_1_30) (fun _ h9 => h9) rfl dX7_append_47 ?_
        refine lv_iconst (v := (1 : Int32)) hx hb dX7_append_50 (by decide) ?_
        refine lv_iadd hx hb dX7_append_51 ?_
        refine va_put (ci := 6) (v := .int (o_length + (1 : Int32))) (ty := .int) (C := RX7) (T := TX7) (N := 3) hx hb ht inX7 tyX7 tyX7_ok nmX7 hown hK hP hD hS 0 rfl rfl 1 (by decide) (ht _ wd_1_30) (fun _ h9 => h9) rfl (tyX7_ok 1 (by decide)) rfl rfl (Nat.le_of_ble_eq_true rfl) dX7_append_52 (fun H locs hP hD hS => ?_)
        have hP : va_P (dC, dI) vwCl [(a_o, .inr (6, [.ref a_o_bytes, .int (o_length + (1 : Int32)), .ref a_o_numbers])), (a_o_bytes, .inl (cI, 300, .inl (upd o_bytes o_length.toNatClampNeg (((x2 >>> (((8 : Int32) * x4).toInt64 &&& 63)).toInt32) &&& (255 : Int32)))))] H := hP
        have hD : va_D A [(a_o, .inr (6, [.ref a_o_bytes, .int (o_length + (1 : Int32)), .ref a_o_numbers])), (a_o_bytes, .inl (cI, 300, .inl (upd o_bytes o_length.toNatClampNeg (((x2 >>> (((8 : Int32) * x4).toInt64 &&& 63)).toInt32) &&& (255 : Int32)))))] := hD
        refine lv_iinc (v := (x4 + (-1 : Int32))) (lv' := [(4, .int (x4 + (-1 : Int32))), (0, .ref a_o), (2, .long x2)]) hx hb dX7_append_55 hl (k := 2) rfl rfl (by decide) rfl (fun ls hl => ?_)
        refine lv_goto (tgt := 19) hx hb dX7_append_58 (by decide) ?_
        exact ih19 x2 (x4 + (-1 : Int32)) (o_length + (1 : Int32)) (upd o_bytes o_length.toNatClampNeg (((x2 >>> (((8 : Int32) * x4).toInt64 &&& 63)).toInt32) &&& (255 : Int32))) H locs ls hf hP hD hS (lv_sub hl [1, 2, 0] rfl)
  obtain ⟨H, hH⟩ : ∃ H, H = s.heap := ⟨_, rfl⟩
  obtain ⟨locs, hlo⟩ : ∃ L : List Loc, L = [] := ⟨_, rfl⟩
  rw [← hH] at hP
  have hS : va_S A s.heap H locs := by rw [hH, hlo]; exact hS
  rw [show W p l e (headSpec (kws yX7_append cX7_append 5 (some .boolean)) rm_X7_append).room s m args below meth c s.heap [] 0 0 Q (F0 m 0 ls []) = W p l e (headSpec (kws yX7_append cX7_append 5 (some .boolean)) rm_X7_append).room s m args below meth c H locs 0 0 Q (F0 m 0 ls []) from by rw [hH, hlo]]
  refine lv_aload_n hx hb dX7_append_0 rfl (lv_at hl 0 rfl) ?_
  refine va_get (ci := 6) (v := .int o_length) (C := RX7) (T := TX7) (N := 3) hx hb ht inX7 hown hK hP 0 rfl rfl 1 (by decide) (ht _ wd_1_30) (fun _ h9 => h9) rfl dX7_append_1 ?_
  refine lv_iload_n hx hb dX7_append_4 rfl (lv_at hl 1 rfl) ?_
  refine lv_iadd hx hb dX7_append_5 ?_
  refine lv_sipush (v := (300 : Int32)) hx hb dX7_append_6 (by decide) ?_
  refine lv_icmp_le (tgt := 14) hx hb dX7_append_9 (by decide) (fun c_3 => ?_) (fun c_3 => ?_)
  · have hf := ifp c_3 hf
    refine lv_iload_n hx hb dX7_append_14 rfl (lv_at hl 1 rfl) ?_
    refine lv_iconst (v := (1 : Int32)) hx hb dX7_append_15 (by decide) ?_
    refine lv_isub hx hb dX7_append_16 ?_
    refine lv_istore (lv' := [(4, .int (x1 - (1 : Int32))), (0, .ref a_o), (1, .int x1), (2, .long x2)]) hx hb dX7_append_17 hl (by decide) rfl (fun ls hl => ?_)
    exact L19 NF x2 (x1 - (1 : Int32)) o_length o_bytes H locs ls hf hP hD hS (lv_sub hl [1, 3, 0] rfl)
  · have hf := ifn c_3 hf
    refine lv_iconst (v := (0 : Int32)) hx hb dX7_append_12 (by decide) ?_
    exact hret H locs ls 13 (0 : Int32) o_length o_bytes hf (Or.inl rfl) dX7_append_13 hP hD hS
def f_X7_numbersOf (x0 : Int32) : Option (Int32) := if x0 = (112 : Int32) then some (3 : Int32) else if x0 = (108 : Int32) then some (3 : Int32) else if x0 = (114 : Int32) then some (1 : Int32) else some (0 : Int32)
abbrev rm_X7_numbersOf : Room := { frames := 0, cells := 0, slots := 0, locals := 0 }
theorem kd_X7_numbersOf : yX7_numbersOf.cls ≠ "java/lang/invoke/MethodHandle" ∧ yX7_numbersOf.cls ≠ "java/lang/invoke/VarHandle" ∧ (parseMethodDescriptor yX7_numbersOf.desc).map (fun d => d.parameters.length) = some 1 := by decide +kernel
set_option maxHeartbeats 4000000 in
set_option maxRecDepth 100000 in
theorem c_X7_numbersOf (l : Launch) (dC : Nat → ClassId) (dI : Nat → Nat → Nat) (cI cJ cZ : ClassId) (sz : Nat) (x0 : Int32) (res : Int32) (hf : f_X7_numbersOf x0 = some res) : kMi Unit l yX7_numbersOf cX7_numbersOf 1 (some .int) rm_X7_numbersOf [.int x0] (dC, dI) (kT cI cJ cZ) sz [] res (fun _ => []) := by
  refine Met.ofW (cc := cX7_numbersOf) (maxL := 1) (ret := (some .int)) (by decide) rfl ?_
  intro p e s m args below meth c s₁ B hml hv
  obtain ⟨rfl, hsz, hP, hK, hD0⟩ := hv
  have hx := B.exec
  have hb := B.bytes
  have hr := B.returns
  have ht : ∀ w ∈ lw_g, w.before ([.int x0] : List Value).toArray s = true := fun w h => atoms_spec (ws := kws yX7_numbersOf cX7_numbersOf 1 (some .int)) B.pre w (List.mem_cons_of_mem _ h)
  have hown : s.vm.findClass RX7 = some m.cls := findClass_of_methodNamed B.named
  have hlocks := B.notSynchronized
  subst hsz
  have hD := hD0.self (sz := s.heap.size)
  generalize hAe : va_A [] s.heap.size = A at hD ⊢
  have hA : ∀ q : Nat, s.heap.size ≤ q → A q := fun q h => by rw [← hAe]; exact Or.inr h
  have hS : va_S A s.heap s.heap [] := va_S.rf
  have hret : ∀ (H : Heap) (locs : List Loc) (ls : Array Slot) (pc : Nat) (v : Int32), some v = some res → decode cX7_numbersOf pc = .ok (.ireturn, 1) → va_P (dC, dI) vwCl [] H → va_D A [] → va_S A s.heap H locs → W p l e (headSpec (kws yX7_numbersOf cX7_numbersOf 1 (some .int)) rm_X7_numbersOf).room s m ([.int x0] : List Value).toArray below meth c H locs 0 0 (MQ below (kQi Unit (dC, dI) A res (fun _ => [])) ([.int x0] : List Value).toArray s 0 0 A) (F0 m pc ls [.int v]) := by
    intro H locs ls pc v he hd hP hD hS
    obtain rfl := Option.some.inj he
    exact kri hx hb hr hlocks () hP hD hS hd
  have hl := lv_entry ([.int x0]) (n := 1) (Nat.le_of_ble_eq_true rfl)
  rw [lg_entry_eq]
  generalize (lg_sl ([.int x0]) ++ List.replicate (1 - (lg_sl ([.int x0])).length) Slot.unset).toArray = ls at hl ⊢
  have hl : lv_has ls 1 [(0, .int x0)] := hl
  generalize (MQ below _ ([.int x0] : List Value).toArray s 0 0 A) = Q at hret ⊢
  generalize ([.int x0] : List Value).toArray = args at ht hret ⊢
  have hP : va_P (dC, dI) vwCl [] s.heap := hP
  unfold f_X7_numbersOf at hf
  obtain ⟨H, hH⟩ : ∃ H, H = s.heap := ⟨_, rfl⟩
  obtain ⟨locs, hlo⟩ : ∃ L : List Loc, L = [] := ⟨_, rfl⟩
  rw [← hH] at hP
  have hS : va_S A s.heap H locs := by rw [hH, hlo]; exact hS
  rw [show W p l e (headSpec (kws yX7_numbersOf cX7_numbersOf 1 (some .int)) rm_X7_numbersOf).room s m args below meth c s.heap [] 0 0 Q (F0 m 0 ls []) = W p l e (headSpec (kws yX7_numbersOf cX7_numbersOf 1 (some .int)) rm_X7_numbersOf).room s m args below meth c H locs 0 0 Q (F0 m 0 ls []) from by rw [hH, hlo]]
  refine lv_iload_n hx hb dX7_numbersOf_0 rfl (lv_at hl 0 rfl) ?_
  refine lv_bipush (v := (112 : Int32)) hx hb dX7_numbersOf_1 (by decide) ?_
  refine lv_icmp_eq (tgt := 12) hx hb dX7_numbersOf_3 (by decide) (fun c_1 => ?_) (fun c_1 => ?_)
  · have hf := ifp c_1 hf
    refine lv_iconst (v := (3 : Int32)) hx hb dX7_numbersOf_12 (by decide) ?_
    exact hret H locs ls 13 (3 : Int32) hf dX7_numbersOf_13 hP hD hS
  · have hf := ifn c_1 hf
    refine lv_iload_n hx hb dX7_numbersOf_6 rfl (lv_at hl 0 rfl) ?_
    refine lv_bipush (v := (108 : Int32)) hx hb dX7_numbersOf_7 (by decide) ?_
    refine lv_icmp_ne (tgt := 14) hx hb dX7_numbersOf_9 (by decide) (fun c_2 => ?_) (fun c_2 => ?_)
    · have hf := ifn c_2 hf
      refine lv_iload_n hx hb dX7_numbersOf_14 rfl (lv_at hl 0 rfl) ?_
      refine lv_bipush (v := (114 : Int32)) hx hb dX7_numbersOf_15 (by decide) ?_
      refine lv_icmp_ne (tgt := 24) hx hb dX7_numbersOf_17 (by decide) (fun c_3 => ?_) (fun c_3 => ?_)
      · have hf := ifn c_3 hf
        refine lv_iconst (v := (0 : Int32)) hx hb dX7_numbersOf_24 (by decide) ?_
        exact hret H locs ls 25 (0 : Int32) hf dX7_numbersOf_25 hP hD hS
      · have hf := ifp c_3 hf
        refine lv_iconst (v := (1 : Int32)) hx hb dX7_numbersOf_20 (by decide) ?_
        refine lv_goto (tgt := 25) hx hb dX7_numbersOf_21 (by decide) ?_
        exact hret H locs ls 25 (1 : Int32) hf dX7_numbersOf_25 hP hD hS
    · have hf := ifp c_2 hf
      refine lv_iconst (v := (3 : Int32)) hx hb dX7_numbersOf_12 (by decide) ?_
      exact hret H locs ls 13 (3 : Int32) hf dX7_numbersOf_13 hP hD hS
def f_X7_isFigure (x1 : Int32) (o_length : Int32) (o_bytes : Nat → Int32) : Option (Int32) := if o_length ≤ x1 then some (0 : Int32) else bd x1 300 (if (o_bytes x1.toNatClampNeg) < (48 : Int32) then some (0 : Int32) else bd x1 300 (if (57 : Int32) < (o_bytes x1.toNatClampNeg) then some (0 : Int32) else some (1 : Int32)))
abbrev rm_X7_isFigure : Room := { frames := 0, cells := 0, slots := 0, locals := 0 }
theorem kd_X7_isFigure : yX7_isFigure.cls ≠ "java/lang/invoke/MethodHandle" ∧ yX7_isFigure.cls ≠ "java/lang/invoke/VarHandle" ∧ (parseMethodDescriptor yX7_isFigure.desc).map (fun d => d.parameters.length) = some 1 := by decide +kernel
set_option maxHeartbeats 4000000 in
set_option maxRecDepth 100000 in
theorem c_X7_isFigure (l : Launch) (dC : Nat → ClassId) (dI : Nat → Nat → Nat) (cI cJ cZ : ClassId) (a_o a_o_bytes a_o_numbers : Nat) (sz : Nat) (o_length : Int32) (o_bytes : Nat → Int32) (x1 : Int32) (res : Int32) (hf : f_X7_isFigure x1 o_length o_bytes = some res) : kMi Unit l yX7_isFigure cX7_isFigure 2 (some .boolean) rm_X7_isFigure [.ref a_o, .int x1] (dC, dI) (kT cI cJ cZ) sz [(a_o, .inr (6, [.ref a_o_bytes, .int o_length, .ref a_o_numbers])), (a_o_bytes, .inl (cI, 300, .inl o_bytes))] res (fun _ => [(a_o, .inr (6, [.ref a_o_bytes, .int o_length, .ref a_o_numbers])), (a_o_bytes, .inl (cI, 300, .inl o_bytes))]) := by
  refine Met.ofW (cc := cX7_isFigure) (maxL := 2) (ret := (some .boolean)) (by decide) rfl ?_
  intro p e s m args below meth c s₁ B hml hv
  obtain ⟨rfl, hsz, hP, hK, hD0⟩ := hv
  have hx := B.exec
  have hb := B.bytes
  have hr := B.returns
  have ht : ∀ w ∈ lw_g, w.before ([.ref a_o, .int x1] : List Value).toArray s = true := fun w h => atoms_spec (ws := kws yX7_isFigure cX7_isFigure 2 (some .boolean)) B.pre w (List.mem_cons_of_mem _ h)
  have hown : s.vm.findClass RX7 = some m.cls := findClass_of_methodNamed B.named
  have hlocks := B.notSynchronized
  subst hsz
  have hD := hD0.self (sz := s.heap.size)
  generalize hAe : va_A [(a_o, .inr (6, [.ref a_o_bytes, .int o_length, .ref a_o_numbers])), (a_o_bytes, .inl (cI, 300, .inl o_bytes))] s.heap.size = A at hD ⊢
  have hA : ∀ q : Nat, s.heap.size ≤ q → A q := fun q h => by rw [← hAe]; exact Or.inr h
  have hS : va_S A s.heap s.heap [] := va_S.rf
  have hret : ∀ (H : Heap) (locs : List Loc) (ls : Array Slot) (pc : Nat) (v : Int32), some v = some res → (v = 0 ∨ v = 1) → decode cX7_isFigure pc = .ok (.ireturn, 1) → va_P (dC, dI) vwCl [(a_o, .inr (6, [.ref a_o_bytes, .int o_length, .ref a_o_numbers])), (a_o_bytes, .inl (cI, 300, .inl o_bytes))] H → va_D A [(a_o, .inr (6, [.ref a_o_bytes, .int o_length, .ref a_o_numbers])), (a_o_bytes, .inl (cI, 300, .inl o_bytes))] → va_S A s.heap H locs → W p l e (headSpec (kws yX7_isFigure cX7_isFigure 2 (some .boolean)) rm_X7_isFigure).room s m ([.ref a_o, .int x1] : List Value).toArray below meth c H locs 0 0 (MQ below (kQi Unit (dC, dI) A res (fun _ => [(a_o, .inr (6, [.ref a_o_bytes, .int o_length, .ref a_o_numbers])), (a_o_bytes, .inl (cI, 300, .inl o_bytes))])) ([.ref a_o, .int x1] : List Value).toArray s 0 0 A) (F0 m pc ls [.int v]) := by
    intro H locs ls pc v he hz hd hP hD hS
    obtain rfl := Option.some.inj he
    exact krz hx hb hr hlocks () hz hP hD hS hd
  have hl := lv_entry ([.ref a_o, .int x1]) (n := 2) (Nat.le_of_ble_eq_true rfl)
  rw [lg_entry_eq]
  generalize (lg_sl ([.ref a_o, .int x1]) ++ List.replicate (2 - (lg_sl ([.ref a_o, .int x1])).length) Slot.unset).toArray = ls at hl ⊢
  have hl : lv_has ls 2 [(0, .ref a_o), (1, .int x1)] := hl
  generalize (MQ below _ ([.ref a_o, .int x1] : List Value).toArray s 0 0 A) = Q at hret ⊢
  generalize ([.ref a_o, .int x1] : List Value).toArray = args at ht hret ⊢
  have hP : va_P (dC, dI) vwCl [(a_o, .inr (6, [.ref a_o_bytes, .int o_length, .ref a_o_numbers])), (a_o_bytes, .inl (cI, 300, .inl o_bytes))] s.heap := hP
  unfold f_X7_isFigure at hf
  obtain ⟨H, hH⟩ : ∃ H, H = s.heap := ⟨_, rfl⟩
  obtain ⟨locs, hlo⟩ : ∃ L : List Loc, L = [] := ⟨_, rfl⟩
  rw [← hH] at hP
  have hS : va_S A s.heap H locs := by rw [hH, hlo]; exact hS
  rw [show W p l e (headSpec (kws yX7_isFigure cX7_isFigure 2 (some .boolean)) rm_X7_isFigure).room s m args below meth c s.heap [] 0 0 Q (F0 m 0 ls []) = W p l e (headSpec (kws yX7_isFigure cX7_isFigure 2 (some .boolean)) rm_X7_isFigure).room s m args below meth c H locs 0 0 Q (F0 m 0 ls []) from by rw [hH, hlo]]
  refine lv_iload_n hx hb dX7_isFigure_0 rfl (lv_at hl 1 rfl) ?_
  refine lv_aload_n hx hb dX7_isFigure_1 rfl (lv_at hl 0 rfl) ?_
  refine va_get (ci := 6) (v := .int o_length) (C := RX7) (T := TX7) (N := 3) hx hb ht inX7 hown hK hP 0 rfl rfl 1 (by decide) (ht _ wd_1_30) (fun _ h9 => h9) rfl dX7_isFigure_2 ?_
  refine lv_icmp_ge (tgt := 34) hx hb dX7_isFigure_5 (by decide) (fun c_1 => ?_) (fun c_1 => ?_)
  · have hf := ifp c_1 hf
    refine lv_iconst (v := (0 : Int32)) hx hb dX7_isFigure_34 (by decide) ?_
    exact hret H locs ls 35 (0 : Int32) hf (Or.inl rfl) dX7_isFigure_35 hP hD hS
  · have hf := ifn c_1 hf
    refine lv_aload_n hx hb dX7_isFigure_8 rfl (lv_at hl 0 rfl) ?_
    refine va_get (ci := 6) (v := .ref a_o_bytes) (C := RX7) (T := TX7) (N := 3) hx hb ht inX7 hown hK hP 0 rfl rfl 0 (by decide) (ht _ wd_1_29) (fun _ h9 => h9) rfl dX7_isFigure_9 ?_
    refine lv_iload_n hx hb dX7_isFigure_12 rfl (lv_at hl 1 rfl) ?_
    obtain ⟨b_2, hf⟩ := bd_some hf
    refine va_iald hx hb hK hP 1 0 rfl rfl b_2 dX7_isFigure_13 ?_
    refine lv_bipush (v := (48 : Int32)) hx hb dX7_isFigure_14 (by decide) ?_
    refine lv_icmp_lt (tgt := 34) hx hb dX7_isFigure_16 (by decide) (fun c_3 => ?_) (fun c_3 => ?_)
    · have hf := ifp c_3 hf
      refine lv_iconst (v := (0 : Int32)) hx hb dX7_isFigure_34 (by decide) ?_
      exact hret H locs ls 35 (0 : Int32) hf (Or.inl rfl) dX7_isFigure_35 hP hD hS
    · have hf := ifn c_3 hf
      refine lv_aload_n hx hb dX7_isFigure_19 rfl (lv_at hl 0 rfl) ?_
      refine va_get (ci := 6) (v := .ref a_o_bytes) (C := RX7) (T := TX7) (N := 3) hx hb ht inX7 hown hK hP 0 rfl rfl 0 (by decide) (ht _ wd_1_29) (fun _ h9 => h9) rfl dX7_isFigure_20 ?_
      refine lv_iload_n hx hb dX7_isFigure_23 rfl (lv_at hl 1 rfl) ?_
      obtain ⟨b_4, hf⟩ := bd_some hf
      refine va_iald hx hb hK hP 1 0 rfl rfl b_4 dX7_isFigure_24 ?_
      refine lv_bipush (v := (57 : Int32)) hx hb dX7_isFigure_25 (by decide) ?_
      refine lv_icmp_gt (tgt := 34) hx hb dX7_isFigure_27 (by decide) (fun c_5 => ?_) (fun c_5 => ?_)
      · have hf := ifp c_5 hf
        refine lv_iconst (v := (0 : Int32)) hx hb dX7_isFigure_34 (by decide) ?_
        exact hret H locs ls 35 (0 : Int32) hf (Or.inl rfl) dX7_isFigure_35 hP hD hS
      · have hf := ifn c_5 hf
        refine lv_iconst (v := (1 : Int32)) hx hb dX7_isFigure_30 (by decide) ?_
        refine lv_goto (tgt := 35) hx hb dX7_isFigure_31 (by decide) ?_
        exact hret H locs ls 35 (1 : Int32) hf (Or.inr rfl) dX7_isFigure_35 hP hD hS
def f_X7_readNumbers_b72 (o_length : Int32) (o_bytes : Nat → Int32) (K5 : Int32 → Int32 → Int32 → (Nat → Int32) → Option (Int32 × (Nat → Int32))) (x2 : Int32) (x3 : Int32) (x4 : Int32) (x5 : Int32) (x6 : Int32) (t0 : Int32) (o_numbers : Nat → Int32) : Option (Int32 × (Nat → Int32)) := if x6 = 0 then some ((-1 : Int32), o_numbers) else if o_length ≤ x3 then some ((-1 : Int32), o_numbers) else bd x3 300 (if (o_bytes x3.toNatClampNeg) = t0 then bd x4 3 (K5 x2 (x3 + (1 : Int32)) (x4 + (1 : Int32)) (upd o_numbers x4.toNatClampNeg x5)) else some ((-1 : Int32), o_numbers))
def f_X7_readNumbers_b57 (o_length : Int32) (o_bytes : Nat → Int32) (K5 : Int32 → Int32 → Int32 → (Nat → Int32) → Option (Int32 × (Nat → Int32))) (x2 : Int32) (x3 : Int32) (x4 : Int32) (x5 : Int32) (x6 : Int32) (o_numbers : Nat → Int32) : Option (Int32 × (Nat → Int32)) := if x4 = (x2 - (1 : Int32)) then f_X7_readNumbers_b72 o_length o_bytes K5 x2 x3 x4 x5 x6 (59 : Int32) o_numbers else f_X7_readNumbers_b72 o_length o_bytes K5 x2 x3 x4 x5 x6 (44 : Int32) o_numbers
def f_X7_readNumbers_l17 (o_length : Int32) (o_bytes : Nat → Int32) (K5 : Int32 → Int32 → Int32 → (Nat → Int32) → Option (Int32 × (Nat → Int32))) : Nat → Int32 → Int32 → Int32 → Int32 → Int32 → (Nat → Int32) → Option (Int32 × (Nat → Int32))
  | 0, _, _, _, _, _, _ => none
  | n + 1, x2, x3, x4, x5, x6, o_numbers => if (2 : Int32) ≤ x6 then f_X7_readNumbers_b57 o_length o_bytes K5 x2 x3 x4 x5 x6 o_numbers else Option.bind (f_X7_isFigure x3 o_length o_bytes) (fun u_8 => if u_8 = 0 then f_X7_readNumbers_b57 o_length o_bytes K5 x2 x3 x4 x5 x6 o_numbers else bd x3 300 ((f_X7_readNumbers_l17 o_length o_bytes K5 n) x2 (x3 + (1 : Int32)) x4 ((((10 : Int32) * x5) + (o_bytes x3.toNatClampNeg)) - (48 : Int32)) (x6 + (1 : Int32)) o_numbers))
def f_X7_readNumbers_l5 (o_length : Int32) (o_bytes : Nat → Int32) : Nat → Int32 → Int32 → Int32 → (Nat → Int32) → Option (Int32 × (Nat → Int32))
  | 0, _, _, _, _ => none
  | n + 1, x2, x3, x4, o_numbers => if x2 ≤ x4 then some (x3, o_numbers) else f_X7_readNumbers_l17 o_length o_bytes (f_X7_readNumbers_l5 o_length o_bytes n) NF x2 x3 x4 (0 : Int32) (0 : Int32) o_numbers
def f_X7_readNumbers (x1 : Int32) (x2 : Int32) (o_length : Int32) (o_bytes : Nat → Int32) (o_numbers : Nat → Int32) : Option (Int32 × (Nat → Int32)) := f_X7_readNumbers_l5 o_length o_bytes NF x2 x1 (0 : Int32) o_numbers
abbrev rm_X7_readNumbers : Room := { frames := 1, cells := 0, slots := 0, locals := 21 }
theorem kd_X7_readNumbers : yX7_readNumbers.cls ≠ "java/lang/invoke/MethodHandle" ∧ yX7_readNumbers.cls ≠ "java/lang/invoke/VarHandle" ∧ (parseMethodDescriptor yX7_readNumbers.desc).map (fun d => d.parameters.length) = some 2 := by decide +kernel
set_option maxHeartbeats 4000000 in
set_option maxRecDepth 100000 in
theorem c_X7_readNumbers (l : Launch) (dC : Nat → ClassId) (dI : Nat → Nat → Nat) (cI cJ cZ : ClassId) (a_o a_o_bytes a_o_numbers : Nat) (sz : Nat) (o_length : Int32) (o_bytes : Nat → Int32) (o_numbers : Nat → Int32) (x1 : Int32) (x2 : Int32) (res : Int32 × (Nat → Int32)) (hf : f_X7_readNumbers x1 x2 o_length o_bytes o_numbers = some res) : kMi Unit l yX7_readNumbers cX7_readNumbers 8 (some .int) rm_X7_readNumbers [.ref a_o, .int x1, .int x2] (dC, dI) (kT cI cJ cZ) sz [(a_o, .inr (6, [.ref a_o_bytes, .int o_length, .ref a_o_numbers])), (a_o_bytes, .inl (cI, 300, .inl o_bytes)), (a_o_numbers, .inl (cI, 3, .inl o_numbers))] res.1 (fun _ => [(a_o, .inr (6, [.ref a_o_bytes, .int o_length, .ref a_o_numbers])), (a_o_bytes, .inl (cI, 300, .inl o_bytes)), (a_o_numbers, .inl (cI, 3, .inl res.2))]) := by
  refine Met.ofW (cc := cX7_readNumbers) (maxL := 8) (ret := (some .int)) (by decide) rfl ?_
  intro p e s m args below meth c s₁ B hml hv
  obtain ⟨rfl, hsz, hP, hK, hD0⟩ := hv
  have hx := B.exec
  have hb := B.bytes
  have hr := B.returns
  have ht : ∀ w ∈ lw_g, w.before ([.ref a_o, .int x1, .int x2] : List Value).toArray s = true := fun w h => atoms_spec (ws := kws yX7_readNumbers cX7_readNumbers 8 (some .int)) B.pre w (List.mem_cons_of_mem _ h)
  have hown : s.vm.findClass RX7 = some m.cls := findClass_of_methodNamed B.named
  have hlocks := B.notSynchronized
  subst hsz
  have hD := hD0.self (sz := s.heap.size)
  generalize hAe : va_A [(a_o, .inr (6, [.ref a_o_bytes, .int o_length, .ref a_o_numbers])), (a_o_bytes, .inl (cI, 300, .inl o_bytes)), (a_o_numbers, .inl (cI, 3, .inl o_numbers))] s.heap.size = A at hD ⊢
  have hA : ∀ q : Nat, s.heap.size ≤ q → A q := fun q h => by rw [← hAe]; exact Or.inr h
  have hS : va_S A s.heap s.heap [] := va_S.rf
  have hret : ∀ (H : Heap) (locs : List Loc) (ls : Array Slot) (pc : Nat) (v : Int32) (o0 : Nat → Int32), some (v, o0) = some res → decode cX7_readNumbers pc = .ok (.ireturn, 1) → va_P (dC, dI) vwCl [(a_o, .inr (6, [.ref a_o_bytes, .int o_length, .ref a_o_numbers])), (a_o_bytes, .inl (cI, 300, .inl o_bytes)), (a_o_numbers, .inl (cI, 3, .inl o0))] H → va_D A [(a_o, .inr (6, [.ref a_o_bytes, .int o_length, .ref a_o_numbers])), (a_o_bytes, .inl (cI, 300, .inl o_bytes)), (a_o_numbers, .inl (cI, 3, .inl o0))] → va_S A s.heap H locs → W p l e (headSpec (kws yX7_readNumbers cX7_readNumbers 8 (some .int)) rm_X7_readNumbers).room s m ([.ref a_o, .int x1, .int x2] : List Value).toArray below meth c H locs 0 0 (MQ below (kQi Unit (dC, dI) A res.1 (fun _ => [(a_o, .inr (6, [.ref a_o_bytes, .int o_length, .ref a_o_numbers])), (a_o_bytes, .inl (cI, 300, .inl o_bytes)), (a_o_numbers, .inl (cI, 3, .inl res.2))])) ([.ref a_o, .int x1, .int x2] : List Value).toArray s 0 0 A) (F0 m pc ls [.int v]) := by
    intro H locs ls pc v o0 he hd hP hD hS
    obtain rfl := Option.some.inj he
    exact kri hx hb hr hlocks () hP hD hS hd
  have hl := lv_entry ([.ref a_o, .int x1, .int x2]) (n := 8) (Nat.le_of_ble_eq_true rfl)
  rw [lg_entry_eq]
  generalize (lg_sl ([.ref a_o, .int x1, .int x2]) ++ List.replicate (8 - (lg_sl ([.ref a_o, .int x1, .int x2])).length) Slot.unset).toArray = ls at hl ⊢
  have hl : lv_has ls 8 [(0, .ref a_o), (1, .int x1), (2, .int x2)] := hl
  generalize (MQ below _ ([.ref a_o, .int x1, .int x2] : List Value).toArray s 0 0 A) = Q at hret ⊢
  generalize ([.ref a_o, .int x1, .int x2] : List Value).toArray = args at ht hret ⊢
  have hP : va_P (dC, dI) vwCl [(a_o, .inr (6, [.ref a_o_bytes, .int o_length, .ref a_o_numbers])), (a_o_bytes, .inl (cI, 300, .inl o_bytes)), (a_o_numbers, .inl (cI, 3, .inl o_numbers))] s.heap := hP
  unfold f_X7_readNumbers at hf
  have L5 : ∀ (n : Nat) (x2 : Int32) (x3 : Int32) (x4 : Int32) (o_numbers : Nat → Int32) (H : Heap) (locs : List Loc) (ls : Array Slot), f_X7_readNumbers_l5 o_length o_bytes n x2 x3 x4 o_numbers = some res → va_P (dC, dI) vwCl [(a_o, .inr (6, [.ref a_o_bytes, .int o_length, .ref a_o_numbers])), (a_o_bytes, .inl (cI, 300, .inl o_bytes)), (a_o_numbers, .inl (cI, 3, .inl o_numbers))] H → va_D A [(a_o, .inr (6, [.ref a_o_bytes, .int o_length, .ref a_o_numbers])), (a_o_bytes, .inl (cI, 300, .inl o_bytes)), (a_o_numbers, .inl (cI, 3, .inl o_numbers))] → va_S A s.heap H locs → lv_has ls 8 [(0, .ref a_o), (2, .int x2), (3, .int x3), (4, .int x4)] → W p l e (headSpec (kws yX7_readNumbers cX7_readNumbers 8 (some .int)) rm_X7_readNumbers).room s m args below meth c H locs 0 0 Q (F0 m 5 ls []) := by
    intro n
    induction n with
    | zero =>
      intro x2 x3 x4 o_numbers H locs ls hf hP hD hS hl
      rw [f_X7_readNumbers_l5.eq_1] at hf
      cases hf
    | succ n5 ih5 =>
      have B72 : ∀ (x2 : Int32) (x3 : Int32) (x4 : Int32) (x5 : Int32) (x6 : Int32) (t0 : Int32) (o_numbers : Nat → Int32) (H : Heap) (locs : List Loc) (ls : Array Slot), f_X7_readNumbers_b72 o_length o_bytes (f_X7_readNumbers_l5 o_length o_bytes n5) x2 x3 x4 x5 x6 t0 o_numbers = some res → va_P (dC, dI) vwCl [(a_o, .inr (6, [.ref a_o_bytes, .int o_length, .ref a_o_numbers])), (a_o_bytes, .inl (cI, 300, .inl o_bytes)), (a_o_numbers, .inl (cI, 3, .inl o_numbers))] H → va_D A [(a_o, .inr (6, [.ref a_o_bytes, .int o_length, .ref a_o_numbers])), (a_o_bytes, .inl (cI, 300, .inl o_bytes)), (a_o_numbers, .inl (cI, 3, .inl o_numbers))] → va_S A s.heap H locs → lv_has ls 8 [(0, .ref a_o), (2, .int x2), (3, .int x3), (4, .int x4), (5, .int x5), (6, .int x6)] → W p l e (headSpec (kws yX7_readNumbers cX7_readNumbers 8 (some .int)) rm_X7_readNumbers).room s m args below meth c H locs 0 0 Q (F0 m 72 ls [.int t0]) := by
        intro x2 x3 x4 x5 x6 t0 o_numbers H locs ls hf hP hD hS hl
        unfold f_X7_readNumbers_b72 at hf
        refine lv_istore (lv' := [(7, .int t0), (0, .ref a_o), (2, .int x2), (3, .int x3), (4, .int x4), (5, .int x5), (6, .int x6)]) hx hb dX7_readNumbers_72 hl (by decide) rfl (fun ls hl => ?_)
        refine lv_iload hx hb dX7_readNumbers_74 (lv_at hl 6 rfl) ?_
        refine lv_if_eq (tgt := 98) hx hb dX7_readNumbers_76 (by decide) (fun c_1 => ?_) (fun c_1 => ?_)
        · have hf := ifp c_1 hf
          refine lv_iconst (v := (-1 : Int32)) hx hb dX7_readNumbers_98 (by decide) ?_
          exact hret H locs ls 99 (-1 : Int32) o_numbers hf dX7_readNumbers_99 hP hD hS
        · have hf := ifn c_1 hf
          refine lv_iload_n hx hb dX7_readNumbers_79 rfl (lv_at hl 3 rfl) ?_
          refine lv_aload_n hx hb dX7_readNumbers_80 rfl (lv_at hl 1 rfl) ?_
          refine va_get (ci := 6) (v := .int o_length) (C := RX7) (T := TX7) (N := 3) hx hb ht inX7 hown hK hP 0 rfl rfl 1 (by decide) (ht _ wd_1_30) (fun _ h9 => h9) rfl dX7_readNumbers_81 ?_
          refine lv_icmp_ge (tgt := 98) hx hb dX7_readNumbers_84 (by decide) (fun c_2 => ?_) (fun c_2 => ?_)
          · have hf := ifp c_2 hf
            refine lv_iconst (v := (-1 : Int32)) hx hb dX7_readNumbers_98 (by decide) ?_
            exact hret H locs ls 99 (-1 : Int32) o_numbers hf dX7_readNumbers_99 hP hD hS
          · have hf := ifn c_2 hf
            refine lv_aload_n hx hb dX7_readNumbers_87 rfl (lv_at hl 1 rfl) ?_
            refine va_get (ci := 6) (v := .ref a_o_bytes) (C := RX7) (T := TX7) (N := 3) hx hb ht inX7 hown hK hP 0 rfl rfl 0 (by decide) (ht _ wd_1_29) (fun _ h9 => h9) rfl dX7_readNumbers_88 ?_
            refine lv_iload_n hx hb dX7_readNumbers_91 rfl (lv_at hl 3 rfl) ?_
            obtain ⟨b_3, hf⟩ := bd_some hf
            refine va_iald hx hb hK hP 1 0 rfl rfl b_3 dX7_readNumbers_92 ?_
            refine lv_iload hx hb dX7_readNumbers_93 (lv_at hl 0 rfl) ?_
            refine lv_icmp_eq (tgt := 100) hx hb dX7_readNumbers_95 (by decide) (fun c_4 => ?_) (fun c_4 => ?_)
            · have hf := ifp c_4 hf
              refine lv_aload_n hx hb dX7_readNumbers_100 rfl (lv_at hl 1 rfl) ?_
              refine va_get (ci := 6) (v := .ref a_o_numbers) (C := RX7) (T := TX7) (N := 3) hx hb ht inX7 hown hK hP 0 rfl rfl 2 (by decide) (ht _ wd_1_32) (fun _ h9 => h9) rfl dX7_readNumbers_101 ?_
              refine lv_iload hx hb dX7_readNumbers_104 (lv_at hl 4 rfl) ?_
              refine lv_iload hx hb dX7_readNumbers_106 (lv_at hl 5 rfl) ?_
              obtain ⟨b_5, hf⟩ := bd_some hf
              refine va_iast hx hb hK hP hD hS 2 0 rfl rfl b_5 dX7_readNumbers_108 (fun H locs hP hD hS => ?_)
              have hP : va_P (dC, dI) vwCl [(a_o, .inr (6, [.ref a_o_bytes, .int o_length, .ref a_o_numbers])), (a_o_bytes, .inl (cI, 300, .inl o_bytes)), (a_o_numbers, .inl (cI, 3, .inl (upd o_numbers x4.toNatClampNeg x5)))] H := hP
              have hD : va_D A [(a_o, .inr (6, [.ref a_o_bytes, .int o_length, .ref a_o_numbers])), (a_o_bytes, .inl (cI, 300, .inl o_bytes)), (a_o_numbers, .inl (cI, 3, .inl (upd o_numbers x4.toNatClampNeg x5)))] := hD
              refine lv_iinc (v := (x3 + (1 : Int32))) (lv' := [(3, .int (x3 + (1 : Int32))), (7, .int t0), (0, .ref a_o), (2, .int x2), (4, .int x4), (5, .int x5), (6, .int x6)]) hx hb dX7_readNumbers_109 hl (k := 3) rfl rfl (by decide) rfl (fun ls hl => ?_)
              refine lv_iinc (v := (x4 + (1 : Int32))) (lv' := [(4, .int (x4 + (1 : Int32))), (3, .int (x3 + (1 : Int32))), (7, .int t0), (0, .ref a_o), (2, .int x2), (5, .int x5), (6, .int x6)]) hx hb dX7_readNumbers_112 hl (k := 4) rfl rfl (by decide) rfl (fun ls hl => ?_)
              refine lv_goto (tgt := 5) hx hb dX7_readNumbers_115 (by decide) ?_
              exact ih5 x2 (x3 + (1 : Int32)) (x4 + (1 : Int32)) (upd o_numbers x4.toNatClampNeg x5) H locs ls hf hP hD hS (lv_sub hl [3, 4, 1, 0] rfl)
            · have hf := ifn c_4 hf
              refine lv_iconst (v := (-1 : Int32)) hx hb dX7_readNumbers_98 (by decide) ?_
              exact hret H locs ls 99 (-1 : Int32) o_numbers hf dX7_readNumbers_99 hP hD hS
      have B57 : ∀ (x2 : Int32) (x3 : Int32) (x4 : Int32) (x5 : Int32) (x6 : Int32) (o_numbers : Nat → Int32) (H : Heap) (locs : List Loc) (ls : Array Slot), f_X7_readNumbers_b57 o_length o_bytes (f_X7_readNumbers_l5 o_length o_bytes n5) x2 x3 x4 x5 x6 o_numbers = some res → va_P (dC, dI) vwCl [(a_o, .inr (6, [.ref a_o_bytes, .int o_length, .ref a_o_numbers])), (a_o_bytes, .inl (cI, 300, .inl o_bytes)), (a_o_numbers, .inl (cI, 3, .inl o_numbers))] H → va_D A [(a_o, .inr (6, [.ref a_o_bytes, .int o_length, .ref a_o_numbers])), (a_o_bytes, .inl (cI, 300, .inl o_bytes)), (a_o_numbers, .inl (cI, 3, .inl o_numbers))] → va_S A s.heap H locs → lv_has ls 8 [(0, .ref a_o), (2, .int x2), (3, .int x3), (4, .int x4), (5, .int x5), (6, .int x6)] → W p l e (headSpec (kws yX7_readNumbers cX7_readNumbers 8 (some .int)) rm_X7_readNumbers).room s m args below meth c H locs 0 0 Q (F0 m 57 ls []) := by
        intro x2 x3 x4 x5 x6 o_numbers H locs ls hf hP hD hS hl
        unfold f_X7_readNumbers_b57 at hf
        refine lv_iload hx hb dX7_readNumbers_57 (lv_at hl 3 rfl) ?_
        refine lv_iload_n hx hb dX7_readNumbers_59 rfl (lv_at hl 1 rfl) ?_
        refine lv_iconst (v := (1 : Int32)) hx hb dX7_readNumbers_60 (by decide) ?_
        refine lv_isub hx hb dX7_readNumbers_61 ?_
        refine lv_icmp_ne (tgt := 70) hx hb dX7_readNumbers_62 (by decide) (fun c_6 => ?_) (fun c_6 => ?_)
        · have hf := ifn c_6 hf
          refine lv_bipush (v := (44 : Int32)) hx hb dX7_readNumbers_70 (by decide) ?_
          exact B72 x2 x3 x4 x5 x6 (44 : Int32) o_numbers H locs ls hf hP hD hS (lv_sub hl [0, 1, 2, 3, 4, 5] rfl)
        · have hf := ifp c_6 hf
          refine lv_bipush (v := (59 : Int32)) hx hb dX7_readNumbers_65 (by decide) ?_
          refine lv_goto (tgt := 72) hx hb dX7_readNumbers_67 (by decide) ?_
          exact B72 x2 x3 x4 x5 x6 (59 : Int32) o_numbers H locs ls hf hP hD hS (lv_sub hl [0, 1, 2, 3, 4, 5] rfl)
      have L17 : ∀ (n : Nat) (x2 : Int32) (x3 : Int32) (x4 : Int32) (x5 : Int32) (x6 : Int32) (o_numbers : Nat → Int32) (H : Heap) (locs : List Loc) (ls : Array Slot), f_X7_readNumbers_l17 o_length o_bytes (f_X7_readNumbers_l5 o_length o_bytes n5) n x2 x3 x4 x5 x6 o_numbers = some res → va_P (dC, dI) vwCl [(a_o, .inr (6, [.ref a_o_bytes, .int o_length, .ref a_o_numbers])), (a_o_bytes, .inl (cI, 300, .inl o_bytes)), (a_o_numbers, .inl (cI, 3, .inl o_numbers))] H → va_D A [(a_o, .inr (6, [.ref a_o_bytes, .int o_length, .ref a_o_numbers])), (a_o_bytes, .inl (cI, 300, .inl o_bytes)), (a_o_numbers, .inl (cI, 3, .inl o_numbers))] → va_S A s.heap H locs → lv_has ls 8 [(0, .ref a_o), (2, .int x2), (3, .int x3), (4, .int x4), (5, .int x5), (6, .int x6)] → W p l e (headSpec (kws yX7_readNumbers cX7_readNumbers 8 (some .int)) rm_X7_readNumbers).room s m args below meth c H locs 0 0 Q (F0 m 17 ls []) := by
        intro n
        induction n with
        | zero =>
          intro x2 x3 x4 x5 x6 o_numbers H locs ls hf hP hD hS hl
          rw [f_X7_readNumbers_l17.eq_1] at hf
          cases hf
        | succ n17 ih17 =>
          intro x2 x3 x4 x5 x6 o_numbers H locs ls hf hP hD hS hl
          rw [f_X7_readNumbers_l17.eq_2] at hf
          refine lv_iload hx hb dX7_readNumbers_17 (lv_at hl 5 rfl) ?_
          refine lv_iconst (v := (2 : Int32)) hx hb dX7_readNumbers_19 (by decide) ?_
          refine lv_icmp_ge (tgt := 57) hx hb dX7_readNumbers_20 (by decide) (fun c_7 => ?_) (fun c_7 => ?_)
          · have hf := ifp c_7 hf
            exact B57 x2 x3 x4 x5 x6 o_numbers H locs ls hf hP hD hS (lv_sub hl [0, 1, 2, 3, 4, 5] rfl)
          · have hf := ifn c_7 hf
            refine lv_aload_n hx hb dX7_readNumbers_23 rfl (lv_at hl 0 rfl) ?_
            refine lv_iload_n hx hb dX7_readNumbers_24 rfl (lv_at hl 2 rfl) ?_
            obtain ⟨u_8, h_9, hf⟩ := obs hf
            refine kcVi (rest := []) (wr := [(a_o_numbers, .inl (cI, 3, .inl o_numbers))]) (w2 := fun _ => [(a_o, .inr (6, [.ref a_o_bytes, .int o_length, .ref a_o_numbers])), (a_o_bytes, .inl (cI, 300, .inl o_bytes)), (a_o_numbers, .inl (cI, 3, .inl o_numbers))]) hx hb hml hown ht (c_X7_isFigure l dC dI cI cJ cZ a_o a_o_bytes a_o_numbers H.size o_length o_bytes x3 u_8 h_9) (kcw 1 ht wd_2_58 wd_1_2 wd_2_55 kd_X7_isFigure ⟨rfl, rfl⟩ ⟨Nat.le_of_ble_eq_true rfl, Nat.le_of_ble_eq_true rfl⟩) wd_2_57 wd_s_2 hK hP hD hS hA [0, 1] [2] [1, 2, 0] rfl rfl rfl rfl (by decide) rfl (fun _ => rfl) (ci := 6) rfl rfl rfl rfl hl.1 rfl (Nat.le_of_ble_eq_true rfl) dX7_readNumbers_25 ⟨Nat.zero_le _, Nat.zero_le _⟩ (fun _ H locs hP hD hS => ?_)
            have hP : va_P (dC, dI) vwCl [(a_o, .inr (6, [.ref a_o_bytes, .int o_length, .ref a_o_numbers])), (a_o_bytes, .inl (cI, 300, .inl o_bytes)), (a_o_numbers, .inl (cI, 3, .inl o_numbers))] H := hP
            have hD : va_D A [(a_o, .inr (6, [.ref a_o_bytes, .int o_length, .ref a_o_numbers])), (a_o_bytes, .inl (cI, 300, .inl o_bytes)), (a_o_numbers, .inl (cI, 3, .inl o_numbers))] := hD
            refine lv_if_eq (tgt := 57) hx hb dX7_readNumbers_28 (by decide) (fun c_10 => ?_) (fun c_10 => ?_)
            · have hf := ifp c_10 hf
              exact B57 x2 x3 x4 x5 x6 o_numbers H locs ls hf hP hD hS (lv_sub hl [0, 1, 2, 3, 4, 5] rfl)
            · have hf := ifn c_10 hf
              refine lv_bipush (v := (10 : Int32)) hx hb dX7_readNumbers_31 (by decide) ?_
              refine lv_iload hx hb dX7_readNumbers_33 (lv_at hl 4 rfl) ?_
              refine lv_imul hx hb dX7_readNumbers_35 ?_
              refine lv_aload_n hx hb dX7_readNumbers_36 rfl (lv_at hl 0 rfl) ?_
              refine va_get (ci := 6) (v := .ref a_o_bytes) (C := RX7) (T := TX7) (N := 3) hx hb ht inX7 hown hK hP 0 rfl rfl 0 (by decide) (ht _ wd_1_29) (fun _ h9 => h9) rfl dX7_readNumbers_37 ?_
              refine lv_iload_n hx hb dX7_readNumbers_40 rfl (lv_at hl 2 rfl) ?_
              obtain ⟨b_11, hf⟩ := bd_some hf
              refine va_iald hx hb hK hP 1 0 rfl rfl b_11 dX7_readNumbers_41 ?_
              refine lv_iadd hx hb dX7_readNumbers_42 ?_
              refine lv_bipush (v := (48 : Int32)) hx hb dX7_readNumbers_43 (by decide) ?_
              refine lv_isub hx hb dX7_readNumbers_45 ?_
              refine lv_istore (lv' := [(5, .int ((((10 : Int32) * x5) + (o_bytes x3.toNatClampNeg)) - (48 : Int32))), (0, .ref a_o), (2, .int x2), (3, .int x3), (4, .int x4), (6, .int x6)]) hx hb dX7_readNumbers_46 hl (by decide) rfl (fun ls hl => ?_)
              refine lv_iinc (v := (x6 + (1 : Int32))) (lv' := [(6, .int (x6 + (1 : Int32))), (5, .int ((((10 : Int32) * x5) + (o_bytes x3.toNatClampNeg)) - (48 : Int32))), (0, .ref a_o), (2, .int x2), (3, .int x3), (4, .int x4)]) hx hb dX7_readNumbers_48 hl (k := 5) rfl rfl (by decide) rfl (fun ls hl => ?_)
              refine lv_iinc (v := (x3 + (1 : Int32))) (lv' := [(3, .int (x3 + (1 : Int32))), (6, .int (x6 + (1 : Int32))), (5, .int ((((10 : Int32) * x5) + (o_bytes x3.toNatClampNeg)) - (48 : Int32))), (0, .ref a_o), (2, .int x2), (4, .int x4)]) hx hb dX7_readNumbers_51 hl (k := 4) rfl rfl (by decide) rfl (fun ls hl => ?_)
              refine lv_goto (tgt := 17) hx hb dX7_readNumbers_54 (by decide) ?_
              exact ih17 x2 (x3 + (1 : Int32)) x4 ((((10 : Int32) * x5) + (o_bytes x3.toNatClampNeg)) - (48 : Int32)) (x6 + (1 : Int32)) o_numbers H locs ls hf hP hD hS (lv_sub hl [3, 4, 0, 5, 2, 1] rfl)
      intro x2 x3 x4 o_numbers H locs ls hf hP hD hS hl
      rw [f_X7_readNumbers_l5.eq_2] at hf
      refine lv_iload hx hb dX7_readNumbers_5 (lv_at hl 3 rfl) ?_
      refine lv_iload_n hx hb dX7_readNumbers_7 rfl (lv_at hl 1 rfl) ?_
      refine lv_icmp_ge (tgt := 118) hx hb dX7_readNumbers_8 (by decide) (fun c_12 => ?_) (fun c_12 => ?_)
      · have hf := ifp c_12 hf
        refine lv_iload_n hx hb dX7_readNumbers_118 rfl (lv_at hl 2 rfl) ?_
        exact hret H locs ls 119 x3 o_numbers hf dX7_readNumbers_119 hP hD hS
      · have hf := ifn c_12 hf
        refine lv_iconst (v := (0 : Int32)) hx hb dX7_readNumbers_11 (by decide) ?_
        refine lv_istore (lv' := [(5, .int (0 : Int32)), (0, .ref a_o), (2, .int x2), (3, .int x3), (4, .int x4)]) hx hb dX7_readNumbers_12 hl (by decide) rfl (fun ls hl => ?_)
        refine lv_iconst (v := (0 : Int32)) hx hb dX7_readNumbers_14 (by decide) ?_
        refine lv_istore (lv' := [(6, .int (0 : Int32)), (5, .int (0 : Int32)), (0, .ref a_o), (2, .int x2), (3, .int x3), (4, .int x4)]) hx hb dX7_readNumbers_15 hl (by decide) rfl (fun ls hl => ?_)
        exact L17 NF x2 x3 x4 (0 : Int32) (0 : Int32) o_numbers H locs ls hf hP hD hS (lv_sub hl [2, 3, 4, 5, 1, 0] rfl)
  obtain ⟨H, hH⟩ : ∃ H, H = s.heap := ⟨_, rfl⟩
  obtain ⟨locs, hlo⟩ : ∃ L : List Loc, L = [] := ⟨_, rfl⟩
  rw [← hH] at hP
  have hS : va_S A s.heap H locs := by rw [hH, hlo]; exact hS
  rw [show W p l e (headSpec (kws yX7_readNumbers cX7_readNumbers 8 (some .int)) rm_X7_readNumbers).room s m args below meth c s.heap [] 0 0 Q (F0 m 0 ls []) = W p l e (headSpec (kws yX7_readNumbers cX7_readNumbers 8 (some .int)) rm_X7_readNumbers).room s m args below meth c H locs 0 0 Q (F0 m 0 ls []) from by rw [hH, hlo]]
  refine lv_iload_n hx hb dX7_readNumbers_0 rfl (lv_at hl 1 rfl) ?_
  refine lv_istore_n (lv' := [(3, .int x1), (0, .ref a_o), (1, .int x1), (2, .int x2)]) hx hb dX7_readNumbers_1 rfl hl (by decide) rfl (fun ls hl => ?_)
  refine lv_iconst (v := (0 : Int32)) hx hb dX7_readNumbers_2 (by decide) ?_
  refine lv_istore (lv' := [(4, .int (0 : Int32)), (3, .int x1), (0, .ref a_o), (1, .int x1), (2, .int x2)]) hx hb dX7_readNumbers_3 hl (by decide) rfl (fun ls hl => ?_)
  exact L5 NF x2 x1 (0 : Int32) o_numbers H locs ls hf hP hD hS (lv_sub hl [2, 4, 1, 0] rfl)
def f_X7_takeItem (x1 : Int32) (o_numbers : Nat → Int32) (q1_persons : Int32) (q1_ring : Int32) (q1_highestTold : Int32) (q1_bestPlace : Nat → Int32) (q1_stepCost : Nat → Int32) (q1_kind : Nat → Int32) (q1_likings : Nat → Int32) : Option (Int32 × Int32 × Int32 × Int32 × (Nat → Int32) × (Nat → Int32) × (Nat → Int32) × (Nat → Int32)) := if x1 = (112 : Int32) then bd (0 : Int32) 3 (bd (1 : Int32) 3 (bd (2 : Int32) 3 (Option.bind (f_X2_addPerson (o_numbers (0 : Int32).toNatClampNeg) (o_numbers (1 : Int32).toNatClampNeg) (o_numbers (2 : Int32).toNatClampNeg) q1_persons q1_highestTold q1_bestPlace q1_stepCost q1_kind) (fun u_16 => zb u_16.1 (some (u_16.1, u_16.2.1, q1_ring, u_16.2.2.1, u_16.2.2.2.1, u_16.2.2.2.2.1, u_16.2.2.2.2.2, q1_likings)))))) else if x1 = (108 : Int32) then bd (0 : Int32) 3 (bd (1 : Int32) 3 (bd (2 : Int32) 3 (Option.bind (f_X2_setLiking (o_numbers (0 : Int32).toNatClampNeg) (o_numbers (1 : Int32).toNatClampNeg) (o_numbers (2 : Int32).toNatClampNeg) q1_highestTold q1_likings) (fun u_10 => zb u_10.1 (some (u_10.1, q1_persons, q1_ring, u_10.2.1, q1_bestPlace, q1_stepCost, q1_kind, u_10.2.2)))))) else bd (0 : Int32) 3 (Option.bind (f_X2_setRing (o_numbers (0 : Int32).toNatClampNeg) q1_ring) (fun u_4 => zb u_4.1 (some (u_4.1, q1_persons, u_4.2, q1_highestTold, q1_bestPlace, q1_stepCost, q1_kind, q1_likings))))
abbrev rm_X7_takeItem : Room := { frames := 2, cells := 0, slots := 0, locals := 47 }
theorem kd_X7_takeItem : yX7_takeItem.cls ≠ "java/lang/invoke/MethodHandle" ∧ yX7_takeItem.cls ≠ "java/lang/invoke/VarHandle" ∧ (parseMethodDescriptor yX7_takeItem.desc).map (fun d => d.parameters.length) = some 2 := by decide +kernel
set_option maxHeartbeats 4000000 in
set_option maxRecDepth 100000 in
theorem c_X7_takeItem (l : Launch) (dC : Nat → ClassId) (dI : Nat → Nat → Nat) (cI cJ cZ : ClassId) (a_o a_o_bytes a_o_numbers a_q1 a_q1_bestPlace a_q1_stepCost a_q1_kind a_q1_likings : Nat) (sz : Nat) (o_length : Int32) (o_numbers : Nat → Int32) (q1_persons : Int32) (q1_ring : Int32) (q1_highestTold : Int32) (q1_bestPlace : Nat → Int32) (q1_stepCost : Nat → Int32) (q1_kind : Nat → Int32) (q1_likings : Nat → Int32) (x1 : Int32) (res : Int32 × Int32 × Int32 × Int32 × (Nat → Int32) × (Nat → Int32) × (Nat → Int32) × (Nat → Int32)) (hf : f_X7_takeItem x1 o_numbers q1_persons q1_ring q1_highestTold q1_bestPlace q1_stepCost q1_kind q1_likings = some res) : kMi Unit l yX7_takeItem cX7_takeItem 3 (some .boolean) rm_X7_takeItem [.ref a_o, .int x1, .ref a_q1] (dC, dI) (kT cI cJ cZ) sz [(a_o, .inr (6, [.ref a_o_bytes, .int o_length, .ref a_o_numbers])), (a_o_numbers, .inl (cI, 3, .inl o_numbers)), (a_q1, .inr (2, [.int q1_persons, .int q1_ring, .int q1_highestTold, .ref a_q1_bestPlace, .ref a_q1_stepCost, .ref a_q1_kind, .ref a_q1_likings])), (a_q1_bestPlace, .inl (cI, 8, .inl q1_bestPlace)), (a_q1_stepCost, .inl (cI, 8, .inl q1_stepCost)), (a_q1_kind, .inl (cI, 8, .inl q1_kind)), (a_q1_likings, .inl (cI, 64, .inl q1_likings))] res.1 (fun _ => [(a_o, .inr (6, [.ref a_o_bytes, .int o_length, .ref a_o_numbers])), (a_o_numbers, .inl (cI, 3, .inl o_numbers)), (a_q1, .inr (2, [.int res.2.1, .int res.2.2.1, .int res.2.2.2.1, .ref a_q1_bestPlace, .ref a_q1_stepCost, .ref a_q1_kind, .ref a_q1_likings])), (a_q1_bestPlace, .inl (cI, 8, .inl res.2.2.2.2.1)), (a_q1_stepCost, .inl (cI, 8, .inl res.2.2.2.2.2.1)), (a_q1_kind, .inl (cI, 8, .inl res.2.2.2.2.2.2.1)), (a_q1_likings, .inl (cI, 64, .inl res.2.2.2.2.2.2.2))]) := by
  refine Met.ofW (cc := cX7_takeItem) (maxL := 3) (ret := (some .boolean)) (by decide) rfl ?_
  intro p e s m args below meth c s₁ B hml hv
  obtain ⟨rfl, hsz, hP, hK, hD0⟩ := hv
  have hx := B.exec
  have hb := B.bytes
  have hr := B.returns
  have ht : ∀ w ∈ lw_g, w.before ([.ref a_o, .int x1, .ref a_q1] : List Value).toArray s = true := fun w h => atoms_spec (ws := kws yX7_takeItem cX7_takeItem 3 (some .boolean)) B.pre w (List.mem_cons_of_mem _ h)
  have hown : s.vm.findClass RX7 = some m.cls := findClass_of_methodNamed B.named
  have hlocks := B.notSynchronized
  subst hsz
  have hD := hD0.self (sz := s.heap.size)
  generalize hAe : va_A [(a_o, .inr (6, [.ref a_o_bytes, .int o_length, .ref a_o_numbers])), (a_o_numbers, .inl (cI, 3, .inl o_numbers)), (a_q1, .inr (2, [.int q1_persons, .int q1_ring, .int q1_highestTold, .ref a_q1_bestPlace, .ref a_q1_stepCost, .ref a_q1_kind, .ref a_q1_likings])), (a_q1_bestPlace, .inl (cI, 8, .inl q1_bestPlace)), (a_q1_stepCost, .inl (cI, 8, .inl q1_stepCost)), (a_q1_kind, .inl (cI, 8, .inl q1_kind)), (a_q1_likings, .inl (cI, 64, .inl q1_likings))] s.heap.size = A at hD ⊢
  have hA : ∀ q : Nat, s.heap.size ≤ q → A q := fun q h => by rw [← hAe]; exact Or.inr h
  have hS : va_S A s.heap s.heap [] := va_S.rf
  have hret : ∀ (H : Heap) (locs : List Loc) (ls : Array Slot) (pc : Nat) (v : Int32) (o0 : Int32) (o1 : Int32) (o2 : Int32) (o3 : Nat → Int32) (o4 : Nat → Int32) (o5 : Nat → Int32) (o6 : Nat → Int32), some (v, o0, o1, o2, o3, o4, o5, o6) = some res → (v = 0 ∨ v = 1) → decode cX7_takeItem pc = .ok (.ireturn, 1) → va_P (dC, dI) vwCl [(a_o, .inr (6, [.ref a_o_bytes, .int o_length, .ref a_o_numbers])), (a_o_numbers, .inl (cI, 3, .inl o_numbers)), (a_q1, .inr (2, [.int o0, .int o1, .int o2, .ref a_q1_bestPlace, .ref a_q1_stepCost, .ref a_q1_kind, .ref a_q1_likings])), (a_q1_bestPlace, .inl (cI, 8, .inl o3)), (a_q1_stepCost, .inl (cI, 8, .inl o4)), (a_q1_kind, .inl (cI, 8, .inl o5)), (a_q1_likings, .inl (cI, 64, .inl o6))] H → va_D A [(a_o, .inr (6, [.ref a_o_bytes, .int o_length, .ref a_o_numbers])), (a_o_numbers, .inl (cI, 3, .inl o_numbers)), (a_q1, .inr (2, [.int o0, .int o1, .int o2, .ref a_q1_bestPlace, .ref a_q1_stepCost, .ref a_q1_kind, .ref a_q1_likings])), (a_q1_bestPlace, .inl (cI, 8, .inl o3)), (a_q1_stepCost, .inl (cI, 8, .inl o4)), (a_q1_kind, .inl (cI, 8, .inl o5)), (a_q1_likings, .inl (cI, 64, .inl o6))] → va_S A s.heap H locs → W p l e (headSpec (kws yX7_takeItem cX7_takeItem 3 (some .boolean)) rm_X7_takeItem).room s m ([.ref a_o, .int x1, .ref a_q1] : List Value).toArray below meth c H locs 0 0 (MQ below (kQi Unit (dC, dI) A res.1 (fun _ => [(a_o, .inr (6, [.ref a_o_bytes, .int o_length, .ref a_o_numbers])), (a_o_numbers, .inl (cI, 3, .inl o_numbers)), (a_q1, .inr (2, [.int res.2.1, .int res.2.2.1, .int res.2.2.2.1, .ref a_q1_bestPlace, .ref a_q1_stepCost, .ref a_q1_kind, .ref a_q1_likings])), (a_q1_bestPlace, .inl (cI, 8, .inl res.2.2.2.2.1)), (a_q1_stepCost, .inl (cI, 8, .inl res.2.2.2.2.2.1)), (a_q1_kind, .inl (cI, 8, .inl res.2.2.2.2.2.2.1)), (a_q1_likings, .inl (cI, 64, .inl res.2.2.2.2.2.2.2))])) ([.ref a_o, .int x1, .ref a_q1] : List Value).toArray s 0 0 A) (F0 m pc ls [.int v]) := by
    intro H locs ls pc v o0 o1 o2 o3 o4 o5 o6 he hz hd hP hD hS
    obtain rfl := Option.some.inj he
    exact krz hx hb hr hlocks () hz hP hD hS hd
  have hl := lv_entry ([.ref a_o, .int x1, .ref a_q1]) (n := 3) (Nat.le_of_ble_eq_true rfl)
  rw [lg_entry_eq]
  generalize (lg_sl ([.ref a_o, .int x1, .ref a_q1]) ++ List.replicate (3 - (lg_sl ([.ref a_o, .int x1, .ref a_q1])).length) Slot.unset).toArray = ls at hl ⊢
  have hl : lv_has ls 3 [(0, .ref a_o), (1, .int x1), (2, .ref a_q1)] := hl
  generalize (MQ below _ ([.ref a_o, .int x1, .ref a_q1] : List Value).toArray s 0 0 A) = Q at hret ⊢
  generalize ([.ref a_o, .int x1, .ref a_q1] : List Value).toArray = args at ht hret ⊢
  have hP : va_P (dC, dI) vwCl [(a_o, .inr (6, [.ref a_o_bytes, .int o_length, .ref a_o_numbers])), (a_o_numbers, .inl (cI, 3, .inl o_numbers)), (a_q1, .inr (2, [.int q1_persons, .int q1_ring, .int q1_highestTold, .ref a_q1_bestPlace, .ref a_q1_stepCost, .ref a_q1_kind, .ref a_q1_likings])), (a_q1_bestPlace, .inl (cI, 8, .inl q1_bestPlace)), (a_q1_stepCost, .inl (cI, 8, .inl q1_stepCost)), (a_q1_kind, .inl (cI, 8, .inl q1_kind)), (a_q1_likings, .inl (cI, 64, .inl q1_likings))] s.heap := hP
  unfold f_X7_takeItem at hf
  obtain ⟨H, hH⟩ : ∃ H, H = s.heap := ⟨_, rfl⟩
  obtain ⟨locs, hlo⟩ : ∃ L : List Loc, L = [] := ⟨_, rfl⟩
  rw [← hH] at hP
  have hS : va_S A s.heap H locs := by rw [hH, hlo]; exact hS
  rw [show W p l e (headSpec (kws yX7_takeItem cX7_takeItem 3 (some .boolean)) rm_X7_takeItem).room s m args below meth c s.heap [] 0 0 Q (F0 m 0 ls []) = W p l e (headSpec (kws yX7_takeItem cX7_takeItem 3 (some .boolean)) rm_X7_takeItem).room s m args below meth c H locs 0 0 Q (F0 m 0 ls []) from by rw [hH, hlo]]
  refine lv_iload_n hx hb dX7_takeItem_0 rfl (lv_at hl 1 rfl) ?_
  refine lv_bipush (v := (112 : Int32)) hx hb dX7_takeItem_1 (by decide) ?_
  refine lv_icmp_ne (tgt := 29) hx hb dX7_takeItem_3 (by decide) (fun c_1 => ?_) (fun c_1 => ?_)
  · have hf := ifn c_1 hf
    refine lv_iload_n hx hb dX7_takeItem_29 rfl (lv_at hl 1 rfl) ?_
    refine lv_bipush (v := (108 : Int32)) hx hb dX7_takeItem_30 (by decide) ?_
    refine lv_icmp_ne (tgt := 58) hx hb dX7_takeItem_32 (by decide) (fun c_2 => ?_) (fun c_2 => ?_)
    · have hf := ifn c_2 hf
      refine lv_aload_n hx hb dX7_takeItem_58 rfl (lv_at hl 2 rfl) ?_
      refine lv_aload_n hx hb dX7_takeItem_59 rfl (lv_at hl 0 rfl) ?_
      refine va_get (ci := 6) (v := .ref a_o_numbers) (C := RX7) (T := TX7) (N := 3) hx hb ht inX7 hown hK hP 0 rfl rfl 2 (by decide) (ht _ wd_1_32) (fun _ h9 => h9) rfl dX7_takeItem_60 ?_
      refine lv_iconst (v := (0 : Int32)) hx hb dX7_takeItem_63 (by decide) ?_
      obtain ⟨b_3, hf⟩ := bd_some hf
      refine va_iald hx hb hK hP 1 0 rfl rfl b_3 dX7_takeItem_64 ?_
      obtain ⟨u_4, h_5, hf⟩ := obs hf
      refine kcVi (rest := []) (wr := [(a_o, .inr (6, [.ref a_o_bytes, .int o_length, .ref a_o_numbers])), (a_o_numbers, .inl (cI, 3, .inl o_numbers)), (a_q1_bestPlace, .inl (cI, 8, .inl q1_bestPlace)), (a_q1_stepCost, .inl (cI, 8, .inl q1_stepCost)), (a_q1_kind, .inl (cI, 8, .inl q1_kind)), (a_q1_likings, .inl (cI, 64, .inl q1_likings))]) (w2 := fun _ => [(a_o, .inr (6, [.ref a_o_bytes, .int o_length, .ref a_o_numbers])), (a_o_numbers, .inl (cI, 3, .inl o_numbers)), (a_q1, .inr (2, [.int q1_persons, .int u_4.2, .int q1_highestTold, .ref a_q1_bestPlace, .ref a_q1_stepCost, .ref a_q1_kind, .ref a_q1_likings])), (a_q1_bestPlace, .inl (cI, 8, .inl q1_bestPlace)), (a_q1_stepCost, .inl (cI, 8, .inl q1_stepCost)), (a_q1_kind, .inl (cI, 8, .inl q1_kind)), (a_q1_likings, .inl (cI, 64, .inl q1_likings))]) hx hb hml hown ht (c_X2_setRing l dC dI cI cJ cZ a_q1 a_q1_bestPlace a_q1_stepCost a_q1_kind a_q1_likings H.size q1_persons q1_ring q1_highestTold (o_numbers (0 : Int32).toNatClampNeg) u_4 h_5) (kcw 1 ht wd_2_71 wd_1_3 wd_2_68 kd_X2_setRing ⟨rfl, rfl⟩ ⟨Nat.le_of_ble_eq_true rfl, Nat.le_of_ble_eq_true rfl⟩) wd_2_69 wd_2_70 hK hP hD hS hA [2] [0, 1, 3, 4, 5, 6] [0, 1, 6, 2, 3, 4, 5] rfl rfl rfl rfl (by decide) rfl (fun _ => rfl) (ci := 2) rfl rfl rfl rfl hl.1 rfl (Nat.le_of_ble_eq_true rfl) dX7_takeItem_65 ⟨Nat.zero_le _, Nat.zero_le _⟩ (fun _ H locs hP hD hS => ?_)
      have hP : va_P (dC, dI) vwCl [(a_o, .inr (6, [.ref a_o_bytes, .int o_length, .ref a_o_numbers])), (a_o_numbers, .inl (cI, 3, .inl o_numbers)), (a_q1, .inr (2, [.int q1_persons, .int u_4.2, .int q1_highestTold, .ref a_q1_bestPlace, .ref a_q1_stepCost, .ref a_q1_kind, .ref a_q1_likings])), (a_q1_bestPlace, .inl (cI, 8, .inl q1_bestPlace)), (a_q1_stepCost, .inl (cI, 8, .inl q1_stepCost)), (a_q1_kind, .inl (cI, 8, .inl q1_kind)), (a_q1_likings, .inl (cI, 64, .inl q1_likings))] H := hP
      have hD : va_D A [(a_o, .inr (6, [.ref a_o_bytes, .int o_length, .ref a_o_numbers])), (a_o_numbers, .inl (cI, 3, .inl o_numbers)), (a_q1, .inr (2, [.int q1_persons, .int u_4.2, .int q1_highestTold, .ref a_q1_bestPlace, .ref a_q1_stepCost, .ref a_q1_kind, .ref a_q1_likings])), (a_q1_bestPlace, .inl (cI, 8, .inl q1_bestPlace)), (a_q1_stepCost, .inl (cI, 8, .inl q1_stepCost)), (a_q1_kind, .inl (cI, 8, .inl q1_kind)), (a_q1_likings, .inl (cI, 64, .inl q1_likings))] := hD
      obtain ⟨z_6, hf⟩ := zb_some hf
      exact hret H locs ls 68 u_4.1 q1_persons u_4.2 q1_highestTold q1_bestPlace q1_stepCost q1_kind q1_likings hf z_6 dX7_takeItem_68 hP hD hS
    · have hf := ifp c_2 hf
      refine lv_aload_n hx hb dX7_takeItem_35 rfl (lv_at hl 2 rfl) ?_
      refine lv_aload_n hx hb dX7_takeItem_36 rfl (lv_at hl 0 rfl) ?_
      refine va_get (ci := 6) (v := .ref a_o_numbers) (C := RX7) (T := TX7) (N := 3) hx hb ht inX7 hown hK hP 0 rfl rfl 2 (by decide) (ht _ wd_1_32) (fun _ h9 => h9) rfl dX7_takeItem_37 ?_
      refine lv_iconst (v := (0 : Int32)) hx hb dX7_takeItem_40 (by decide) ?_
      obtain ⟨b_7, hf⟩ := bd_some hf
      refine va_iald hx hb hK hP 1 0 rfl rfl b_7 dX7_takeItem_41 ?_
      refine lv_aload_n hx hb dX7_takeItem_42 rfl (lv_at hl 0 rfl) ?_
      refine va_get (ci := 6) (v := .ref a_o_numbers) (C := RX7) (T := TX7) (N := 3) hx hb ht inX7 hown hK hP 0 rfl rfl 2 (by decide) (ht _ wd_1_32) (fun _ h9 => h9) rfl dX7_takeItem_43 ?_
      refine lv_iconst (v := (1 : Int32)) hx hb dX7_takeItem_46 (by decide) ?_
      obtain ⟨b_8, hf⟩ := bd_some hf
      refine va_iald hx hb hK hP 1 0 rfl rfl b_8 dX7_takeItem_47 ?_
      refine lv_aload_n hx hb dX7_takeItem_48 rfl (lv_at hl 0 rfl) ?_
      refine va_get (ci := 6) (v := .ref a_o_numbers) (C := RX7) (T := TX7) (N := 3) hx hb ht inX7 hown hK hP 0 rfl rfl 2 (by decide) (ht _ wd_1_32) (fun _ h9 => h9) rfl dX7_takeItem_49 ?_
      refine lv_iconst (v := (2 : Int32)) hx hb dX7_takeItem_52 (by decide) ?_
      obtain ⟨b_9, hf⟩ := bd_some hf
      refine va_iald hx hb hK hP 1 0 rfl rfl b_9 dX7_takeItem_53 ?_
      obtain ⟨u_10, h_11, hf⟩ := obs hf
      refine kcVi (rest := []) (wr := [(a_o, .inr (6, [.ref a_o_bytes, .int o_length, .ref a_o_numbers])), (a_o_numbers, .inl (cI, 3, .inl o_numbers)), (a_q1_bestPlace, .inl (cI, 8, .inl q1_bestPlace)), (a_q1_stepCost, .inl (cI, 8, .inl q1_stepCost)), (a_q1_kind, .inl (cI, 8, .inl q1_kind))]) (w2 := fun _ => [(a_o, .inr (6, [.ref a_o_bytes, .int o_length, .ref a_o_numbers])), (a_o_numbers, .inl (cI, 3, .inl o_numbers)), (a_q1, .inr (2, [.int q1_persons, .int q1_ring, .int u_10.2.1, .ref a_q1_bestPlace, .ref a_q1_stepCost, .ref a_q1_kind, .ref a_q1_likings])), (a_q1_bestPlace, .inl (cI, 8, .inl q1_bestPlace)), (a_q1_stepCost, .inl (cI, 8, .inl q1_stepCost)), (a_q1_kind, .inl (cI, 8, .inl q1_kind)), (a_q1_likings, .inl (cI, 64, .inl u_10.2.2))]) hx hb hml hown ht (c_X2_setLiking l dC dI cI cJ cZ a_q1 a_q1_bestPlace a_q1_stepCost a_q1_kind a_q1_likings H.size q1_persons q1_ring q1_highestTold q1_likings (o_numbers (0 : Int32).toNatClampNeg) (o_numbers (1 : Int32).toNatClampNeg) (o_numbers (2 : Int32).toNatClampNeg) u_10 h_11) (kcw 3 ht wd_2_67 wd_1_3 wd_2_64 kd_X2_setLiking ⟨rfl, rfl⟩ ⟨Nat.le_of_ble_eq_true rfl, Nat.le_of_ble_eq_true rfl⟩) wd_2_65 wd_2_66 hK hP hD hS hA [2, 6] [0, 1, 3, 4, 5] [0, 1, 5, 2, 3, 4, 6] rfl rfl rfl rfl (by decide) rfl (fun _ => rfl) (ci := 2) rfl rfl rfl rfl hl.1 rfl (Nat.le_of_ble_eq_true rfl) dX7_takeItem_54 ⟨Nat.zero_le _, Nat.zero_le _⟩ (fun _ H locs hP hD hS => ?_)
      have hP : va_P (dC, dI) vwCl [(a_o, .inr (6, [.ref a_o_bytes, .int o_length, .ref a_o_numbers])), (a_o_numbers, .inl (cI, 3, .inl o_numbers)), (a_q1, .inr (2, [.int q1_persons, .int q1_ring, .int u_10.2.1, .ref a_q1_bestPlace, .ref a_q1_stepCost, .ref a_q1_kind, .ref a_q1_likings])), (a_q1_bestPlace, .inl (cI, 8, .inl q1_bestPlace)), (a_q1_stepCost, .inl (cI, 8, .inl q1_stepCost)), (a_q1_kind, .inl (cI, 8, .inl q1_kind)), (a_q1_likings, .inl (cI, 64, .inl u_10.2.2))] H := hP
      have hD : va_D A [(a_o, .inr (6, [.ref a_o_bytes, .int o_length, .ref a_o_numbers])), (a_o_numbers, .inl (cI, 3, .inl o_numbers)), (a_q1, .inr (2, [.int q1_persons, .int q1_ring, .int u_10.2.1, .ref a_q1_bestPlace, .ref a_q1_stepCost, .ref a_q1_kind, .ref a_q1_likings])), (a_q1_bestPlace, .inl (cI, 8, .inl q1_bestPlace)), (a_q1_stepCost, .inl (cI, 8, .inl q1_stepCost)), (a_q1_kind, .inl (cI, 8, .inl q1_kind)), (a_q1_likings, .inl (cI, 64, .inl u_10.2.2))] := hD
      obtain ⟨z_12, hf⟩ := zb_some hf
      exact hret H locs ls 57 u_10.1 q1_persons q1_ring u_10.2.1 q1_bestPlace q1_stepCost q1_kind u_10.2.2 hf z_12 dX7_takeItem_57 hP hD hS
  · have hf := ifp c_1 hf
    refine lv_aload_n hx hb dX7_takeItem_6 rfl (lv_at hl 2 rfl) ?_
    refine lv_aload_n hx hb dX7_takeItem_7 rfl (lv_at hl 0 rfl) ?_
    refine va_get (ci := 6) (v := .ref a_o_numbers) (C := RX7) (T := TX7) (N := 3) hx hb ht inX7 hown hK hP 0 rfl rfl 2 (by decide) (ht _ wd_1_32) (fun _ h9 => h9) rfl dX7_takeItem_8 ?_
    refine lv_iconst (v := (0 : Int32)) hx hb dX7_takeItem_11 (by decide) ?_
    obtain ⟨b_13, hf⟩ := bd_some hf
    refine va_iald hx hb hK hP 1 0 rfl rfl b_13 dX7_takeItem_12 ?_
    refine lv_aload_n hx hb dX7_takeItem_13 rfl (lv_at hl 0 rfl) ?_
    refine va_get (ci := 6) (v := .ref a_o_numbers) (C := RX7) (T := TX7) (N := 3) hx hb ht inX7 hown hK hP 0 rfl rfl 2 (by decide) (ht _ wd_1_32) (fun _ h9 => h9) rfl dX7_takeItem_14 ?_
    refine lv_iconst (v := (1 : Int32)) hx hb dX7_takeItem_17 (by decide) ?_
    obtain ⟨b_14, hf⟩ := bd_some hf
    refine va_iald hx hb hK hP 1 0 rfl rfl b_14 dX7_takeItem_18 ?_
    refine lv_aload_n hx hb dX7_takeItem_19 rfl (lv_at hl 0 rfl) ?_
    refine va_get (ci := 6) (v := .ref a_o_numbers) (C := RX7) (T := TX7) (N := 3) hx hb ht inX7 hown hK hP 0 rfl rfl 2 (by decide) (ht _ wd_1_32) (fun _ h9 => h9) rfl dX7_takeItem_20 ?_
    refine lv_iconst (v := (2 : Int32)) hx hb dX7_takeItem_23 (by decide) ?_
    obtain ⟨b_15, hf⟩ := bd_some hf
    refine va_iald hx hb hK hP 1 0 rfl rfl b_15 dX7_takeItem_24 ?_
    obtain ⟨u_16, h_17, hf⟩ := obs hf
    refine kcVi (rest := []) (wr := [(a_o, .inr (6, [.ref a_o_bytes, .int o_length, .ref a_o_numbers])), (a_o_numbers, .inl (cI, 3, .inl o_numbers)), (a_q1_likings, .inl (cI, 64, .inl q1_likings))]) (w2 := fun _ => [(a_o, .inr (6, [.ref a_o_bytes, .int o_length, .ref a_o_numbers])), (a_o_numbers, .inl (cI, 3, .inl o_numbers)), (a_q1, .inr (2, [.int u_16.2.1, .int q1_ring, .int u_16.2.2.1, .ref a_q1_bestPlace, .ref a_q1_stepCost, .ref a_q1_kind, .ref a_q1_likings])), (a_q1_bestPlace, .inl (cI, 8, .inl u_16.2.2.2.1)), (a_q1_stepCost, .inl (cI, 8, .inl u_16.2.2.2.2.1)), (a_q1_kind, .inl (cI, 8, .inl u_16.2.2.2.2.2)), (a_q1_likings, .inl (cI, 64, .inl q1_likings))]) hx hb hml hown ht (c_X2_addPerson l dC dI cI cJ cZ a_q1 a_q1_bestPlace a_q1_stepCost a_q1_kind a_q1_likings H.size q1_persons q1_ring q1_highestTold q1_bestPlace q1_stepCost q1_kind (o_numbers (0 : Int32).toNatClampNeg) (o_numbers (1 : Int32).toNatClampNeg) (o_numbers (2 : Int32).toNatClampNeg) u_16 h_17) (kcw 3 ht wd_1_218 wd_1_3 wd_2_63 kd_X2_addPerson ⟨rfl, rfl⟩ ⟨Nat.le_of_ble_eq_true rfl, Nat.le_of_ble_eq_true rfl⟩) wd_1_216 wd_1_217 hK hP hD hS hA [2, 3, 4, 5] [0, 1, 6] [0, 1, 3, 4, 5, 6, 2] rfl rfl rfl rfl (by decide) rfl (fun _ => rfl) (ci := 2) rfl rfl rfl rfl hl.1 rfl (Nat.le_of_ble_eq_true rfl) dX7_takeItem_25 ⟨Nat.zero_le _, Nat.zero_le _⟩ (fun _ H locs hP hD hS => ?_)
    have hP : va_P (dC, dI) vwCl [(a_o, .inr (6, [.ref a_o_bytes, .int o_length, .ref a_o_numbers])), (a_o_numbers, .inl (cI, 3, .inl o_numbers)), (a_q1, .inr (2, [.int u_16.2.1, .int q1_ring, .int u_16.2.2.1, .ref a_q1_bestPlace, .ref a_q1_stepCost, .ref a_q1_kind, .ref a_q1_likings])), (a_q1_bestPlace, .inl (cI, 8, .inl u_16.2.2.2.1)), (a_q1_stepCost, .inl (cI, 8, .inl u_16.2.2.2.2.1)), (a_q1_kind, .inl (cI, 8, .inl u_16.2.2.2.2.2)), (a_q1_likings, .inl (cI, 64, .inl q1_likings))] H := hP
    have hD : va_D A [(a_o, .inr (6, [.ref a_o_bytes, .int o_length, .ref a_o_numbers])), (a_o_numbers, .inl (cI, 3, .inl o_numbers)), (a_q1, .inr (2, [.int u_16.2.1, .int q1_ring, .int u_16.2.2.1, .ref a_q1_bestPlace, .ref a_q1_stepCost, .ref a_q1_kind, .ref a_q1_likings])), (a_q1_bestPlace, .inl (cI, 8, .inl u_16.2.2.2.1)), (a_q1_stepCost, .inl (cI, 8, .inl u_16.2.2.2.2.1)), (a_q1_kind, .inl (cI, 8, .inl u_16.2.2.2.2.2)), (a_q1_likings, .inl (cI, 64, .inl q1_likings))] := hD
    obtain ⟨z_18, hf⟩ := zb_some hf
    exact hret H locs ls 28 u_16.1 u_16.2.1 q1_ring u_16.2.2.1 u_16.2.2.2.1 u_16.2.2.2.2.1 u_16.2.2.2.2.2 q1_likings hf z_18 dX7_takeItem_28 hP hD hS
def f_X7_readItem (x1 : Int32) (o_length : Int32) (o_bytes : Nat → Int32) (o_numbers : Nat → Int32) (q1_persons : Int32) (q1_ring : Int32) (q1_highestTold : Int32) (q1_bestPlace : Nat → Int32) (q1_stepCost : Nat → Int32) (q1_kind : Nat → Int32) (q1_likings : Nat → Int32) : Option (Int32 × (Nat → Int32) × Int32 × Int32 × Int32 × (Nat → Int32) × (Nat → Int32) × (Nat → Int32) × (Nat → Int32)) := bd x1 300 (Option.bind (f_X7_numbersOf (o_bytes x1.toNatClampNeg)) (fun u_2 => if u_2 = 0 then some ((-1 : Int32), o_numbers, q1_persons, q1_ring, q1_highestTold, q1_bestPlace, q1_stepCost, q1_kind, q1_likings) else Option.bind (f_X7_readNumbers (x1 + (1 : Int32)) u_2 o_length o_bytes o_numbers) (fun u_5 => if u_5.1 < 0 then some ((-1 : Int32), u_5.2, q1_persons, q1_ring, q1_highestTold, q1_bestPlace, q1_stepCost, q1_kind, q1_likings) else Option.bind (f_X7_takeItem (o_bytes x1.toNatClampNeg) u_5.2 q1_persons q1_ring q1_highestTold q1_bestPlace q1_stepCost q1_kind q1_likings) (fun u_8 => if u_8.1 = 0 then some ((-1 : Int32), u_5.2, u_8.2.1, u_8.2.2.1, u_8.2.2.2.1, u_8.2.2.2.2.1, u_8.2.2.2.2.2.1, u_8.2.2.2.2.2.2.1, u_8.2.2.2.2.2.2.2) else some (u_5.1, u_5.2, u_8.2.1, u_8.2.2.1, u_8.2.2.2.1, u_8.2.2.2.2.1, u_8.2.2.2.2.2.1, u_8.2.2.2.2.2.2.1, u_8.2.2.2.2.2.2.2)))))
abbrev rm_X7_readItem : Room := { frames := 3, cells := 0, slots := 0, locals := 69 }
theorem kd_X7_readItem : yX7_readItem.cls ≠ "java/lang/invoke/MethodHandle" ∧ yX7_readItem.cls ≠ "java/lang/invoke/VarHandle" ∧ (parseMethodDescriptor yX7_readItem.desc).map (fun d => d.parameters.length) = some 2 := by decide +kernel
set_option maxHeartbeats 4000000 in
set_option maxRecDepth 100000 in
theorem c_X7_readItem (l : Launch) (dC : Nat → ClassId) (dI : Nat → Nat → Nat) (cI cJ cZ : ClassId) (a_o a_o_bytes a_o_numbers a_q1 a_q1_bestPlace a_q1_stepCost a_q1_kind a_q1_likings : Nat) (sz : Nat) (o_length : Int32) (o_bytes : Nat → Int32) (o_numbers : Nat → Int32) (q1_persons : Int32) (q1_ring : Int32) (q1_highestTold : Int32) (q1_bestPlace : Nat → Int32) (q1_stepCost : Nat → Int32) (q1_kind : Nat → Int32) (q1_likings : Nat → Int32) (x1 : Int32) (res : Int32 × (Nat → Int32) × Int32 × Int32 × Int32 × (Nat → Int32) × (Nat → Int32) × (Nat → Int32) × (Nat → Int32)) (hf : f_X7_readItem x1 o_length o_bytes o_numbers q1_persons q1_ring q1_highestTold q1_bestPlace q1_stepCost q1_kind q1_likings = some res) : kMi Unit l yX7_readItem cX7_readItem 6 (some .int) rm_X7_readItem [.ref a_o, .int x1, .ref a_q1] (dC, dI) (kT cI cJ cZ) sz [(a_o, .inr (6, [.ref a_o_bytes, .int o_length, .ref a_o_numbers])), (a_o_bytes, .inl (cI, 300, .inl o_bytes)), (a_o_numbers, .inl (cI, 3, .inl o_numbers)), (a_q1, .inr (2, [.int q1_persons, .int q1_ring, .int q1_highestTold, .ref a_q1_bestPlace, .ref a_q1_stepCost, .ref a_q1_kind, .ref a_q1_likings])), (a_q1_bestPlace, .inl (cI, 8, .inl q1_bestPlace)), (a_q1_stepCost, .inl (cI, 8, .inl q1_stepCost)), (a_q1_kind, .inl (cI, 8, .inl q1_kind)), (a_q1_likings, .inl (cI, 64, .inl q1_likings))] res.1 (fun _ => [(a_o, .inr (6, [.ref a_o_bytes, .int o_length, .ref a_o_numbers])), (a_o_bytes, .inl (cI, 300, .inl o_bytes)), (a_o_numbers, .inl (cI, 3, .inl res.2.1)), (a_q1, .inr (2, [.int res.2.2.1, .int res.2.2.2.1, .int res.2.2.2.2.1, .ref a_q1_bestPlace, .ref a_q1_stepCost, .ref a_q1_kind, .ref a_q1_likings])), (a_q1_bestPlace, .inl (cI, 8, .inl res.2.2.2.2.2.1)), (a_q1_stepCost, .inl (cI, 8, .inl res.2.2.2.2.2.2.1)), (a_q1_kind, .inl (cI, 8, .inl res.2.2.2.2.2.2.2.1)), (a_q1_likings, .inl (cI, 64, .inl res.2.2.2.2.2.2.2.2))]) := by
  refine Met.ofW (cc := cX7_readItem) (maxL := 6) (ret := (some .int)) (by decide) rfl ?_
  intro p e s m args below meth c s₁ B hml hv
  obtain ⟨rfl, hsz, hP, hK, hD0⟩ := hv
  have hx := B.exec
  have hb := B.bytes
  have hr := B.returns
  have ht : ∀ w ∈ lw_g, w.before ([.ref a_o, .int x1, .ref a_q1] : List Value).toArray s = true := fun w h => atoms_spec (ws := kws yX7_readItem cX7_readItem 6 (some .int)) B.pre w (List.mem_cons_of_mem _ h)
  have hown : s.vm.findClass RX7 = some m.cls := findClass_of_methodNamed B.named
  have hlocks := B.notSynchronized
  subst hsz
  have hD := hD0.self (sz := s.heap.size)
  generalize hAe : va_A [(a_o, .inr (6, [.ref a_o_bytes, .int o_length, .ref a_o_numbers])), (a_o_bytes, .inl (cI, 300, .inl o_bytes)), (a_o_numbers, .inl (cI, 3, .inl o_numbers)), (a_q1, .inr (2, [.int q1_persons, .int q1_ring, .int q1_highestTold, .ref a_q1_bestPlace, .ref a_q1_stepCost, .ref a_q1_kind, .ref a_q1_likings])), (a_q1_bestPlace, .inl (cI, 8, .inl q1_bestPlace)), (a_q1_stepCost, .inl (cI, 8, .inl q1_stepCost)), (a_q1_kind, .inl (cI, 8, .inl q1_kind)), (a_q1_likings, .inl (cI, 64, .inl q1_likings))] s.heap.size = A at hD ⊢
  have hA : ∀ q : Nat, s.heap.size ≤ q → A q := fun q h => by rw [← hAe]; exact Or.inr h
  have hS : va_S A s.heap s.heap [] := va_S.rf
  have hret : ∀ (H : Heap) (locs : List Loc) (ls : Array Slot) (pc : Nat) (v : Int32) (o0 : Nat → Int32) (o1 : Int32) (o2 : Int32) (o3 : Int32) (o4 : Nat → Int32) (o5 : Nat → Int32) (o6 : Nat → Int32) (o7 : Nat → Int32), some (v, o0, o1, o2, o3, o4, o5, o6, o7) = some res → decode cX7_readItem pc = .ok (.ireturn, 1) → va_P (dC, dI) vwCl [(a_o, .inr (6, [.ref a_o_bytes, .int o_length, .ref a_o_numbers])), (a_o_bytes, .inl (cI, 300, .inl o_bytes)), (a_o_numbers, .inl (cI, 3, .inl o0)), (a_q1, .inr (2, [.int o1, .int o2, .int o3, .ref a_q1_bestPlace, .ref a_q1_stepCost, .ref a_q1_kind, .ref a_q1_likings])), (a_q1_bestPlace, .inl (cI, 8, .inl o4)), (a_q1_stepCost, .inl (cI, 8, .inl o5)), (a_q1_kind, .inl (cI, 8, .inl o6)), (a_q1_likings, .inl (cI, 64, .inl o7))] H → va_D A [(a_o, .inr (6, [.ref a_o_bytes, .int o_length, .ref a_o_numbers])), (a_o_bytes, .inl (cI, 300, .inl o_bytes)), (a_o_numbers, .inl (cI, 3, .inl o0)), (a_q1, .inr (2, [.int o1, .int o2, .int o3, .ref a_q1_bestPlace, .ref a_q1_stepCost, .ref a_q1_kind, .ref a_q1_likings])), (a_q1_bestPlace, .inl (cI, 8, .inl o4)), (a_q1_stepCost, .inl (cI, 8, .inl o5)), (a_q1_kind, .inl (cI, 8, .inl o6)), (a_q1_likings, .inl (cI, 64, .inl o7))] → va_S A s.heap H locs → W p l e (headSpec (kws yX7_readItem cX7_readItem 6 (some .int)) rm_X7_readItem).room s m ([.ref a_o, .int x1, .ref a_q1] : List Value).toArray below meth c H locs 0 0 (MQ below (kQi Unit (dC, dI) A res.1 (fun _ => [(a_o, .inr (6, [.ref a_o_bytes, .int o_length, .ref a_o_numbers])), (a_o_bytes, .inl (cI, 300, .inl o_bytes)), (a_o_numbers, .inl (cI, 3, .inl res.2.1)), (a_q1, .inr (2, [.int res.2.2.1, .int res.2.2.2.1, .int res.2.2.2.2.1, .ref a_q1_bestPlace, .ref a_q1_stepCost, .ref a_q1_kind, .ref a_q1_likings])), (a_q1_bestPlace, .inl (cI, 8, .inl res.2.2.2.2.2.1)), (a_q1_stepCost, .inl (cI, 8, .inl res.2.2.2.2.2.2.1)), (a_q1_kind, .inl (cI, 8, .inl res.2.2.2.2.2.2.2.1)), (a_q1_likings, .inl (cI, 64, .inl res.2.2.2.2.2.2.2.2))])) ([.ref a_o, .int x1, .ref a_q1] : List Value).toArray s 0 0 A) (F0 m pc ls [.int v]) := by
    intro H locs ls pc v o0 o1 o2 o3 o4 o5 o6 o7 he hd hP hD hS
    obtain rfl := Option.some.inj he
    exact kri hx hb hr hlocks () hP hD hS hd
  have hl := lv_entry ([.ref a_o, .int x1, .ref a_q1]) (n := 6) (Nat.le_of_ble_eq_true rfl)
  rw [lg_entry_eq]
  generalize (lg_sl ([.ref a_o, .int x1, .ref a_q1]) ++ List.replicate (6 - (lg_sl ([.ref a_o, .int x1, .ref a_q1])).length) Slot.unset).toArray = ls at hl ⊢
  have hl : lv_has ls 6 [(0, .ref a_o), (1, .int x1), (2, .ref a_q1)] := hl
  generalize (MQ below _ ([.ref a_o, .int x1, .ref a_q1] : List Value).toArray s 0 0 A) = Q at hret ⊢
  generalize ([.ref a_o, .int x1, .ref a_q1] : List Value).toArray = args at ht hret ⊢
  have hP : va_P (dC, dI) vwCl [(a_o, .inr (6, [.ref a_o_bytes, .int o_length, .ref a_o_numbers])), (a_o_bytes, .inl (cI, 300, .inl o_bytes)), (a_o_numbers, .inl (cI, 3, .inl o_numbers)), (a_q1, .inr (2, [.int q1_persons, .int q1_ring, .int q1_highestTold, .ref a_q1_bestPlace, .ref a_q1_stepCost, .ref a_q1_kind, .ref a_q1_likings])), (a_q1_bestPlace, .inl (cI, 8, .inl q1_bestPlace)), (a_q1_stepCost, .inl (cI, 8, .inl q1_stepCost)), (a_q1_kind, .inl (cI, 8, .inl q1_kind)), (a_q1_likings, .inl (cI, 64, .inl q1_likings))] s.heap := hP
  unfold f_X7_readItem at hf
  obtain ⟨H, hH⟩ : ∃ H, H = s.heap := ⟨_, rfl⟩
  obtain ⟨locs, hlo⟩ : ∃ L : List Loc, L = [] := ⟨_, rfl⟩
  rw [← hH] at hP
  have hS : va_S A s.heap H locs := by rw [hH, hlo]; exact hS
  rw [show W p l e (headSpec (kws yX7_readItem cX7_readItem 6 (some .int)) rm_X7_readItem).room s m args below meth c s.heap [] 0 0 Q (F0 m 0 ls []) = W p l e (headSpec (kws yX7_readItem cX7_readItem 6 (some .int)) rm_X7_readItem).room s m args below meth c H locs 0 0 Q (F0 m 0 ls []) from by rw [hH, hlo]]
  refine lv_aload_n hx hb dX7_readItem_0 rfl (lv_at hl 0 rfl) ?_
  refine va_get (ci := 6) (v := .ref a_o_bytes) (C := RX7) (T := TX7) (N := 3) hx hb ht inX7 hown hK hP 0 rfl rfl 0 (by decide) (ht _ wd_1_29) (fun _ h9 => h9) rfl dX7_readItem_1 ?_
  refine lv_iload_n hx hb dX7_readItem_4 rfl (lv_at hl 1 rfl) ?_
  obtain ⟨b_1, hf⟩ := bd_some hf
  refine va_iald hx hb hK hP 1 0 rfl rfl b_1 dX7_readItem_5 ?_
  refine lv_istore_n (lv' := [(3, .int (o_bytes x1.toNatClampNeg)), (0, .ref a_o), (1, .int x1), (2, .ref a_q1)]) hx hb dX7_readItem_6 rfl hl (by decide) rfl (fun ls hl => ?_)
  refine lv_iload_n hx hb dX7_readItem_7 rfl (lv_at hl 0 rfl) ?_
  obtain ⟨u_2, h_3, hf⟩ := obs hf
  refine kcSi (rest := []) (wr := [(a_o, .inr (6, [.ref a_o_bytes, .int o_length, .ref a_o_numbers])), (a_o_bytes, .inl (cI, 300, .inl o_bytes)), (a_o_numbers, .inl (cI, 3, .inl o_numbers)), (a_q1, .inr (2, [.int q1_persons, .int q1_ring, .int q1_highestTold, .ref a_q1_bestPlace, .ref a_q1_stepCost, .ref a_q1_kind, .ref a_q1_likings])), (a_q1_bestPlace, .inl (cI, 8, .inl q1_bestPlace)), (a_q1_stepCost, .inl (cI, 8, .inl q1_stepCost)), (a_q1_kind, .inl (cI, 8, .inl q1_kind)), (a_q1_likings, .inl (cI, 64, .inl q1_likings))]) (w2 := fun _ => [(a_o, .inr (6, [.ref a_o_bytes, .int o_length, .ref a_o_numbers])), (a_o_bytes, .inl (cI, 300, .inl o_bytes)), (a_o_numbers, .inl (cI, 3, .inl o_numbers)), (a_q1, .inr (2, [.int q1_persons, .int q1_ring, .int q1_highestTold, .ref a_q1_bestPlace, .ref a_q1_stepCost, .ref a_q1_kind, .ref a_q1_likings])), (a_q1_bestPlace, .inl (cI, 8, .inl q1_bestPlace)), (a_q1_stepCost, .inl (cI, 8, .inl q1_stepCost)), (a_q1_kind, .inl (cI, 8, .inl q1_kind)), (a_q1_likings, .inl (cI, 64, .inl q1_likings))]) hx hb hml hown ht (c_X7_numbersOf l dC dI cI cJ cZ H.size (o_bytes x1.toNatClampNeg) u_2 h_3) (kcw 1 ht wd_2_50 wd_1_2 wd_2_48 kd_X7_numbersOf ⟨rfl, rfl⟩ ⟨Nat.le_of_ble_eq_true rfl, Nat.le_of_ble_eq_true rfl⟩) wd_2_49 hK hP hD hS hA [] [0, 1, 2, 3, 4, 5, 6, 7] [0, 1, 2, 3, 4, 5, 6, 7] rfl rfl rfl rfl (by decide) rfl (fun _ => rfl) rfl hl.1 rfl (Nat.le_of_ble_eq_true rfl) dX7_readItem_8 ⟨Nat.zero_le _, Nat.zero_le _⟩ (fun _ H locs hP hD hS => ?_)
  have hP : va_P (dC, dI) vwCl [(a_o, .inr (6, [.ref a_o_bytes, .int o_length, .ref a_o_numbers])), (a_o_bytes, .inl (cI, 300, .inl o_bytes)), (a_o_numbers, .inl (cI, 3, .inl o_numbers)), (a_q1, .inr (2, [.int q1_persons, .int q1_ring, .int q1_highestTold, .ref a_q1_bestPlace, .ref a_q1_stepCost, .ref a_q1_kind, .ref a_q1_likings])), (a_q1_bestPlace, .inl (cI, 8, .inl q1_bestPlace)), (a_q1_stepCost, .inl (cI, 8, .inl q1_stepCost)), (a_q1_kind, .inl (cI, 8, .inl q1_kind)), (a_q1_likings, .inl (cI, 64, .inl q1_likings))] H := hP
  have hD : va_D A [(a_o, .inr (6, [.ref a_o_bytes, .int o_length, .ref a_o_numbers])), (a_o_bytes, .inl (cI, 300, .inl o_bytes)), (a_o_numbers, .inl (cI, 3, .inl o_numbers)), (a_q1, .inr (2, [.int q1_persons, .int q1_ring, .int q1_highestTold, .ref a_q1_bestPlace, .ref a_q1_stepCost, .ref a_q1_kind, .ref a_q1_likings])), (a_q1_bestPlace, .inl (cI, 8, .inl q1_bestPlace)), (a_q1_stepCost, .inl (cI, 8, .inl q1_stepCost)), (a_q1_kind, .inl (cI, 8, .inl q1_kind)), (a_q1_likings, .inl (cI, 64, .inl q1_likings))] := hD
  refine lv_istore (lv' := [(4, .int u_2), (3, .int (o_bytes x1.toNatClampNeg)), (0, .ref a_o), (1, .int x1), (2, .ref a_q1)]) hx hb dX7_readItem_11 hl (by decide) rfl (fun ls hl => ?_)
  refine lv_iload hx hb dX7_readItem_13 (lv_at hl 0 rfl) ?_
  refine lv_if_ne (tgt := 20) hx hb dX7_readItem_15 (by decide) (fun c_4 => ?_) (fun c_4 => ?_)
  · have hf := ifn c_4 hf
    refine lv_aload_n hx hb dX7_readItem_20 rfl (lv_at hl 2 rfl) ?_
    refine lv_iload_n hx hb dX7_readItem_21 rfl (lv_at hl 3 rfl) ?_
    refine lv_iconst (v := (1 : Int32)) hx hb dX7_readItem_22 (by decide) ?_
    refine lv_iadd hx hb dX7_readItem_23 ?_
    refine lv_iload hx hb dX7_readItem_24 (lv_at hl 0 rfl) ?_
    obtain ⟨u_5, h_6, hf⟩ := obs hf
    refine kcVi (rest := []) (wr := [(a_q1, .inr (2, [.int q1_persons, .int q1_ring, .int q1_highestTold, .ref a_q1_bestPlace, .ref a_q1_stepCost, .ref a_q1_kind, .ref a_q1_likings])), (a_q1_bestPlace, .inl (cI, 8, .inl q1_bestPlace)), (a_q1_stepCost, .inl (cI, 8, .inl q1_stepCost)), (a_q1_kind, .inl (cI, 8, .inl q1_kind)), (a_q1_likings, .inl (cI, 64, .inl q1_likings))]) (w2 := fun _ => [(a_o, .inr (6, [.ref a_o_bytes, .int o_length, .ref a_o_numbers])), (a_o_bytes, .inl (cI, 300, .inl o_bytes)), (a_o_numbers, .inl (cI, 3, .inl u_5.2)), (a_q1, .inr (2, [.int q1_persons, .int q1_ring, .int q1_highestTold, .ref a_q1_bestPlace, .ref a_q1_stepCost, .ref a_q1_kind, .ref a_q1_likings])), (a_q1_bestPlace, .inl (cI, 8, .inl q1_bestPlace)), (a_q1_stepCost, .inl (cI, 8, .inl q1_stepCost)), (a_q1_kind, .inl (cI, 8, .inl q1_kind)), (a_q1_likings, .inl (cI, 64, .inl q1_likings))]) hx hb hml hown ht (c_X7_readNumbers l dC dI cI cJ cZ a_o a_o_bytes a_o_numbers H.size o_length o_bytes o_numbers (x1 + (1 : Int32)) u_2 u_5 h_6) (kcw 2 ht wd_2_54 wd_1_2 wd_2_51 kd_X7_readNumbers ⟨rfl, rfl⟩ ⟨Nat.le_of_ble_eq_true rfl, Nat.le_of_ble_eq_true rfl⟩) wd_2_53 wd_s_1 hK hP hD hS hA [0, 1, 2] [3, 4, 5, 6, 7] [5, 6, 7, 0, 1, 2, 3, 4] rfl rfl rfl rfl (by decide) rfl (fun _ => rfl) (ci := 6) rfl rfl rfl rfl hl.1 rfl (Nat.le_of_ble_eq_true rfl) dX7_readItem_26 ⟨Nat.zero_le _, Nat.zero_le _⟩ (fun _ H locs hP hD hS => ?_)
    have hP : va_P (dC, dI) vwCl [(a_o, .inr (6, [.ref a_o_bytes, .int o_length, .ref a_o_numbers])), (a_o_bytes, .inl (cI, 300, .inl o_bytes)), (a_o_numbers, .inl (cI, 3, .inl u_5.2)), (a_q1, .inr (2, [.int q1_persons, .int q1_ring, .int q1_highestTold, .ref a_q1_bestPlace, .ref a_q1_stepCost, .ref a_q1_kind, .ref a_q1_likings])), (a_q1_bestPlace, .inl (cI, 8, .inl q1_bestPlace)), (a_q1_stepCost, .inl (cI, 8, .inl q1_stepCost)), (a_q1_kind, .inl (cI, 8, .inl q1_kind)), (a_q1_likings, .inl (cI, 64, .inl q1_likings))] H := hP
    have hD : va_D A [(a_o, .inr (6, [.ref a_o_bytes, .int o_length, .ref a_o_numbers])), (a_o_bytes, .inl (cI, 300, .inl o_bytes)), (a_o_numbers, .inl (cI, 3, .inl u_5.2)), (a_q1, .inr (2, [.int q1_persons, .int q1_ring, .int q1_highestTold, .ref a_q1_bestPlace, .ref a_q1_stepCost, .ref a_q1_kind, .ref a_q1_likings])), (a_q1_bestPlace, .inl (cI, 8, .inl q1_bestPlace)), (a_q1_stepCost, .inl (cI, 8, .inl q1_stepCost)), (a_q1_kind, .inl (cI, 8, .inl q1_kind)), (a_q1_likings, .inl (cI, 64, .inl q1_likings))] := hD
    refine lv_istore (lv' := [(5, .int u_5.1), (4, .int u_2), (3, .int (o_bytes x1.toNatClampNeg)), (0, .ref a_o), (1, .int x1), (2, .ref a_q1)]) hx hb dX7_readItem_29 hl (by decide) rfl (fun ls hl => ?_)
    refine lv_iload hx hb dX7_readItem_31 (lv_at hl 0 rfl) ?_
    refine lv_if_lt (tgt := 50) hx hb dX7_readItem_33 (by decide) (fun c_7 => ?_) (fun c_7 => ?_)
    · have hf := ifp c_7 hf
      refine lv_iconst (v := (-1 : Int32)) hx hb dX7_readItem_50 (by decide) ?_
      exact hret H locs ls 51 (-1 : Int32) u_5.2 q1_persons q1_ring q1_highestTold q1_bestPlace q1_stepCost q1_kind q1_likings hf dX7_readItem_51 hP hD hS
    · have hf := ifn c_7 hf
      refine lv_aload_n hx hb dX7_readItem_36 rfl (lv_at hl 3 rfl) ?_
      refine lv_iload_n hx hb dX7_readItem_37 rfl (lv_at hl 2 rfl) ?_
      refine lv_aload_n hx hb dX7_readItem_38 rfl (lv_at hl 5 rfl) ?_
      obtain ⟨u_8, h_9, hf⟩ := obs hf
      refine kcVi (rest := []) (wr := [(a_o_bytes, .inl (cI, 300, .inl o_bytes))]) (w2 := fun _ => [(a_o, .inr (6, [.ref a_o_bytes, .int o_length, .ref a_o_numbers])), (a_o_bytes, .inl (cI, 300, .inl o_bytes)), (a_o_numbers, .inl (cI, 3, .inl u_5.2)), (a_q1, .inr (2, [.int u_8.2.1, .int u_8.2.2.1, .int u_8.2.2.2.1, .ref a_q1_bestPlace, .ref a_q1_stepCost, .ref a_q1_kind, .ref a_q1_likings])), (a_q1_bestPlace, .inl (cI, 8, .inl u_8.2.2.2.2.1)), (a_q1_stepCost, .inl (cI, 8, .inl u_8.2.2.2.2.2.1)), (a_q1_kind, .inl (cI, 8, .inl u_8.2.2.2.2.2.2.1)), (a_q1_likings, .inl (cI, 64, .inl u_8.2.2.2.2.2.2.2))]) hx hb hml hown ht (c_X7_takeItem l dC dI cI cJ cZ a_o a_o_bytes a_o_numbers a_q1 a_q1_bestPlace a_q1_stepCost a_q1_kind a_q1_likings H.size o_length u_5.2 q1_persons q1_ring q1_highestTold q1_bestPlace q1_stepCost q1_kind q1_likings (o_bytes x1.toNatClampNeg) u_8 h_9) (kcw 2 ht wd_2_62 wd_1_2 wd_2_59 kd_X7_takeItem ⟨rfl, rfl⟩ ⟨Nat.le_of_ble_eq_true rfl, Nat.le_of_ble_eq_true rfl⟩) wd_2_61 wd_s_3 hK hP hD hS hA [0, 2, 3, 4, 5, 6, 7] [1] [1, 0, 2, 3, 4, 5, 6, 7] rfl rfl rfl rfl (by decide) rfl (fun _ => rfl) (ci := 6) rfl rfl rfl rfl hl.1 rfl (Nat.le_of_ble_eq_true rfl) dX7_readItem_39 ⟨Nat.zero_le _, Nat.zero_le _⟩ (fun _ H locs hP hD hS => ?_)
      have hP : va_P (dC, dI) vwCl [(a_o, .inr (6, [.ref a_o_bytes, .int o_length, .ref a_o_numbers])), (a_o_bytes, .inl (cI, 300, .inl o_bytes)), (a_o_numbers, .inl (cI, 3, .inl u_5.2)), (a_q1, .inr (2, [.int u_8.2.1, .int u_8.2.2.1, .int u_8.2.2.2.1, .ref a_q1_bestPlace, .ref a_q1_stepCost, .ref a_q1_kind, .ref a_q1_likings])), (a_q1_bestPlace, .inl (cI, 8, .inl u_8.2.2.2.2.1)), (a_q1_stepCost, .inl (cI, 8, .inl u_8.2.2.2.2.2.1)), (a_q1_kind, .inl (cI, 8, .inl u_8.2.2.2.2.2.2.1)), (a_q1_likings, .inl (cI, 64, .inl u_8.2.2.2.2.2.2.2))] H := hP
      have hD : va_D A [(a_o, .inr (6, [.ref a_o_bytes, .int o_length, .ref a_o_numbers])), (a_o_bytes, .inl (cI, 300, .inl o_bytes)), (a_o_numbers, .inl (cI, 3, .inl u_5.2)), (a_q1, .inr (2, [.int u_8.2.1, .int u_8.2.2.1, .int u_8.2.2.2.1, .ref a_q1_bestPlace, .ref a_q1_stepCost, .ref a_q1_kind, .ref a_q1_likings])), (a_q1_bestPlace, .inl (cI, 8, .inl u_8.2.2.2.2.1)), (a_q1_stepCost, .inl (cI, 8, .inl u_8.2.2.2.2.2.1)), (a_q1_kind, .inl (cI, 8, .inl u_8.2.2.2.2.2.2.1)), (a_q1_likings, .inl (cI, 64, .inl u_8.2.2.2.2.2.2.2))] := hD
      refine lv_if_eq (tgt := 50) hx hb dX7_readItem_42 (by decide) (fun c_10 => ?_) (fun c_10 => ?_)
      · have hf := ifp c_10 hf
        refine lv_iconst (v := (-1 : Int32)) hx hb dX7_readItem_50 (by decide) ?_
        exact hret H locs ls 51 (-1 : Int32) u_5.2 u_8.2.1 u_8.2.2.1 u_8.2.2.2.1 u_8.2.2.2.2.1 u_8.2.2.2.2.2.1 u_8.2.2.2.2.2.2.1 u_8.2.2.2.2.2.2.2 hf dX7_readItem_51 hP hD hS
      · have hf := ifn c_10 hf
        refine lv_iload hx hb dX7_readItem_45 (lv_at hl 0 rfl) ?_
        refine lv_goto (tgt := 51) hx hb dX7_readItem_47 (by decide) ?_
        exact hret H locs ls 51 u_5.1 u_5.2 u_8.2.1 u_8.2.2.1 u_8.2.2.2.1 u_8.2.2.2.2.1 u_8.2.2.2.2.2.1 u_8.2.2.2.2.2.2.1 u_8.2.2.2.2.2.2.2 hf dX7_readItem_51 hP hD hS
  · have hf := ifp c_4 hf
    refine lv_iconst (v := (-1 : Int32)) hx hb dX7_readItem_18 (by decide) ?_
    exact hret H locs ls 19 (-1 : Int32) o_numbers q1_persons q1_ring q1_highestTold q1_bestPlace q1_stepCost q1_kind q1_likings hf dX7_readItem_19 hP hD hS
def f_X7_read_l6 (o_length : Int32) (o_bytes : Nat → Int32) : Nat → Int32 → (Nat → Int32) → Int32 → Int32 → Int32 → (Nat → Int32) → (Nat → Int32) → (Nat → Int32) → (Nat → Int32) → Option (Int32 × (Nat → Int32) × Int32 × Int32 × Int32 × (Nat → Int32) × (Nat → Int32) × (Nat → Int32) × (Nat → Int32))
  | 0, _, _, _, _, _, _, _, _, _ => none
  | n + 1, x2, o_numbers, q0_persons, q0_ring, q0_highestTold, q0_bestPlace, q0_stepCost, q0_kind, q0_likings => if o_length ≤ x2 then some ((-1 : Int32), o_numbers, q0_persons, q0_ring, q0_highestTold, q0_bestPlace, q0_stepCost, q0_kind, q0_likings) else Option.bind (f_X7_readItem x2 o_length o_bytes o_numbers q0_persons q0_ring q0_highestTold q0_bestPlace q0_stepCost q0_kind q0_likings) (fun u_2 => if x2 < u_2.1 then (f_X7_read_l6 o_length o_bytes n) u_2.1 u_2.2.1 u_2.2.2.1 u_2.2.2.2.1 u_2.2.2.2.2.1 u_2.2.2.2.2.2.1 u_2.2.2.2.2.2.2.1 u_2.2.2.2.2.2.2.2.1 u_2.2.2.2.2.2.2.2.2 else some (x2, u_2.2.1, u_2.2.2.1, u_2.2.2.2.1, u_2.2.2.2.2.1, u_2.2.2.2.2.2.1, u_2.2.2.2.2.2.2.1, u_2.2.2.2.2.2.2.2.1, u_2.2.2.2.2.2.2.2.2))
def f_X7_read (o_length : Int32) (o_bytes : Nat → Int32) (o_numbers : Nat → Int32) (q0_persons : Int32) (q0_ring : Int32) (q0_highestTold : Int32) (q0_bestPlace : Nat → Int32) (q0_stepCost : Nat → Int32) (q0_kind : Nat → Int32) (q0_likings : Nat → Int32) : Option (Int32 × (Nat → Int32) × Int32 × Int32 × Int32 × (Nat → Int32) × (Nat → Int32) × (Nat → Int32) × (Nat → Int32)) := Option.bind (f_X2_clear q0_persons q0_ring q0_highestTold q0_likings) (fun u_5 => f_X7_read_l6 o_length o_bytes NF (0 : Int32) o_numbers u_5.1 u_5.2.1 u_5.2.2.1 q0_bestPlace q0_stepCost q0_kind u_5.2.2.2)
abbrev rm_X7_read : Room := { frames := 4, cells := 0, slots := 0, locals := 94 }
theorem kd_X7_read : yX7_read.cls ≠ "java/lang/invoke/MethodHandle" ∧ yX7_read.cls ≠ "java/lang/invoke/VarHandle" ∧ (parseMethodDescriptor yX7_read.desc).map (fun d => d.parameters.length) = some 1 := by decide +kernel
set_option maxHeartbeats 4000000 in
set_option maxRecDepth 100000 in
theorem c_X7_read (l : Launch) (dC : Nat → ClassId) (dI : Nat → Nat → Nat) (cI cJ cZ : ClassId) (a_o a_o_bytes a_o_numbers a_q0 a_q0_bestPlace a_q0_stepCost a_q0_kind a_q0_likings : Nat) (sz : Nat) (o_length : Int32) (o_bytes : Nat → Int32) (o_numbers : Nat → Int32) (q0_persons : Int32) (q0_ring : Int32) (q0_highestTold : Int32) (q0_bestPlace : Nat → Int32) (q0_stepCost : Nat → Int32) (q0_kind : Nat → Int32) (q0_likings : Nat → Int32) (res : Int32 × (Nat → Int32) × Int32 × Int32 × Int32 × (Nat → Int32) × (Nat → Int32) × (Nat → Int32) × (Nat → Int32)) (hf : f_X7_read o_length o_bytes o_numbers q0_persons q0_ring q0_highestTold q0_bestPlace q0_stepCost q0_kind q0_likings = some res) : kMi Unit l yX7_read cX7_read 4 (some .int) rm_X7_read [.ref a_o, .ref a_q0] (dC, dI) (kT cI cJ cZ) sz [(a_o, .inr (6, [.ref a_o_bytes, .int o_length, .ref a_o_numbers])), (a_o_bytes, .inl (cI, 300, .inl o_bytes)), (a_o_numbers, .inl (cI, 3, .inl o_numbers)), (a_q0, .inr (2, [.int q0_persons, .int q0_ring, .int q0_highestTold, .ref a_q0_bestPlace, .ref a_q0_stepCost, .ref a_q0_kind, .ref a_q0_likings])), (a_q0_bestPlace, .inl (cI, 8, .inl q0_bestPlace)), (a_q0_stepCost, .inl (cI, 8, .inl q0_stepCost)), (a_q0_kind, .inl (cI, 8, .inl q0_kind)), (a_q0_likings, .inl (cI, 64, .inl q0_likings))] res.1 (fun _ => [(a_o, .inr (6, [.ref a_o_bytes, .int o_length, .ref a_o_numbers])), (a_o_bytes, .inl (cI, 300, .inl o_bytes)), (a_o_numbers, .inl (cI, 3, .inl res.2.1)), (a_q0, .inr (2, [.int res.2.2.1, .int res.2.2.2.1, .int res.2.2.2.2.1, .ref a_q0_bestPlace, .ref a_q0_stepCost, .ref a_q0_kind, .ref a_q0_likings])), (a_q0_bestPlace, .inl (cI, 8, .inl res.2.2.2.2.2.1)), (a_q0_stepCost, .inl (cI, 8, .inl res.2.2.2.2.2.2.1)), (a_q0_kind, .inl (cI, 8, .inl res.2.2.2.2.2.2.2.1)), (a_q0_likings, .inl (cI, 64, .inl res.2.2.2.2.2.2.2.2))]) := by
  refine Met.ofW (cc := cX7_read) (maxL := 4) (ret := (some .int)) (by decide) rfl ?_
  intro p e s m args below meth c s₁ B hml hv
  obtain ⟨rfl, hsz, hP, hK, hD0⟩ := hv
  have hx := B.exec
  have hb := B.bytes
  have hr := B.returns
  have ht : ∀ w ∈ lw_g, w.before ([.ref a_o, .ref a_q0] : List Value).toArray s = true := fun w h => atoms_spec (ws := kws yX7_read cX7_read 4 (some .int)) B.pre w (List.mem_cons_of_mem _ h)
  have hown : s.vm.findClass RX7 = some m.cls := findClass_of_methodNamed B.named
  have hlocks := B.notSynchronized
  subst hsz
  have hD := hD0.self (sz := s.heap.size)
  generalize hAe : va_A [(a_o, .inr (6, [.ref a_o_bytes, .int o_length, .ref a_o_numbers])), (a_o_bytes, .inl (cI, 300, .inl o_bytes)), (a_o_numbers, .inl (cI, 3, .inl o_numbers)), (a_q0, .inr (2, [.int q0_persons, .int q0_ring, .int q0_highestTold, .ref a_q0_bestPlace, .ref a_q0_stepCost, .ref a_q0_kind, .ref a_q0_likings])), (a_q0_bestPlace, .inl (cI, 8, .inl q0_bestPlace)), (a_q0_stepCost, .inl (cI, 8, .inl q0_stepCost)), (a_q0_kind, .inl (cI, 8, .inl q0_kind)), (a_q0_likings, .inl (cI, 64, .inl q0_likings))] s.heap.size = A at hD ⊢
  have hA : ∀ q : Nat, s.heap.size ≤ q → A q := fun q h => by rw [← hAe]; exact Or.inr h
  have hS : va_S A s.heap s.heap [] := va_S.rf
  have hret : ∀ (H : Heap) (locs : List Loc) (ls : Array Slot) (pc : Nat) (v : Int32) (o0 : Nat → Int32) (o1 : Int32) (o2 : Int32) (o3 : Int32) (o4 : Nat → Int32) (o5 : Nat → Int32) (o6 : Nat → Int32) (o7 : Nat → Int32), some (v, o0, o1, o2, o3, o4, o5, o6, o7) = some res → decode cX7_read pc = .ok (.ireturn, 1) → va_P (dC, dI) vwCl [(a_o, .inr (6, [.ref a_o_bytes, .int o_length, .ref a_o_numbers])), (a_o_bytes, .inl (cI, 300, .inl o_bytes)), (a_o_numbers, .inl (cI, 3, .inl o0)), (a_q0, .inr (2, [.int o1, .int o2, .int o3, .ref a_q0_bestPlace, .ref a_q0_stepCost, .ref a_q0_kind, .ref a_q0_likings])), (a_q0_bestPlace, .inl (cI, 8, .inl o4)), (a_q0_stepCost, .inl (cI, 8, .inl o5)), (a_q0_kind, .inl (cI, 8, .inl o6)), (a_q0_likings, .inl (cI, 64, .inl o7))] H → va_D A [(a_o, .inr (6, [.ref a_o_bytes, .int o_length, .ref a_o_numbers])), (a_o_bytes, .inl (cI, 300, .inl o_bytes)), (a_o_numbers, .inl (cI, 3, .inl o0)), (a_q0, .inr (2, [.int o1, .int o2, .int o3, .ref a_q0_bestPlace, .ref a_q0_stepCost, .ref a_q0_kind, .ref a_q0_likings])), (a_q0_bestPlace, .inl (cI, 8, .inl o4)), (a_q0_stepCost, .inl (cI, 8, .inl o5)), (a_q0_kind, .inl (cI, 8, .inl o6)), (a_q0_likings, .inl (cI, 64, .inl o7))] → va_S A s.heap H locs → W p l e (headSpec (kws yX7_read cX7_read 4 (some .int)) rm_X7_read).room s m ([.ref a_o, .ref a_q0] : List Value).toArray below meth c H locs 0 0 (MQ below (kQi Unit (dC, dI) A res.1 (fun _ => [(a_o, .inr (6, [.ref a_o_bytes, .int o_length, .ref a_o_numbers])), (a_o_bytes, .inl (cI, 300, .inl o_bytes)), (a_o_numbers, .inl (cI, 3, .inl res.2.1)), (a_q0, .inr (2, [.int res.2.2.1, .int res.2.2.2.1, .int res.2.2.2.2.1, .ref a_q0_bestPlace, .ref a_q0_stepCost, .ref a_q0_kind, .ref a_q0_likings])), (a_q0_bestPlace, .inl (cI, 8, .inl res.2.2.2.2.2.1)), (a_q0_stepCost, .inl (cI, 8, .inl res.2.2.2.2.2.2.1)), (a_q0_kind, .inl (cI, 8, .inl res.2.2.2.2.2.2.2.1)), (a_q0_likings, .inl (cI, 64, .inl res.2.2.2.2.2.2.2.2))])) ([.ref a_o, .ref a_q0] : List Value).toArray s 0 0 A) (F0 m pc ls [.int v]) := by
    intro H locs ls pc v o0 o1 o2 o3 o4 o5 o6 o7 he hd hP hD hS
    obtain rfl := Option.some.inj he
    exact kri hx hb hr hlocks () hP hD hS hd
  have hl := lv_entry ([.ref a_o, .ref a_q0]) (n := 4) (Nat.le_of_ble_eq_true rfl)
  rw [lg_entry_eq]
  generalize (lg_sl ([.ref a_o, .ref a_q0]) ++ List.replicate (4 - (lg_sl ([.ref a_o, .ref a_q0])).length) Slot.unset).toArray = ls at hl ⊢
  have hl : lv_has ls 4 [(0, .ref a_o), (1, .ref a_q0)] := hl
  generalize (MQ below _ ([.ref a_o, .ref a_q0] : List Value).toArray s 0 0 A) = Q at hret ⊢
  generalize ([.ref a_o, .ref a_q0] : List Value).toArray = args at ht hret ⊢
  have hP : va_P (dC, dI) vwCl [(a_o, .inr (6, [.ref a_o_bytes, .int o_length, .ref a_o_numbers])), (a_o_bytes, .inl (cI, 300, .inl o_bytes)), (a_o_numbers, .inl (cI, 3, .inl o_numbers)), (a_q0, .inr (2, [.int q0_persons, .int q0_ring, .int q0_highestTold, .ref a_q0_bestPlace, .ref a_q0_stepCost, .ref a_q0_kind, .ref a_q0_likings])), (a_q0_bestPlace, .inl (cI, 8, .inl q0_bestPlace)), (a_q0_stepCost, .inl (cI, 8, .inl q0_stepCost)), (a_q0_kind, .inl (cI, 8, .inl q0_kind)), (a_q0_likings, .inl (cI, 64, .inl q0_likings))] s.heap := hP
  unfold f_X7_read at hf
  have L6 : ∀ (n : Nat) (x2 : Int32) (o_numbers : Nat → Int32) (q0_persons : Int32) (q0_ring : Int32) (q0_highestTold : Int32) (q0_bestPlace : Nat → Int32) (q0_stepCost : Nat → Int32) (q0_kind : Nat → Int32) (q0_likings : Nat → Int32) (H : Heap) (locs : List Loc) (ls : Array Slot), f_X7_read_l6 o_length o_bytes n x2 o_numbers q0_persons q0_ring q0_highestTold q0_bestPlace q0_stepCost q0_kind q0_likings = some res → va_P (dC, dI) vwCl [(a_o, .inr (6, [.ref a_o_bytes, .int o_length, .ref a_o_numbers])), (a_o_bytes, .inl (cI, 300, .inl o_bytes)), (a_o_numbers, .inl (cI, 3, .inl o_numbers)), (a_q0, .inr (2, [.int q0_persons, .int q0_ring, .int q0_highestTold, .ref a_q0_bestPlace, .ref a_q0_stepCost, .ref a_q0_kind, .ref a_q0_likings])), (a_q0_bestPlace, .inl (cI, 8, .inl q0_bestPlace)), (a_q0_stepCost, .inl (cI, 8, .inl q0_stepCost)), (a_q0_kind, .inl (cI, 8, .inl q0_kind)), (a_q0_likings, .inl (cI, 64, .inl q0_likings))] H → va_D A [(a_o, .inr (6, [.ref a_o_bytes, .int o_length, .ref a_o_numbers])), (a_o_bytes, .inl (cI, 300, .inl o_bytes)), (a_o_numbers, .inl (cI, 3, .inl o_numbers)), (a_q0, .inr (2, [.int q0_persons, .int q0_ring, .int q0_highestTold, .ref a_q0_bestPlace, .ref a_q0_stepCost, .ref a_q0_kind, .ref a_q0_likings])), (a_q0_bestPlace, .inl (cI, 8, .inl q0_bestPlace)), (a_q0_stepCost, .inl (cI, 8, .inl q0_stepCost)), (a_q0_kind, .inl (cI, 8, .inl q0_kind)), (a_q0_likings, .inl (cI, 64, .inl q0_likings))] → va_S A s.heap H locs → lv_has ls 4 [(0, .ref a_o), (1, .ref a_q0), (2, .int x2)] → W p l e (headSpec (kws yX7_read cX7_read 4 (some .int)) rm_X7_read).room s m args below meth c H locs 0 0 Q (F0 m 6 ls []) := by
    intro n
    induction n with
    | zero =>
      intro x2 o_numbers q0_persons q0_ring q0_highestTold q0_bestPlace q0_stepCost q0_kind q0_likings H locs ls hf hP hD hS hl
      rw [f_X7_read_l6.eq_1] at hf
      cases hf
    | succ n6 ih6 =>
      intro x2 o_numbers q0_persons q0_ring q0_highestTold q0_bestPlace q0_stepCost q0_kind q0_likings H locs ls hf hP hD hS hl
      rw [f_X7_read_l6.eq_2] at hf
      refine lv_iload_n hx hb dX7_read_6 rfl (lv_at hl 2 rfl) ?_
      refine lv_aload_n hx hb dX7_read_7 rfl (lv_at hl 0 rfl) ?_
      refine va_get (ci := 6) (v := .int o_length) (C := RX7) (T := TX7) (N := 3) hx hb ht inX7 hown hK hP 0 rfl rfl 1 (by decide) (ht _ wd_1_30) (fun _ h9 => h9) rfl dX7_read_8 ?_
      refine lv_icmp_ge (tgt := 33) hx hb dX7_read_11 (by decide) (fun c_1 => ?_) (fun c_1 => ?_)
      · have hf := ifp c_1 hf
        refine lv_iconst (v := (-1 : Int32)) hx hb dX7_read_33 (by decide) ?_
        exact hret H locs ls 34 (-1 : Int32) o_numbers q0_persons q0_ring q0_highestTold q0_bestPlace q0_stepCost q0_kind q0_likings hf dX7_read_34 hP hD hS
      · have hf := ifn c_1 hf
        refine lv_aload_n hx hb dX7_read_14 rfl (lv_at hl 0 rfl) ?_
        refine lv_iload_n hx hb dX7_read_15 rfl (lv_at hl 2 rfl) ?_
        refine lv_aload_n hx hb dX7_read_16 rfl (lv_at hl 1 rfl) ?_
        obtain ⟨u_2, h_3, hf⟩ := obs hf
        refine kcVi (rest := []) (wr := []) (w2 := fun _ => [(a_o, .inr (6, [.ref a_o_bytes, .int o_length, .ref a_o_numbers])), (a_o_bytes, .inl (cI, 300, .inl o_bytes)), (a_o_numbers, .inl (cI, 3, .inl u_2.2.1)), (a_q0, .inr (2, [.int u_2.2.2.1, .int u_2.2.2.2.1, .int u_2.2.2.2.2.1, .ref a_q0_bestPlace, .ref a_q0_stepCost, .ref a_q0_kind, .ref a_q0_likings])), (a_q0_bestPlace, .inl (cI, 8, .inl u_2.2.2.2.2.2.1)), (a_q0_stepCost, .inl (cI, 8, .inl u_2.2.2.2.2.2.2.1)), (a_q0_kind, .inl (cI, 8, .inl u_2.2.2.2.2.2.2.2.1)), (a_q0_likings, .inl (cI, 64, .inl u_2.2.2.2.2.2.2.2.2))]) hx hb hml hown ht (c_X7_readItem l dC dI cI cJ cZ a_o a_o_bytes a_o_numbers a_q0 a_q0_bestPlace a_q0_stepCost a_q0_kind a_q0_likings H.size o_length o_bytes o_numbers q0_persons q0_ring q0_highestTold q0_bestPlace q0_stepCost q0_kind q0_likings x2 u_2 h_3) (kcw 2 ht wd_2_47 wd_1_2 wd_2_44 kd_X7_readItem ⟨rfl, rfl⟩ ⟨Nat.le_of_ble_eq_true rfl, Nat.le_of_ble_eq_true rfl⟩) wd_2_46 wd_s_0 hK hP hD hS hA [0, 1, 2, 3, 4, 5, 6, 7] [] [0, 1, 2, 3, 4, 5, 6, 7] rfl rfl rfl rfl (by decide) rfl (fun _ => rfl) (ci := 6) rfl rfl rfl rfl hl.1 rfl (Nat.le_of_ble_eq_true rfl) dX7_read_17 ⟨Nat.zero_le _, Nat.zero_le _⟩ (fun _ H locs hP hD hS => ?_)
        have hP : va_P (dC, dI) vwCl [(a_o, .inr (6, [.ref a_o_bytes, .int o_length, .ref a_o_numbers])), (a_o_bytes, .inl (cI, 300, .inl o_bytes)), (a_o_numbers, .inl (cI, 3, .inl u_2.2.1)), (a_q0, .inr (2, [.int u_2.2.2.1, .int u_2.2.2.2.1, .int u_2.2.2.2.2.1, .ref a_q0_bestPlace, .ref a_q0_stepCost, .ref a_q0_kind, .ref a_q0_likings])), (a_q0_bestPlace, .inl (cI, 8, .inl u_2.2.2.2.2.2.1)), (a_q0_stepCost, .inl (cI, 8, .inl u_2.2.2.2.2.2.2.1)), (a_q0_kind, .inl (cI, 8, .inl u_2.2.2.2.2.2.2.2.1)), (a_q0_likings, .inl (cI, 64, .inl u_2.2.2.2.2.2.2.2.2))] H := hP
        have hD : va_D A [(a_o, .inr (6, [.ref a_o_bytes, .int o_length, .ref a_o_numbers])), (a_o_bytes, .inl (cI, 300, .inl o_bytes)), (a_o_numbers, .inl (cI, 3, .inl u_2.2.1)), (a_q0, .inr (2, [.int u_2.2.2.1, .int u_2.2.2.2.1, .int u_2.2.2.2.2.1, .ref a_q0_bestPlace, .ref a_q0_stepCost, .ref a_q0_kind, .ref a_q0_likings])), (a_q0_bestPlace, .inl (cI, 8, .inl u_2.2.2.2.2.2.1)), (a_q0_stepCost, .inl (cI, 8, .inl u_2.2.2.2.2.2.2.1)), (a_q0_kind, .inl (cI, 8, .inl u_2.2.2.2.2.2.2.2.1)), (a_q0_likings, .inl (cI, 64, .inl u_2.2.2.2.2.2.2.2.2))] := hD
        refine lv_istore_n (lv' := [(3, .int u_2.1), (0, .ref a_o), (1, .ref a_q0), (2, .int x2)]) hx hb dX7_read_20 rfl hl (by decide) rfl (fun ls hl => ?_)
        refine lv_iload_n hx hb dX7_read_21 rfl (lv_at hl 0 rfl) ?_
        refine lv_iload_n hx hb dX7_read_22 rfl (lv_at hl 3 rfl) ?_
        refine lv_icmp_gt (tgt := 28) hx hb dX7_read_23 (by decide) (fun c_4 => ?_) (fun c_4 => ?_)
        · have hf := ifp c_4 hf
          refine lv_iload_n hx hb dX7_read_28 rfl (lv_at hl 0 rfl) ?_
          refine lv_istore_n (lv' := [(2, .int u_2.1), (3, .int u_2.1), (0, .ref a_o), (1, .ref a_q0)]) hx hb dX7_read_29 rfl hl (by decide) rfl (fun ls hl => ?_)
          refine lv_goto (tgt := 6) hx hb dX7_read_30 (by decide) ?_
          exact ih6 u_2.1 u_2.2.1 u_2.2.2.1 u_2.2.2.2.1 u_2.2.2.2.2.1 u_2.2.2.2.2.2.1 u_2.2.2.2.2.2.2.1 u_2.2.2.2.2.2.2.2.1 u_2.2.2.2.2.2.2.2.2 H locs ls hf hP hD hS (lv_sub hl [2, 3, 0] rfl)
        · have hf := ifn c_4 hf
          refine lv_iload_n hx hb dX7_read_26 rfl (lv_at hl 3 rfl) ?_
          exact hret H locs ls 27 x2 u_2.2.1 u_2.2.2.1 u_2.2.2.2.1 u_2.2.2.2.2.1 u_2.2.2.2.2.2.1 u_2.2.2.2.2.2.2.1 u_2.2.2.2.2.2.2.2.1 u_2.2.2.2.2.2.2.2.2 hf dX7_read_27 hP hD hS
  obtain ⟨H, hH⟩ : ∃ H, H = s.heap := ⟨_, rfl⟩
  obtain ⟨locs, hlo⟩ : ∃ L : List Loc, L = [] := ⟨_, rfl⟩
  rw [← hH] at hP
  have hS : va_S A s.heap H locs := by rw [hH, hlo]; exact hS
  rw [show W p l e (headSpec (kws yX7_read cX7_read 4 (some .int)) rm_X7_read).room s m args below meth c s.heap [] 0 0 Q (F0 m 0 ls []) = W p l e (headSpec (kws yX7_read cX7_read 4 (some .int)) rm_X7_read).room s m args below meth c H locs 0 0 Q (F0 m 0 ls []) from by rw [hH, hlo]]
  refine lv_aload_n hx hb dX7_read_0 rfl (lv_at hl 1 rfl) ?_
  obtain ⟨u_5, h_6, hf⟩ := obs hf
  refine kcVv (rest := []) (wr := [(a_o, .inr (6, [.ref a_o_bytes, .int o_length, .ref a_o_numbers])), (a_o_bytes, .inl (cI, 300, .inl o_bytes)), (a_o_numbers, .inl (cI, 3, .inl o_numbers)), (a_q0_bestPlace, .inl (cI, 8, .inl q0_bestPlace)), (a_q0_stepCost, .inl (cI, 8, .inl q0_stepCost)), (a_q0_kind, .inl (cI, 8, .inl q0_kind))]) (w2 := fun _ => [(a_o, .inr (6, [.ref a_o_bytes, .int o_length, .ref a_o_numbers])), (a_o_bytes, .inl (cI, 300, .inl o_bytes)), (a_o_numbers, .inl (cI, 3, .inl o_numbers)), (a_q0, .inr (2, [.int u_5.1, .int u_5.2.1, .int u_5.2.2.1, .ref a_q0_bestPlace, .ref a_q0_stepCost, .ref a_q0_kind, .ref a_q0_likings])), (a_q0_bestPlace, .inl (cI, 8, .inl q0_bestPlace)), (a_q0_stepCost, .inl (cI, 8, .inl q0_stepCost)), (a_q0_kind, .inl (cI, 8, .inl q0_kind)), (a_q0_likings, .inl (cI, 64, .inl u_5.2.2.2))]) hx hb hml hown ht (c_X2_clear l dC dI cI cJ cZ a_q0 a_q0_bestPlace a_q0_stepCost a_q0_kind a_q0_likings H.size q0_persons q0_ring q0_highestTold q0_likings u_5 h_6) (kcw 0 ht wd_1_50 wd_1_3 wd_2_43 kd_X2_clear ⟨rfl, rfl⟩ ⟨Nat.le_of_ble_eq_true rfl, Nat.le_of_ble_eq_true rfl⟩) wd_1_48 wd_1_49 hK hP hD hS hA [3, 7] [0, 1, 2, 4, 5, 6] [0, 1, 2, 6, 3, 4, 5, 7] rfl rfl rfl rfl (by decide) rfl (fun _ => rfl) (ci := 2) rfl rfl rfl rfl hl.1 rfl (Nat.le_of_ble_eq_true rfl) dX7_read_1 ⟨Nat.zero_le _, Nat.zero_le _⟩ (fun _ H locs hP hD hS => ?_)
  have hP : va_P (dC, dI) vwCl [(a_o, .inr (6, [.ref a_o_bytes, .int o_length, .ref a_o_numbers])), (a_o_bytes, .inl (cI, 300, .inl o_bytes)), (a_o_numbers, .inl (cI, 3, .inl o_numbers)), (a_q0, .inr (2, [.int u_5.1, .int u_5.2.1, .int u_5.2.2.1, .ref a_q0_bestPlace, .ref a_q0_stepCost, .ref a_q0_kind, .ref a_q0_likings])), (a_q0_bestPlace, .inl (cI, 8, .inl q0_bestPlace)), (a_q0_stepCost, .inl (cI, 8, .inl q0_stepCost)), (a_q0_kind, .inl (cI, 8, .inl q0_kind)), (a_q0_likings, .inl (cI, 64, .inl u_5.2.2.2))] H := hP
  have hD : va_D A [(a_o, .inr (6, [.ref a_o_bytes, .int o_length, .ref a_o_numbers])), (a_o_bytes, .inl (cI, 300, .inl o_bytes)), (a_o_numbers, .inl (cI, 3, .inl o_numbers)), (a_q0, .inr (2, [.int u_5.1, .int u_5.2.1, .int u_5.2.2.1, .ref a_q0_bestPlace, .ref a_q0_stepCost, .ref a_q0_kind, .ref a_q0_likings])), (a_q0_bestPlace, .inl (cI, 8, .inl q0_bestPlace)), (a_q0_stepCost, .inl (cI, 8, .inl q0_stepCost)), (a_q0_kind, .inl (cI, 8, .inl q0_kind)), (a_q0_likings, .inl (cI, 64, .inl u_5.2.2.2))] := hD
  refine lv_iconst (v := (0 : Int32)) hx hb dX7_read_4 (by decide) ?_
  refine lv_istore_n (lv' := [(2, .int (0 : Int32)), (0, .ref a_o), (1, .ref a_q0)]) hx hb dX7_read_5 rfl hl (by decide) rfl (fun ls hl => ?_)
  exact L6 NF (0 : Int32) o_numbers u_5.1 u_5.2.1 u_5.2.2.1 q0_bestPlace q0_stepCost q0_kind u_5.2.2.2 H locs ls hf hP hD hS (lv_sub hl [1, 2, 0] rfl)
def f_X6_add (x1 : Int32) (x2 : Int32) (x3 : Int32) (x4 : Int32) (o_size : Int32) (o_who : Nat → Int32) (o_from : Nat → Int32) (o_to : Nat → Int32) (o_yes : Nat → Int32) : Option (Int32 × Int32 × (Nat → Int32) × (Nat → Int32) × (Nat → Int32) × (Nat → Int32)) := if o_size < (8 : Int32) then bd o_size 8 (bd o_size 8 (bd o_size 8 (bd o_size 8 (some ((1 : Int32), (o_size + (1 : Int32)), (upd o_who o_size.toNatClampNeg x1), (upd o_from o_size.toNatClampNeg x2), (upd o_to o_size.toNatClampNeg x3), (upd o_yes o_size.toNatClampNeg (vp_nar .boolean x4))))))) else some ((0 : Int32), o_size, o_who, o_from, o_to, o_yes)
abbrev rm_X6_add : Room := { frames := 0, cells := 0, slots := 0, locals := 0 }
theorem kd_X6_add : yX6_add.cls ≠ "java/lang/invoke/MethodHandle" ∧ yX6_add.cls ≠ "java/lang/invoke/VarHandle" ∧ (parseMethodDescriptor yX6_add.desc).map (fun d => d.parameters.length) = some 4 := by decide +kernel
set_option maxHeartbeats 4000000 in
set_option maxRecDepth 100000 in
theorem c_X6_add (l : Launch) (dC : Nat → ClassId) (dI : Nat → Nat → Nat) (cI cJ cZ : ClassId) (a_o a_o_who a_o_from a_o_to a_o_yes : Nat) (sz : Nat) (o_size : Int32) (o_who : Nat → Int32) (o_from : Nat → Int32) (o_to : Nat → Int32) (o_yes : Nat → Int32) (x1 : Int32) (x2 : Int32) (x3 : Int32) (x4 : Int32) (res : Int32 × Int32 × (Nat → Int32) × (Nat → Int32) × (Nat → Int32) × (Nat → Int32)) (hf : f_X6_add x1 x2 x3 x4 o_size o_who o_from o_to o_yes = some res) : kMi Unit l yX6_add cX6_add 5 (some .boolean) rm_X6_add [.ref a_o, .int x1, .int x2, .int x3, .int x4] (dC, dI) (kT cI cJ cZ) sz [(a_o, .inr (5, [.ref a_o_who, .ref a_o_from, .ref a_o_to, .ref a_o_yes, .int o_size])), (a_o_who, .inl (cI, 8, .inl o_who)), (a_o_from, .inl (cI, 8, .inl o_from)), (a_o_to, .inl (cI, 8, .inl o_to)), (a_o_yes, .inl (cZ, 8, .inl o_yes))] res.1 (fun _ => [(a_o, .inr (5, [.ref a_o_who, .ref a_o_from, .ref a_o_to, .ref a_o_yes, .int res.2.1])), (a_o_who, .inl (cI, 8, .inl res.2.2.1)), (a_o_from, .inl (cI, 8, .inl res.2.2.2.1)), (a_o_to, .inl (cI, 8, .inl res.2.2.2.2.1)), (a_o_yes, .inl (cZ, 8, .inl res.2.2.2.2.2))]) := by
  refine Met.ofW (cc := cX6_add) (maxL := 5) (ret := (some .boolean)) (by decide) rfl ?_
  intro p e s m args below meth c s₁ B hml hv
  obtain ⟨rfl, hsz, hP, hK, hD0⟩ := hv
  have hx := B.exec
  have hb := B.bytes
  have hr := B.returns
  have ht : ∀ w ∈ lw_g, w.before ([.ref a_o, .int x1, .int x2, .int x3, .int x4] : List Value).toArray s = true := fun w h => atoms_spec (ws := kws yX6_add cX6_add 5 (some .boolean)) B.pre w (List.mem_cons_of_mem _ h)
  have hown : s.vm.findClass RX6 = some m.cls := findClass_of_methodNamed B.named
  have hlocks := B.notSynchronized
  subst hsz
  have hD := hD0.self (sz := s.heap.size)
  generalize hAe : va_A [(a_o, .inr (5, [.ref a_o_who, .ref a_o_from, .ref a_o_to, .ref a_o_yes, .int o_size])), (a_o_who, .inl (cI, 8, .inl o_who)), (a_o_from, .inl (cI, 8, .inl o_from)), (a_o_to, .inl (cI, 8, .inl o_to)), (a_o_yes, .inl (cZ, 8, .inl o_yes))] s.heap.size = A at hD ⊢
  have hA : ∀ q : Nat, s.heap.size ≤ q → A q := fun q h => by rw [← hAe]; exact Or.inr h
  have hS : va_S A s.heap s.heap [] := va_S.rf
  have hret : ∀ (H : Heap) (locs : List Loc) (ls : Array Slot) (pc : Nat) (v : Int32) (o0 : Int32) (o1 : Nat → Int32) (o2 : Nat → Int32) (o3 : Nat → Int32) (o4 : Nat → Int32), some (v, o0, o1, o2, o3, o4) = some res → (v = 0 ∨ v = 1) → decode cX6_add pc = .ok (.ireturn, 1) → va_P (dC, dI) vwCl [(a_o, .inr (5, [.ref a_o_who, .ref a_o_from, .ref a_o_to, .ref a_o_yes, .int o0])), (a_o_who, .inl (cI, 8, .inl o1)), (a_o_from, .inl (cI, 8, .inl o2)), (a_o_to, .inl (cI, 8, .inl o3)), (a_o_yes, .inl (cZ, 8, .inl o4))] H → va_D A [(a_o, .inr (5, [.ref a_o_who, .ref a_o_from, .ref a_o_to, .ref a_o_yes, .int o0])), (a_o_who, .inl (cI, 8, .inl o1)), (a_o_from, .inl (cI, 8, .inl o2)), (a_o_to, .inl (cI, 8, .inl o3)), (a_o_yes, .inl (cZ, 8, .inl o4))] → va_S A s.heap H locs → W p l e (headSpec (kws yX6_add cX6_add 5 (some .boolean)) rm_X6_add).room s m ([.ref a_o, .int x1, .int x2, .int x3, .int x4] : List Value).toArray below meth c H locs 0 0 (MQ below (kQi Unit (dC, dI) A res.1 (fun _ => [(a_o, .inr (5, [.ref a_o_who, .ref a_o_from, .ref a_o_to, .ref a_o_yes, .int res.2.1])), (a_o_who, .inl (cI, 8, .inl res.2.2.1)), (a_o_from, .inl (cI, 8, .inl res.2.2.2.1)), (a_o_to, .inl (cI, 8, .inl res.2.2.2.2.1)), (a_o_yes, .inl (cZ, 8, .inl res.2.2.2.2.2))])) ([.ref a_o, .int x1, .int x2, .int x3, .int x4] : List Value).toArray s 0 0 A) (F0 m pc ls [.int v]) := by
    intro H locs ls pc v o0 o1 o2 o3 o4 he hz hd hP hD hS
    obtain rfl := Option.some.inj he
    exact krz hx hb hr hlocks () hz hP hD hS hd
  have hl := lv_entry ([.ref a_o, .int x1, .int x2, .int x3, .int x4]) (n := 5) (Nat.le_of_ble_eq_true rfl)
  rw [lg_entry_eq]
  generalize (lg_sl ([.ref a_o, .int x1, .int x2, .int x3, .int x4]) ++ List.replicate (5 - (lg_sl ([.ref a_o, .int x1, .int x2, .int x3, .int x4])).length) Slot.unset).toArray = ls at hl ⊢
  have hl : lv_has ls 5 [(0, .ref a_o), (1, .int x1), (2, .int x2), (3, .int x3), (4, .int x4)] := hl
  generalize (MQ below _ ([.ref a_o, .int x1, .int x2, .int x3, .int x4] : List Value).toArray s 0 0 A) = Q at hret ⊢
  generalize ([.ref a_o, .int x1, .int x2, .int x3, .int x4] : List Value).toArray = args at ht hret ⊢
  have hP : va_P (dC, dI) vwCl [(a_o, .inr (5, [.ref a_o_who, .ref a_o_from, .ref a_o_to, .ref a_o_yes, .int o_size])), (a_o_who, .inl (cI, 8, .inl o_who)), (a_o_from, .inl (cI, 8, .inl o_from)), (a_o_to, .inl (cI, 8, .inl o_to)), (a_o_yes, .inl (cZ, 8, .inl o_yes))] s.heap := hP
  unfold f_X6_add at hf
  obtain ⟨H, hH⟩ : ∃ H, H = s.heap := ⟨_, rfl⟩
  obtain ⟨locs, hlo⟩ : ∃ L : List Loc, L = [] := ⟨_, rfl⟩
  rw [← hH] at hP
  have hS : va_S A s.heap H locs := by rw [hH, hlo]; exact hS
  rw [show W p l e (headSpec (kws yX6_add cX6_add 5 (some .boolean)) rm_X6_add).room s m args below meth c s.heap [] 0 0 Q (F0 m 0 ls []) = W p l e (headSpec (kws yX6_add cX6_add 5 (some .boolean)) rm_X6_add).room s m args below meth c H locs 0 0 Q (F0 m 0 ls []) from by rw [hH, hlo]]
  refine lv_aload_n hx hb dX6_add_0 rfl (lv_at hl 0 rfl) ?_
  refine va_get (ci := 5) (v := .int o_size) (C := RX6) (T := TX6) (N := 5) hx hb ht inX6 hown hK hP 0 rfl rfl 4 (by decide) (ht _ wd_1_110) (fun _ h9 => h9) rfl dX6_add_1 ?_
  refine lv_bipush (v := (8 : Int32)) hx hb dX6_add_4 (by decide) ?_
  refine lv_icmp_lt (tgt := 11) hx hb dX6_add_6 (by decide) (fun c_1 => ?_) (fun c_1 => ?_)
  · have hf := ifp c_1 hf
    refine lv_aload_n hx hb dX6_add_11 rfl (lv_at hl 0 rfl) ?_
    refine va_get (ci := 5) (v := .ref a_o_who) (C := RX6) (T := TX6) (N := 5) hx hb ht inX6 hown hK hP 0 rfl rfl 0 (by decide) (ht _ wd_1_106) (fun _ h9 => h9) rfl dX6_add_12 ?_
    refine lv_aload_n hx hb dX6_add_15 rfl (lv_at hl 0 rfl) ?_
    refine va_get (ci := 5) (v := .int o_size) (C := RX6) (T := TX6) (N := 5) hx hb ht inX6 hown hK hP 0 rfl rfl 4 (by decide) (ht _ wd_1_110) (fun _ h9 => h9) rfl dX6_add_16 ?_
    refine lv_iload_n hx hb dX6_add_19 rfl (lv_at hl 1 rfl) ?_
    obtain ⟨b_2, hf⟩ := bd_some hf
    refine va_iast hx hb hK hP hD hS 1 0 rfl rfl b_2 dX6_add_20 (fun H locs hP hD hS => ?_)
    have hP : va_P (dC, dI) vwCl [(a_o, .inr (5, [.ref a_o_who, .ref a_o_from, .ref a_o_to, .ref a_o_yes, .int o_size])), (a_o_who, .inl (cI, 8, .inl (upd o_who o_size.toNatClampNeg x1))), (a_o_from, .inl (cI, 8, .inl o_from)), (a_o_to, .inl (cI, 8, .inl o_to)), (a_o_yes, .inl (cZ, 8, .inl o_yes))] H := hP
    have hD : va_D A [(a_o, .inr (5, [.ref a_o_who, .ref a_o_from, .ref a_o_to, .ref a_o_yes, .int o_size])), (a_o_who, .inl (cI, 8, .inl (upd o_who o_size.toNatClampNeg x1))), (a_o_from, .inl (cI, 8, .inl o_from)), (a_o_to, .inl (cI, 8, .inl o_to)), (a_o_yes, .inl (cZ, 8, .inl o_yes))] := hD
    refine lv_aload_n hx hb dX6_add_21 rfl (lv_at hl 0 rfl) ?_
    refine va_get (ci := 5) (v := .ref a_o_from) (C := RX6) (T := TX6) (N := 5) hx hb ht inX6 hown hK hP 0 rfl rfl 1 (by decide) (ht _ wd_1_107) (fun _ h9 => h9) rfl dX6_add_22 ?_
    refine lv_aload_n hx hb dX6_add_25 rfl (lv_at hl 0 rfl) ?_
    refine va_get (ci := 5) (v := .int o_size) (C := RX6) (T := TX6) (N := 5) hx hb ht inX6 hown hK hP 0 rfl rfl 4 (by decide) (ht _ wd_1_110) (fun _ h9 => h9) rfl dX6_add_26 ?_
    refine lv_iload_n hx hb dX6_add_29 rfl (lv_at hl 2 rfl) ?_
    obtain ⟨b_3, hf⟩ := bd_some hf
    refine va_iast hx hb hK hP hD hS 2 0 rfl rfl b_3 dX6_add_30 (fun H locs hP hD hS => ?_)
    have hP : va_P (dC, dI) vwCl [(a_o, .inr (5, [.ref a_o_who, .ref a_o_from, .ref a_o_to, .ref a_o_yes, .int o_size])), (a_o_who, .inl (cI, 8, .inl (upd o_who o_size.toNatClampNeg x1))), (a_o_from, .inl (cI, 8, .inl (upd o_from o_size.toNatClampNeg x2))), (a_o_to, .inl (cI, 8, .inl o_to)), (a_o_yes, .inl (cZ, 8, .inl o_yes))] H := hP
    have hD : va_D A [(a_o, .inr (5, [.ref a_o_who, .ref a_o_from, .ref a_o_to, .ref a_o_yes, .int o_size])), (a_o_who, .inl (cI, 8, .inl (upd o_who o_size.toNatClampNeg x1))), (a_o_from, .inl (cI, 8, .inl (upd o_from o_size.toNatClampNeg x2))), (a_o_to, .inl (cI, 8, .inl o_to)), (a_o_yes, .inl (cZ, 8, .inl o_yes))] := hD
    refine lv_aload_n hx hb dX6_add_31 rfl (lv_at hl 0 rfl) ?_
    refine va_get (ci := 5) (v := .ref a_o_to) (C := RX6) (T := TX6) (N := 5) hx hb ht inX6 hown hK hP 0 rfl rfl 2 (by decide) (ht _ wd_1_108) (fun _ h9 => h9) rfl dX6_add_32 ?_
    refine lv_aload_n hx hb dX6_add_35 rfl (lv_at hl 0 rfl) ?_
    refine va_get (ci := 5) (v := .int o_size) (C := RX6) (T := TX6) (N := 5) hx hb ht inX6 hown hK hP 0 rfl rfl 4 (by decide) (ht _ wd_1_110) (fun _ h9 => h9) rfl dX6_add_36 ?_
    refine lv_iload_n hx hb dX6_add_39 rfl (lv_at hl 3 rfl) ?_
    obtain ⟨b_4, hf⟩ := bd_some hf
    refine va_iast hx hb hK hP hD hS 3 0 rfl rfl b_4 dX6_add_40 (fun H locs hP hD hS => ?_)
    have hP : va_P (dC, dI) vwCl [(a_o, .inr (5, [.ref a_o_who, .ref a_o_from, .ref a_o_to, .ref a_o_yes, .int o_size])), (a_o_who, .inl (cI, 8, .inl (upd o_who o_size.toNatClampNeg x1))), (a_o_from, .inl (cI, 8, .inl (upd o_from o_size.toNatClampNeg x2))), (a_o_to, .inl (cI, 8, .inl (upd o_to o_size.toNatClampNeg x3))), (a_o_yes, .inl (cZ, 8, .inl o_yes))] H := hP
    have hD : va_D A [(a_o, .inr (5, [.ref a_o_who, .ref a_o_from, .ref a_o_to, .ref a_o_yes, .int o_size])), (a_o_who, .inl (cI, 8, .inl (upd o_who o_size.toNatClampNeg x1))), (a_o_from, .inl (cI, 8, .inl (upd o_from o_size.toNatClampNeg x2))), (a_o_to, .inl (cI, 8, .inl (upd o_to o_size.toNatClampNeg x3))), (a_o_yes, .inl (cZ, 8, .inl o_yes))] := hD
    refine lv_aload_n hx hb dX6_add_41 rfl (lv_at hl 0 rfl) ?_
    refine va_get (ci := 5) (v := .ref a_o_yes) (C := RX6) (T := TX6) (N := 5) hx hb ht inX6 hown hK hP 0 rfl rfl 3 (by decide) (ht _ wd_1_109) (fun _ h9 => h9) rfl dX6_add_42 ?_
    refine lv_aload_n hx hb dX6_add_45 rfl (lv_at hl 0 rfl) ?_
    refine va_get (ci := 5) (v := .int o_size) (C := RX6) (T := TX6) (N := 5) hx hb ht inX6 hown hK hP 0 rfl rfl 4 (by decide) (ht _ wd_1_110) (fun _ h9 => h9) rfl dX6_add_46 ?_
    refine lv_iload hx hb dX6_add_49 (lv_at hl 4 rfl) ?_
    obtain ⟨b_5, hf⟩ := bd_some hf
    refine va_zast hx hb hK hP hD hS 4 2 rfl rfl b_5 dX6_add_51 (fun H locs hP hD hS => ?_)
    have hP : va_P (dC, dI) vwCl [(a_o, .inr (5, [.ref a_o_who, .ref a_o_from, .ref a_o_to, .ref a_o_yes, .int o_size])), (a_o_who, .inl (cI, 8, .inl (upd o_who o_size.toNatClampNeg x1))), (a_o_from, .inl (cI, 8, .inl (upd o_from o_size.toNatClampNeg x2))), (a_o_to, .inl (cI, 8, .inl (upd o_to o_size.toNatClampNeg x3))), (a_o_yes, .inl (cZ, 8, .inl (upd o_yes o_size.toNatClampNeg (vp_nar .boolean x4))))] H := hP
    have hD : va_D A [(a_o, .inr (5, [.ref a_o_who, .ref a_o_from, .ref a_o_to, .ref a_o_yes, .int o_size])), (a_o_who, .inl (cI, 8, .inl (upd o_who o_size.toNatClampNeg x1))), (a_o_from, .inl (cI, 8, .inl (upd o_from o_size.toNatClampNeg x2))), (a_o_to, .inl (cI, 8, .inl (upd o_to o_size.toNatClampNeg x3))), (a_o_yes, .inl (cZ, 8, .inl (upd o_yes o_size.toNatClampNeg (vp_nar .boolean x4))))] := hD
    refine lv_aload_n hx hb dX6_add_52 rfl (lv_at hl 0 rfl) ?_
    refine lv_dup hx hb dX6_add_53 rfl ?_
    refine va_get (ci := 5) (v := .int o_size) (C := RX6) (T := TX6) (N := 5) hx hb ht inX6 hown hK hP 0 rfl rfl 4 (by decide) (ht _ wd_1_110) (fun _ h9 => h9) rfl dX6_add_54 ?_
    refine lv_iconst (v := (1 : Int32)) hx hb dX6_add_57 (by decide) ?_
    refine lv_iadd hx hb dX6_add_58 ?_
    refine va_put (ci := 5) (v := .int (o_size + (1 : Int32))) (ty := .int) (C := RX6) (T := TX6) (N := 5) hx hb ht inX6 tyX6 tyX6_ok nmX6 hown hK hP hD hS 0 rfl rfl 4 (by decide) (ht _ wd_1_110) (fun _ h9 => h9) rfl (tyX6_ok 4 (by decide)) rfl rfl (Nat.le_of_ble_eq_true rfl) dX6_add_59 (fun H locs hP hD hS => ?_)
    have hP : va_P (dC, dI) vwCl [(a_o, .inr (5, [.ref a_o_who, .ref a_o_from, .ref a_o_to, .ref a_o_yes, .int (o_size + (1 : Int32))])), (a_o_who, .inl (cI, 8, .inl (upd o_who o_size.toNatClampNeg x1))), (a_o_from, .inl (cI, 8, .inl (upd o_from o_size.toNatClampNeg x2))), (a_o_to, .inl (cI, 8, .inl (upd o_to o_size.toNatClampNeg x3))), (a_o_yes, .inl (cZ, 8, .inl (upd o_yes o_size.toNatClampNeg (vp_nar .boolean x4))))] H := hP
    have hD : va_D A [(a_o, .inr (5, [.ref a_o_who, .ref a_o_from, .ref a_o_to, .ref a_o_yes, .int (o_size + (1 : Int32))])), (a_o_who, .inl (cI, 8, .inl (upd o_who o_size.toNatClampNeg x1))), (a_o_from, .inl (cI, 8, .inl (upd o_from o_size.toNatClampNeg x2))), (a_o_to, .inl (cI, 8, .inl (upd o_to o_size.toNatClampNeg x3))), (a_o_yes, .inl (cZ, 8, .inl (upd o_yes o_size.toNatClampNeg (vp_nar .boolean x4))))] := hD
    refine lv_iconst (v := (1 : Int32)) hx hb dX6_add_62 (by decide) ?_
    exact hret H locs ls 63 (1 : Int32) (o_size + (1 : Int32)) (upd o_who o_size.toNatClampNeg x1) (upd o_from o_size.toNatClampNeg x2) (upd o_to o_size.toNatClampNeg x3) (upd o_yes o_size.toNatClampNeg (vp_nar .boolean x4)) hf (Or.inr rfl) dX6_add_63 hP hD hS
  · have hf := ifn c_1 hf
    refine lv_iconst (v := (0 : Int32)) hx hb dX6_add_9 (by decide) ?_
    exact hret H locs ls 10 (0 : Int32) o_size o_who o_from o_to o_yes hf (Or.inl rfl) dX6_add_10 hP hD hS
def f_X6_allow_b96 (o_size : Int32) (o_who : Nat → Int32) (o_from : Nat → Int32) (o_to : Nat → Int32) (o_yes : Nat → Int32) (q0_persons : Int32) (q0_ring : Int32) (q0_stepCost : Nat → Int32) (q0_kind : Nat → Int32) (K3 : Int32 → Int32 → Int32 → Option (Int32)) (x2 : Int32) (x3 : Int32) (x4 : Int32) : Option (Int32) := K3 x2 x3 (x4 + (1 : Int32))
def f_X6_allow_b69 (o_size : Int32) (o_who : Nat → Int32) (o_from : Nat → Int32) (o_to : Nat → Int32) (o_yes : Nat → Int32) (q0_persons : Int32) (q0_ring : Int32) (q0_stepCost : Nat → Int32) (q0_kind : Nat → Int32) (K3 : Int32 → Int32 → Int32 → Option (Int32)) (x2 : Int32) (x3 : Int32) (x4 : Int32) (t0 : Int32) : Option (Int32) := bd x4 8 (if (o_who x4.toNatClampNeg) = x2 then bd x4 8 (if t0 = (o_yes x4.toNatClampNeg) then f_X6_allow_b96 o_size o_who o_from o_to o_yes q0_persons q0_ring q0_stepCost q0_kind K3 x2 x3 x4 else some (0 : Int32)) else f_X6_allow_b96 o_size o_who o_from o_to o_yes q0_persons q0_ring q0_stepCost q0_kind K3 x2 x3 x4)
def f_X6_allow_l3 (o_size : Int32) (o_who : Nat → Int32) (o_from : Nat → Int32) (o_to : Nat → Int32) (o_yes : Nat → Int32) (q0_persons : Int32) (q0_ring : Int32) (q0_stepCost : Nat → Int32) (q0_kind : Nat → Int32) : Nat → Int32 → Int32 → Int32 → Option (Int32)
  | 0, _, _, _ => none
  | n + 1, x2, x3, x4 => if o_size ≤ x4 then some (1 : Int32) else bd x4 8 (Option.bind (f_X2_far (o_from x4.toNatClampNeg) x3 q0_persons q0_ring) (fun u_7 => bd x4 8 (Option.bind (f_X2_far (o_to x4.toNatClampNeg) x3 q0_persons q0_ring) (fun u_10 => bd x2 8 (bd x2 8 (Option.bind (f_X2_missing (q0_kind x2.toNatClampNeg) ((q0_stepCost x2.toNatClampNeg) * (u_7 - u_10))) (fun u_14 => if u_14 = 0 then f_X6_allow_b69 o_size o_who o_from o_to o_yes q0_persons q0_ring q0_stepCost q0_kind (f_X6_allow_l3 o_size o_who o_from o_to o_yes q0_persons q0_ring q0_stepCost q0_kind n) x2 x3 x4 (1 : Int32) else f_X6_allow_b69 o_size o_who o_from o_to o_yes q0_persons q0_ring q0_stepCost q0_kind (f_X6_allow_l3 o_size o_who o_from o_to o_yes q0_persons q0_ring q0_stepCost q0_kind n) x2 x3 x4 (0 : Int32))))))))
def f_X6_allow (x2 : Int32) (x3 : Int32) (o_size : Int32) (o_who : Nat → Int32) (o_from : Nat → Int32) (o_to : Nat → Int32) (o_yes : Nat → Int32) (q0_persons : Int32) (q0_ring : Int32) (q0_stepCost : Nat → Int32) (q0_kind : Nat → Int32) : Option (Int32) := f_X6_allow_l3 o_size o_who o_from o_to o_yes q0_persons q0_ring q0_stepCost q0_kind NF x2 x3 (0 : Int32)
abbrev rm_X6_allow : Room := { frames := 2, cells := 0, slots := 0, locals := 45 }
theorem kd_X6_allow : yX6_allow.cls ≠ "java/lang/invoke/MethodHandle" ∧ yX6_allow.cls ≠ "java/lang/invoke/VarHandle" ∧ (parseMethodDescriptor yX6_allow.desc).map (fun d => d.parameters.length) = some 3 := by decide +kernel
set_option maxHeartbeats 4000000 in
set_option maxRecDepth 100000 in
theorem c_X6_allow (l : Launch) (dC : Nat → ClassId) (dI : Nat → Nat → Nat) (cI cJ cZ : ClassId) (a_o a_o_who a_o_from a_o_to a_o_yes a_q0 a_q0_bestPlace a_q0_stepCost a_q0_kind a_q0_likings : Nat) (sz : Nat) (o_size : Int32) (o_who : Nat → Int32) (o_from : Nat → Int32) (o_to : Nat → Int32) (o_yes : Nat → Int32) (q0_persons : Int32) (q0_ring : Int32) (q0_highestTold : Int32) (q0_stepCost : Nat → Int32) (q0_kind : Nat → Int32) (x2 : Int32) (x3 : Int32) (res : Int32) (hf : f_X6_allow x2 x3 o_size o_who o_from o_to o_yes q0_persons q0_ring q0_stepCost q0_kind = some res) : kMi Unit l yX6_allow cX6_allow 8 (some .boolean) rm_X6_allow [.ref a_o, .ref a_q0, .int x2, .int x3] (dC, dI) (kT cI cJ cZ) sz [(a_o, .inr (5, [.ref a_o_who, .ref a_o_from, .ref a_o_to, .ref a_o_yes, .int o_size])), (a_o_who, .inl (cI, 8, .inl o_who)), (a_o_from, .inl (cI, 8, .inl o_from)), (a_o_to, .inl (cI, 8, .inl o_to)), (a_o_yes, .inl (cZ, 8, .inl o_yes)), (a_q0, .inr (2, [.int q0_persons, .int q0_ring, .int q0_highestTold, .ref a_q0_bestPlace, .ref a_q0_stepCost, .ref a_q0_kind, .ref a_q0_likings])), (a_q0_stepCost, .inl (cI, 8, .inl q0_stepCost)), (a_q0_kind, .inl (cI, 8, .inl q0_kind))] res (fun _ => [(a_o, .inr (5, [.ref a_o_who, .ref a_o_from, .ref a_o_to, .ref a_o_yes, .int o_size])), (a_o_who, .inl (cI, 8, .inl o_who)), (a_o_from, .inl (cI, 8, .inl o_from)), (a_o_to, .inl (cI, 8, .inl o_to)), (a_o_yes, .inl (cZ, 8, .inl o_yes)), (a_q0, .inr (2, [.int q0_persons, .int q0_ring, .int q0_highestTold, .ref a_q0_bestPlace, .ref a_q0_stepCost, .ref a_q0_kind, .ref a_q0_likings])), (a_q0_stepCost, .inl (cI, 8, .inl q0_stepCost)), (a_q0_kind, .inl (cI, 8, .inl q0_kind))]) := by
  refine Met.ofW (cc := cX6_allow) (maxL := 8) (ret := (some .boolean)) (by decide) rfl ?_
  intro p e s m args below meth c s₁ B hml hv
  obtain ⟨rfl, hsz, hP, hK, hD0⟩ := hv
  have hx := B.exec
  have hb := B.bytes
  have hr := B.returns
  have ht : ∀ w ∈ lw_g, w.before ([.ref a_o, .ref a_q0, .int x2, .int x3] : List Value).toArray s = true := fun w h => atoms_spec (ws := kws yX6_allow cX6_allow 8 (some .boolean)) B.pre w (List.mem_cons_of_mem _ h)
  have hown : s.vm.findClass RX6 = some m.cls := findClass_of_methodNamed B.named
  have hlocks := B.notSynchronized
  subst hsz
  have hD := hD0.self (sz := s.heap.size)
  generalize hAe : va_A [(a_o, .inr (5, [.ref a_o_who, .ref a_o_from, .ref a_o_to, .ref a_o_yes, .int o_size])), (a_o_who, .inl (cI, 8, .inl o_who)), (a_o_from, .inl (cI, 8, .inl o_from)), (a_o_to, .inl (cI, 8, .inl o_to)), (a_o_yes, .inl (cZ, 8, .inl o_yes)), (a_q0, .inr (2, [.int q0_persons, .int q0_ring, .int q0_highestTold, .ref a_q0_bestPlace, .ref a_q0_stepCost, .ref a_q0_kind, .ref a_q0_likings])), (a_q0_stepCost, .inl (cI, 8, .inl q0_stepCost)), (a_q0_kind, .inl (cI, 8, .inl q0_kind))] s.heap.size = A at hD ⊢
  have hA : ∀ q : Nat, s.heap.size ≤ q → A q := fun q h => by rw [← hAe]; exact Or.inr h
  have hS : va_S A s.heap s.heap [] := va_S.rf
  have hret : ∀ (H : Heap) (locs : List Loc) (ls : Array Slot) (pc : Nat) (v : Int32), some v = some res → (v = 0 ∨ v = 1) → decode cX6_allow pc = .ok (.ireturn, 1) → va_P (dC, dI) vwCl [(a_o, .inr (5, [.ref a_o_who, .ref a_o_from, .ref a_o_to, .ref a_o_yes, .int o_size])), (a_o_who, .inl (cI, 8, .inl o_who)), (a_o_from, .inl (cI, 8, .inl o_from)), (a_o_to, .inl (cI, 8, .inl o_to)), (a_o_yes, .inl (cZ, 8, .inl o_yes)), (a_q0, .inr (2, [.int q0_persons, .int q0_ring, .int q0_highestTold, .ref a_q0_bestPlace, .ref a_q0_stepCost, .ref a_q0_kind, .ref a_q0_likings])), (a_q0_stepCost, .inl (cI, 8, .inl q0_stepCost)), (a_q0_kind, .inl (cI, 8, .inl q0_kind))] H → va_D A [(a_o, .inr (5, [.ref a_o_who, .ref a_o_from, .ref a_o_to, .ref a_o_yes, .int o_size])), (a_o_who, .inl (cI, 8, .inl o_who)), (a_o_from, .inl (cI, 8, .inl o_from)), (a_o_to, .inl (cI, 8, .inl o_to)), (a_o_yes, .inl (cZ, 8, .inl o_yes)), (a_q0, .inr (2, [.int q0_persons, .int q0_ring, .int q0_highestTold, .ref a_q0_bestPlace, .ref a_q0_stepCost, .ref a_q0_kind, .ref a_q0_likings])), (a_q0_stepCost, .inl (cI, 8, .inl q0_stepCost)), (a_q0_kind, .inl (cI, 8, .inl q0_kind))] → va_S A s.heap H locs → W p l e (headSpec (kws yX6_allow cX6_allow 8 (some .boolean)) rm_X6_allow).room s m ([.ref a_o, .ref a_q0, .int x2, .int x3] : List Value).toArray below meth c H locs 0 0 (MQ below (kQi Unit (dC, dI) A res (fun _ => [(a_o, .inr (5, [.ref a_o_who, .ref a_o_from, .ref a_o_to, .ref a_o_yes, .int o_size])), (a_o_who, .inl (cI, 8, .inl o_who)), (a_o_from, .inl (cI, 8, .inl o_from)), (a_o_to, .inl (cI, 8, .inl o_to)), (a_o_yes, .inl (cZ, 8, .inl o_yes)), (a_q0, .inr (2, [.int q0_persons, .int q0_ring, .int q0_highestTold, .ref a_q0_bestPlace, .ref a_q0_stepCost, .ref a_q0_kind, .ref a_q0_likings])), (a_q0_stepCost, .inl (cI, 8, .inl q0_stepCost)), (a_q0_kind, .inl (cI, 8, .inl q0_kind))])) ([.ref a_o, .ref a_q0, .int x2, .int x3] : List Value).toArray s 0 0 A) (F0 m pc ls [.int v]) := by
    intro H locs ls pc v he hz hd hP hD hS
    obtain rfl := Option.some.inj he
    exact krz hx hb hr hlocks () hz hP hD hS hd
  have hl := lv_entry ([.ref a_o, .ref a_q0, .int x2, .int x3]) (n := 8) (Nat.le_of_ble_eq_true rfl)
  rw [lg_entry_eq]
  generalize (lg_sl ([.ref a_o, .ref a_q0, .int x2, .int x3]) ++ List.replicate (8 - (lg_sl ([.ref a_o, .ref a_q0, .int x2, .int x3])).length) Slot.unset).toArray = ls at hl ⊢
  have hl : lv_has ls 8 [(0, .ref a_o), (1, .ref a_q0), (2, .int x2), (3, .int x3)] := hl
  generalize (MQ below _ ([.ref a_o, .ref a_q0, .int x2, .int x3] : List Value).toArray s 0 0 A) = Q at hret ⊢
  generalize ([.ref a_o, .ref a_q0, .int x2, .int x3] : List Value).toArray = args at ht hret ⊢
  have hP : va_P (dC, dI) vwCl [(a_o, .inr (5, [.ref a_o_who, .ref a_o_from, .ref a_o_to, .ref a_o_yes, .int o_size])), (a_o_who, .inl (cI, 8, .inl o_who)), (a_o_from, .inl (cI, 8, .inl o_from)), (a_o_to, .inl (cI, 8, .inl o_to)), (a_o_yes, .inl (cZ, 8, .inl o_yes)), (a_q0, .inr (2, [.int q0_persons, .int q0_ring, .int q0_highestTold, .ref a_q0_bestPlace, .ref a_q0_stepCost, .ref a_q0_kind, .ref a_q0_likings])), (a_q0_stepCost, .inl (cI, 8, .inl q0_stepCost)), (a_q0_kind, .inl (cI, 8, .inl q0_kind))] s.heap := hP
  unfold f_X6_allow at hf
  have L3 : ∀ (n : Nat) (x2 : Int32) (x3 : Int32) (x4 : Int32) (H : Heap) (locs : List Loc) (ls : Array Slot), f_X6_allow_l3 o_size o_who o_from o_to o_yes q0_persons q0_ring q0_stepCost q0_kind n x2 x3 x4 = some res → va_P (dC, dI) vwCl [(a_o, .inr (5, [.ref a_o_who, .ref a_o_from, .ref a_o_to, .ref a_o_yes, .int o_size])), (a_o_who, .inl (cI, 8, .inl o_who)), (a_o_from, .inl (cI, 8, .inl o_from)), (a_o_to, .inl (cI, 8, .inl o_to)), (a_o_yes, .inl (cZ, 8, .inl o_yes)), (a_q0, .inr (2, [.int q0_persons, .int q0_ring, .int q0_highestTold, .ref a_q0_bestPlace, .ref a_q0_stepCost, .ref a_q0_kind, .ref a_q0_likings])), (a_q0_stepCost, .inl (cI, 8, .inl q0_stepCost)), (a_q0_kind, .inl (cI, 8, .inl q0_kind))] H → va_D A [(a_o, .inr (5, [.ref a_o_who, .ref a_o_from, .ref a_o_to, .ref a_o_yes, .int o_size])), (a_o_who, .inl (cI, 8, .inl o_who)), (a_o_from, .inl (cI, 8, .inl o_from)), (a_o_to, .inl (cI, 8, .inl o_to)), (a_o_yes, .inl (cZ, 8, .inl o_yes)), (a_q0, .inr (2, [.int q0_persons, .int q0_ring, .int q0_highestTold, .ref a_q0_bestPlace, .ref a_q0_stepCost, .ref a_q0_kind, .ref a_q0_likings])), (a_q0_stepCost, .inl (cI, 8, .inl q0_stepCost)), (a_q0_kind, .inl (cI, 8, .inl q0_kind))] → va_S A s.heap H locs → lv_has ls 8 [(0, .ref a_o), (1, .ref a_q0), (2, .int x2), (3, .int x3), (4, .int x4)] → W p l e (headSpec (kws yX6_allow cX6_allow 8 (some .boolean)) rm_X6_allow).room s m args below meth c H locs 0 0 Q (F0 m 3 ls []) := by
    intro n
    induction n with
    | zero =>
      intro x2 x3 x4 H locs ls hf hP hD hS hl
      rw [f_X6_allow_l3.eq_1] at hf
      cases hf
    | succ n3 ih3 =>
      have B96 : ∀ (x2 : Int32) (x3 : Int32) (x4 : Int32) (H : Heap) (locs : List Loc) (ls : Array Slot), f_X6_allow_b96 o_size o_who o_from o_to o_yes q0_persons q0_ring q0_stepCost q0_kind (f_X6_allow_l3 o_size o_who o_from o_to o_yes q0_persons q0_ring q0_stepCost q0_kind n3) x2 x3 x4 = some res → va_P (dC, dI) vwCl [(a_o, .inr (5, [.ref a_o_who, .ref a_o_from, .ref a_o_to, .ref a_o_yes, .int o_size])), (a_o_who, .inl (cI, 8, .inl o_who)), (a_o_from, .inl (cI, 8, .inl o_from)), (a_o_to, .inl (cI, 8, .inl o_to)), (a_o_yes, .inl (cZ, 8, .inl o_yes)), (a_q0, .inr (2, [.int q0_persons, .int q0_ring, .int q0_highestTold, .ref a_q0_bestPlace, .ref a_q0_stepCost, .ref a_q0_kind, .ref a_q0_likings])), (a_q0_stepCost, .inl (cI, 8, .inl q0_stepCost)), (a_q0_kind, .inl (cI, 8, .inl q0_kind))] H → va_D A [(a_o, .inr (5, [.ref a_o_who, .ref a_o_from, .ref a_o_to, .ref a_o_yes, .int o_size])), (a_o_who, .inl (cI, 8, .inl o_who)), (a_o_from, .inl (cI, 8, .inl o_from)), (a_o_to, .inl (cI, 8, .inl o_to)), (a_o_yes, .inl (cZ, 8, .inl o_yes)), (a_q0, .inr (2, [.int q0_persons, .int q0_ring, .int q0_highestTold, .ref a_q0_bestPlace, .ref a_q0_stepCost, .ref a_q0_kind, .ref a_q0_likings])), (a_q0_stepCost, .inl (cI, 8, .inl q0_stepCost)), (a_q0_kind, .inl (cI, 8, .inl q0_kind))] → va_S A s.heap H locs → lv_has ls 8 [(0, .ref a_o), (1, .ref a_q0), (2, .int x2), (3, .int x3), (4, .int x4)] → W p l e (headSpec (kws yX6_allow cX6_allow 8 (some .boolean)) rm_X6_allow).room s m args below meth c H locs 0 0 Q (F0 m 96 ls []) := by
        intro x2 x3 x4 H locs ls hf hP hD hS hl
        unfold f_X6_allow_b96 at hf
        refine lv_iinc (v := (x4 + (1 : Int32))) (lv' := [(4, .int (x4 + (1 : Int32))), (0, .ref a_o), (1, .ref a_q0), (2, .int x2), (3, .int x3)]) hx hb dX6_allow_96 hl (k := 4) rfl rfl (by decide) rfl (fun ls hl => ?_)
        refine lv_goto (tgt := 3) hx hb dX6_allow_99 (by decide) ?_
        exact ih3 x2 x3 (x4 + (1 : Int32)) H locs ls hf hP hD hS (lv_sub hl [1, 2, 3, 4, 0] rfl)
      have B69 : ∀ (x2 : Int32) (x3 : Int32) (x4 : Int32) (t0 : Int32) (H : Heap) (locs : List Loc) (ls : Array Slot), f_X6_allow_b69 o_size o_who o_from o_to o_yes q0_persons q0_ring q0_stepCost q0_kind (f_X6_allow_l3 o_size o_who o_from o_to o_yes q0_persons q0_ring q0_stepCost q0_kind n3) x2 x3 x4 t0 = some res → va_P (dC, dI) vwCl [(a_o, .inr (5, [.ref a_o_who, .ref a_o_from, .ref a_o_to, .ref a_o_yes, .int o_size])), (a_o_who, .inl (cI, 8, .inl o_who)), (a_o_from, .inl (cI, 8, .inl o_from)), (a_o_to, .inl (cI, 8, .inl o_to)), (a_o_yes, .inl (cZ, 8, .inl o_yes)), (a_q0, .inr (2, [.int q0_persons, .int q0_ring, .int q0_highestTold, .ref a_q0_bestPlace, .ref a_q0_stepCost, .ref a_q0_kind, .ref a_q0_likings])), (a_q0_stepCost, .inl (cI, 8, .inl q0_stepCost)), (a_q0_kind, .inl (cI, 8, .inl q0_kind))] H → va_D A [(a_o, .inr (5, [.ref a_o_who, .ref a_o_from, .ref a_o_to, .ref a_o_yes, .int o_size])), (a_o_who, .inl (cI, 8, .inl o_who)), (a_o_from, .inl (cI, 8, .inl o_from)), (a_o_to, .inl (cI, 8, .inl o_to)), (a_o_yes, .inl (cZ, 8, .inl o_yes)), (a_q0, .inr (2, [.int q0_persons, .int q0_ring, .int q0_highestTold, .ref a_q0_bestPlace, .ref a_q0_stepCost, .ref a_q0_kind, .ref a_q0_likings])), (a_q0_stepCost, .inl (cI, 8, .inl q0_stepCost)), (a_q0_kind, .inl (cI, 8, .inl q0_kind))] → va_S A s.heap H locs → lv_has ls 8 [(0, .ref a_o), (1, .ref a_q0), (2, .int x2), (3, .int x3), (4, .int x4)] → W p l e (headSpec (kws yX6_allow cX6_allow 8 (some .boolean)) rm_X6_allow).room s m args below meth c H locs 0 0 Q (F0 m 69 ls [.int t0]) := by
        intro x2 x3 x4 t0 H locs ls hf hP hD hS hl
        unfold f_X6_allow_b69 at hf
        refine lv_istore (lv' := [(7, .int t0), (0, .ref a_o), (1, .ref a_q0), (2, .int x2), (3, .int x3), (4, .int x4)]) hx hb dX6_allow_69 hl (by decide) rfl (fun ls hl => ?_)
        refine lv_aload_n hx hb dX6_allow_71 rfl (lv_at hl 1 rfl) ?_
        refine va_get (ci := 5) (v := .ref a_o_who) (C := RX6) (T := TX6) (N := 5) hx hb ht inX6 hown hK hP 0 rfl rfl 0 (by decide) (ht _ wd_1_106) (fun _ h9 => h9) rfl dX6_allow_72 ?_
        refine lv_iload hx hb dX6_allow_75 (lv_at hl 5 rfl) ?_
        obtain ⟨b_1, hf⟩ := bd_some hf
        refine va_iald hx hb hK hP 1 0 rfl rfl b_1 dX6_allow_77 ?_
        refine lv_iload_n hx hb dX6_allow_78 rfl (lv_at hl 3 rfl) ?_
        refine lv_icmp_ne (tgt := 96) hx hb dX6_allow_79 (by decide) (fun c_2 => ?_) (fun c_2 => ?_)
        · have hf := ifn c_2 hf
          exact B96 x2 x3 x4 H locs ls hf hP hD hS (lv_sub hl [1, 2, 3, 4, 5] rfl)
        · have hf := ifp c_2 hf
          refine lv_iload hx hb dX6_allow_82 (lv_at hl 0 rfl) ?_
          refine lv_aload_n hx hb dX6_allow_84 rfl (lv_at hl 1 rfl) ?_
          refine va_get (ci := 5) (v := .ref a_o_yes) (C := RX6) (T := TX6) (N := 5) hx hb ht inX6 hown hK hP 0 rfl rfl 3 (by decide) (ht _ wd_1_109) (fun _ h9 => h9) rfl dX6_allow_85 ?_
          refine lv_iload hx hb dX6_allow_88 (lv_at hl 5 rfl) ?_
          obtain ⟨b_3, hf⟩ := bd_some hf
          refine va_zald hx hb hK hP 4 2 rfl rfl b_3 dX6_allow_90 ?_
          refine lv_icmp_eq (tgt := 96) hx hb dX6_allow_91 (by decide) (fun c_4 => ?_) (fun c_4 => ?_)
          · have hf := ifp c_4 hf
            exact B96 x2 x3 x4 H locs ls hf hP hD hS (lv_sub hl [1, 2, 3, 4, 5] rfl)
          · have hf := ifn c_4 hf
            refine lv_iconst (v := (0 : Int32)) hx hb dX6_allow_94 (by decide) ?_
            exact hret H locs ls 95 (0 : Int32) hf (Or.inl rfl) dX6_allow_95 hP hD hS
      intro x2 x3 x4 H locs ls hf hP hD hS hl
      rw [f_X6_allow_l3.eq_2] at hf
      refine lv_iload hx hb dX6_allow_3 (lv_at hl 4 rfl) ?_
      refine lv_aload_n hx hb dX6_allow_5 rfl (lv_at hl 0 rfl) ?_
      refine va_get (ci := 5) (v := .int o_size) (C := RX6) (T := TX6) (N := 5) hx hb ht inX6 hown hK hP 0 rfl rfl 4 (by decide) (ht _ wd_1_110) (fun _ h9 => h9) rfl dX6_allow_6 ?_
      refine lv_icmp_ge (tgt := 102) hx hb dX6_allow_9 (by decide) (fun c_5 => ?_) (fun c_5 => ?_)
      · have hf := ifp c_5 hf
        refine lv_iconst (v := (1 : Int32)) hx hb dX6_allow_102 (by decide) ?_
        exact hret H locs ls 103 (1 : Int32) hf (Or.inr rfl) dX6_allow_103 hP hD hS
      · have hf := ifn c_5 hf
        refine lv_aload_n hx hb dX6_allow_12 rfl (lv_at hl 1 rfl) ?_
        refine lv_aload_n hx hb dX6_allow_13 rfl (lv_at hl 0 rfl) ?_
        refine va_get (ci := 5) (v := .ref a_o_from) (C := RX6) (T := TX6) (N := 5) hx hb ht inX6 hown hK hP 0 rfl rfl 1 (by decide) (ht _ wd_1_107) (fun _ h9 => h9) rfl dX6_allow_14 ?_
        refine lv_iload hx hb dX6_allow_17 (lv_at hl 4 rfl) ?_
        obtain ⟨b_6, hf⟩ := bd_some hf
        refine va_iald hx hb hK hP 2 0 rfl rfl b_6 dX6_allow_19 ?_
        refine lv_iload_n hx hb dX6_allow_20 rfl (lv_at hl 3 rfl) ?_
        obtain ⟨u_7, h_8, hf⟩ := obs hf
        refine kcVi (rest := []) (wr := [(a_o, .inr (5, [.ref a_o_who, .ref a_o_from, .ref a_o_to, .ref a_o_yes, .int o_size])), (a_o_who, .inl (cI, 8, .inl o_who)), (a_o_from, .inl (cI, 8, .inl o_from)), (a_o_to, .inl (cI, 8, .inl o_to)), (a_o_yes, .inl (cZ, 8, .inl o_yes)), (a_q0_stepCost, .inl (cI, 8, .inl q0_stepCost)), (a_q0_kind, .inl (cI, 8, .inl q0_kind))]) (w2 := fun _ => [(a_o, .inr (5, [.ref a_o_who, .ref a_o_from, .ref a_o_to, .ref a_o_yes, .int o_size])), (a_o_who, .inl (cI, 8, .inl o_who)), (a_o_from, .inl (cI, 8, .inl o_from)), (a_o_to, .inl (cI, 8, .inl o_to)), (a_o_yes, .inl (cZ, 8, .inl o_yes)), (a_q0, .inr (2, [.int q0_persons, .int q0_ring, .int q0_highestTold, .ref a_q0_bestPlace, .ref a_q0_stepCost, .ref a_q0_kind, .ref a_q0_likings])), (a_q0_stepCost, .inl (cI, 8, .inl q0_stepCost)), (a_q0_kind, .inl (cI, 8, .inl q0_kind))]) hx hb hml hown ht (c_X2_far l dC dI cI cJ cZ a_q0 a_q0_bestPlace a_q0_stepCost a_q0_kind a_q0_likings H.size q0_persons q0_ring q0_highestTold (o_from x4.toNatClampNeg) x3 u_7 h_8) (kcw 2 ht wd_2_123 wd_1_3 wd_3_181 kd_X2_far ⟨rfl, rfl⟩ ⟨Nat.le_of_ble_eq_true rfl, Nat.le_of_ble_eq_true rfl⟩) wd_2_121 wd_2_122 hK hP hD hS hA [5] [0, 1, 2, 3, 4, 6, 7] [0, 1, 2, 3, 4, 7, 5, 6] rfl rfl rfl rfl (by decide) rfl (fun _ => rfl) (ci := 2) rfl rfl rfl rfl hl.1 rfl (Nat.le_of_ble_eq_true rfl) dX6_allow_21 ⟨Nat.zero_le _, Nat.zero_le _⟩ (fun _ H locs hP hD hS => ?_)
        have hP : va_P (dC, dI) vwCl [(a_o, .inr (5, [.ref a_o_who, .ref a_o_from, .ref a_o_to, .ref a_o_yes, .int o_size])), (a_o_who, .inl (cI, 8, .inl o_who)), (a_o_from, .inl (cI, 8, .inl o_from)), (a_o_to, .inl (cI, 8, .inl o_to)), (a_o_yes, .inl (cZ, 8, .inl o_yes)), (a_q0, .inr (2, [.int q0_persons, .int q0_ring, .int q0_highestTold, .ref a_q0_bestPlace, .ref a_q0_stepCost, .ref a_q0_kind, .ref a_q0_likings])), (a_q0_stepCost, .inl (cI, 8, .inl q0_stepCost)), (a_q0_kind, .inl (cI, 8, .inl q0_kind))] H := hP
        have hD : va_D A [(a_o, .inr (5, [.ref a_o_who, .ref a_o_from, .ref a_o_to, .ref a_o_yes, .int o_size])), (a_o_who, .inl (cI, 8, .inl o_who)), (a_o_from, .inl (cI, 8, .inl o_from)), (a_o_to, .inl (cI, 8, .inl o_to)), (a_o_yes, .inl (cZ, 8, .inl o_yes)), (a_q0, .inr (2, [.int q0_persons, .int q0_ring, .int q0_highestTold, .ref a_q0_bestPlace, .ref a_q0_stepCost, .ref a_q0_kind, .ref a_q0_likings])), (a_q0_stepCost, .inl (cI, 8, .inl q0_stepCost)), (a_q0_kind, .inl (cI, 8, .inl q0_kind))] := hD
        refine lv_aload_n hx hb dX6_allow_24 rfl (lv_at hl 1 rfl) ?_
        refine lv_aload_n hx hb dX6_allow_25 rfl (lv_at hl 0 rfl) ?_
        refine va_get (ci := 5) (v := .ref a_o_to) (C := RX6) (T := TX6) (N := 5) hx hb ht inX6 hown hK hP 0 rfl rfl 2 (by decide) (ht _ wd_1_108) (fun _ h9 => h9) rfl dX6_allow_26 ?_
        refine lv_iload hx hb dX6_allow_29 (lv_at hl 4 rfl) ?_
        obtain ⟨b_9, hf⟩ := bd_some hf
        refine va_iald hx hb hK hP 3 0 rfl rfl b_9 dX6_allow_31 ?_
        refine lv_iload_n hx hb dX6_allow_32 rfl (lv_at hl 3 rfl) ?_
        obtain ⟨u_10, h_11, hf⟩ := obs hf
        refine kcVi (rest := [.int u_7]) (wr := [(a_o, .inr (5, [.ref a_o_who, .ref a_o_from, .ref a_o_to, .ref a_o_yes, .int o_size])), (a_o_who, .inl (cI, 8, .inl o_who)), (a_o_from, .inl (cI, 8, .inl o_from)), (a_o_to, .inl (cI, 8, .inl o_to)), (a_o_yes, .inl (cZ, 8, .inl o_yes)), (a_q0_stepCost, .inl (cI, 8, .inl q0_stepCost)), (a_q0_kind, .inl (cI, 8, .inl q0_kind))]) (w2 := fun _ => [(a_o, .inr (5, [.ref a_o_who, .ref a_o_from, .ref a_o_to, .ref a_o_yes, .int o_size])), (a_o_who, .inl (cI, 8, .inl o_who)), (a_o_from, .inl (cI, 8, .inl o_from)), (a_o_to, .inl (cI, 8, .inl o_to)), (a_o_yes, .inl (cZ, 8, .inl o_yes)), (a_q0, .inr (2, [.int q0_persons, .int q0_ring, .int q0_highestTold, .ref a_q0_bestPlace, .ref a_q0_stepCost, .ref a_q0_kind, .ref a_q0_likings])), (a_q0_stepCost, .inl (cI, 8, .inl q0_stepCost)), (a_q0_kind, .inl (cI, 8, .inl q0_kind))]) hx hb hml hown ht (c_X2_far l dC dI cI cJ cZ a_q0 a_q0_bestPlace a_q0_stepCost a_q0_kind a_q0_likings H.size q0_persons q0_ring q0_highestTold (o_to x4.toNatClampNeg) x3 u_10 h_11) (kcw 2 ht wd_2_123 wd_1_3 wd_3_181 kd_X2_far ⟨rfl, rfl⟩ ⟨Nat.le_of_ble_eq_true rfl, Nat.le_of_ble_eq_true rfl⟩) wd_2_121 wd_2_122 hK hP hD hS hA [5] [0, 1, 2, 3, 4, 6, 7] [0, 1, 2, 3, 4, 7, 5, 6] rfl rfl rfl rfl (by decide) rfl (fun _ => rfl) (ci := 2) rfl rfl rfl rfl hl.1 rfl (Nat.le_of_ble_eq_true rfl) dX6_allow_33 ⟨Nat.zero_le _, Nat.zero_le _⟩ (fun _ H locs hP hD hS => ?_)
        have hP : va_P (dC, dI) vwCl [(a_o, .inr (5, [.ref a_o_who, .ref a_o_from, .ref a_o_to, .ref a_o_yes, .int o_size])), (a_o_who, .inl (cI, 8, .inl o_who)), (a_o_from, .inl (cI, 8, .inl o_from)), (a_o_to, .inl (cI, 8, .inl o_to)), (a_o_yes, .inl (cZ, 8, .inl o_yes)), (a_q0, .inr (2, [.int q0_persons, .int q0_ring, .int q0_highestTold, .ref a_q0_bestPlace, .ref a_q0_stepCost, .ref a_q0_kind, .ref a_q0_likings])), (a_q0_stepCost, .inl (cI, 8, .inl q0_stepCost)), (a_q0_kind, .inl (cI, 8, .inl q0_kind))] H := hP
        have hD : va_D A [(a_o, .inr (5, [.ref a_o_who, .ref a_o_from, .ref a_o_to, .ref a_o_yes, .int o_size])), (a_o_who, .inl (cI, 8, .inl o_who)), (a_o_from, .inl (cI, 8, .inl o_from)), (a_o_to, .inl (cI, 8, .inl o_to)), (a_o_yes, .inl (cZ, 8, .inl o_yes)), (a_q0, .inr (2, [.int q0_persons, .int q0_ring, .int q0_highestTold, .ref a_q0_bestPlace, .ref a_q0_stepCost, .ref a_q0_kind, .ref a_q0_likings])), (a_q0_stepCost, .inl (cI, 8, .inl q0_stepCost)), (a_q0_kind, .inl (cI, 8, .inl q0_kind))] := hD
        refine lv_isub hx hb dX6_allow_36 ?_
        refine lv_istore (lv' := [(5, .int (u_7 - u_10)), (0, .ref a_o), (1, .ref a_q0), (2, .int x2), (3, .int x3), (4, .int x4)]) hx hb dX6_allow_37 hl (by decide) rfl (fun ls hl => ?_)
        refine lv_aload_n hx hb dX6_allow_39 rfl (lv_at hl 2 rfl) ?_
        refine va_get (ci := 2) (v := .ref a_q0_stepCost) (C := RX2) (T := TX2) (N := 7) hx hb ht inX2 hown hK hP 5 rfl rfl 4 (by decide) (ht _ wd_1_62) (fun _ h9 => h9) rfl dX6_allow_40 ?_
        refine lv_iload_n hx hb dX6_allow_43 rfl (lv_at hl 3 rfl) ?_
        obtain ⟨b_12, hf⟩ := bd_some hf
        refine va_iald hx hb hK hP 6 0 rfl rfl b_12 dX6_allow_44 ?_
        refine lv_iload hx hb dX6_allow_45 (lv_at hl 0 rfl) ?_
        refine lv_imul hx hb dX6_allow_47 ?_
        refine lv_istore (lv' := [(6, .int ((q0_stepCost x2.toNatClampNeg) * (u_7 - u_10))), (5, .int (u_7 - u_10)), (0, .ref a_o), (1, .ref a_q0), (2, .int x2), (3, .int x3), (4, .int x4)]) hx hb dX6_allow_48 hl (by decide) rfl (fun ls hl => ?_)
        refine lv_aload_n hx hb dX6_allow_50 rfl (lv_at hl 3 rfl) ?_
        refine va_get (ci := 2) (v := .ref a_q0_kind) (C := RX2) (T := TX2) (N := 7) hx hb ht inX2 hown hK hP 5 rfl rfl 5 (by decide) (ht _ wd_1_65) (fun _ h9 => h9) rfl dX6_allow_51 ?_
        refine lv_iload_n hx hb dX6_allow_54 rfl (lv_at hl 4 rfl) ?_
        obtain ⟨b_13, hf⟩ := bd_some hf
        refine va_iald hx hb hK hP 7 0 rfl rfl b_13 dX6_allow_55 ?_
        refine lv_iload hx hb dX6_allow_56 (lv_at hl 0 rfl) ?_
        obtain ⟨u_14, h_15, hf⟩ := obs hf
        refine kcSi (rest := []) (wr := [(a_o, .inr (5, [.ref a_o_who, .ref a_o_from, .ref a_o_to, .ref a_o_yes, .int o_size])), (a_o_who, .inl (cI, 8, .inl o_who)), (a_o_from, .inl (cI, 8, .inl o_from)), (a_o_to, .inl (cI, 8, .inl o_to)), (a_o_yes, .inl (cZ, 8, .inl o_yes)), (a_q0, .inr (2, [.int q0_persons, .int q0_ring, .int q0_highestTold, .ref a_q0_bestPlace, .ref a_q0_stepCost, .ref a_q0_kind, .ref a_q0_likings])), (a_q0_stepCost, .inl (cI, 8, .inl q0_stepCost)), (a_q0_kind, .inl (cI, 8, .inl q0_kind))]) (w2 := fun _ => [(a_o, .inr (5, [.ref a_o_who, .ref a_o_from, .ref a_o_to, .ref a_o_yes, .int o_size])), (a_o_who, .inl (cI, 8, .inl o_who)), (a_o_from, .inl (cI, 8, .inl o_from)), (a_o_to, .inl (cI, 8, .inl o_to)), (a_o_yes, .inl (cZ, 8, .inl o_yes)), (a_q0, .inr (2, [.int q0_persons, .int q0_ring, .int q0_highestTold, .ref a_q0_bestPlace, .ref a_q0_stepCost, .ref a_q0_kind, .ref a_q0_likings])), (a_q0_stepCost, .inl (cI, 8, .inl q0_stepCost)), (a_q0_kind, .inl (cI, 8, .inl q0_kind))]) hx hb hml hown ht (c_X2_missing l dC dI cI cJ cZ H.size (q0_kind x2.toNatClampNeg) ((q0_stepCost x2.toNatClampNeg) * (u_7 - u_10)) u_14 h_15) (kcw 2 ht wd_2_163 wd_1_3 wd_3_182 kd_X2_missing ⟨rfl, rfl⟩ ⟨Nat.le_of_ble_eq_true rfl, Nat.le_of_ble_eq_true rfl⟩) wd_2_162 hK hP hD hS hA [] [0, 1, 2, 3, 4, 5, 6, 7] [0, 1, 2, 3, 4, 5, 6, 7] rfl rfl rfl rfl (by decide) rfl (fun _ => rfl) rfl hl.1 rfl (Nat.le_of_ble_eq_true rfl) dX6_allow_58 ⟨Nat.zero_le _, Nat.zero_le _⟩ (fun _ H locs hP hD hS => ?_)
        have hP : va_P (dC, dI) vwCl [(a_o, .inr (5, [.ref a_o_who, .ref a_o_from, .ref a_o_to, .ref a_o_yes, .int o_size])), (a_o_who, .inl (cI, 8, .inl o_who)), (a_o_from, .inl (cI, 8, .inl o_from)), (a_o_to, .inl (cI, 8, .inl o_to)), (a_o_yes, .inl (cZ, 8, .inl o_yes)), (a_q0, .inr (2, [.int q0_persons, .int q0_ring, .int q0_highestTold, .ref a_q0_bestPlace, .ref a_q0_stepCost, .ref a_q0_kind, .ref a_q0_likings])), (a_q0_stepCost, .inl (cI, 8, .inl q0_stepCost)), (a_q0_kind, .inl (cI, 8, .inl q0_kind))] H := hP
        have hD : va_D A [(a_o, .inr (5, [.ref a_o_who, .ref a_o_from, .ref a_o_to, .ref a_o_yes, .int o_size])), (a_o_who, .inl (cI, 8, .inl o_who)), (a_o_from, .inl (cI, 8, .inl o_from)), (a_o_to, .inl (cI, 8, .inl o_to)), (a_o_yes, .inl (cZ, 8, .inl o_yes)), (a_q0, .inr (2, [.int q0_persons, .int q0_ring, .int q0_highestTold, .ref a_q0_bestPlace, .ref a_q0_stepCost, .ref a_q0_kind, .ref a_q0_likings])), (a_q0_stepCost, .inl (cI, 8, .inl q0_stepCost)), (a_q0_kind, .inl (cI, 8, .inl q0_kind))] := hD
        refine lv_if_ne (tgt := 68) hx hb dX6_allow_61 (by decide) (fun c_16 => ?_) (fun c_16 => ?_)
        · have hf := ifn c_16 hf
          refine lv_iconst (v := (0 : Int32)) hx hb dX6_allow_68 (by decide) ?_
          exact B69 x2 x3 x4 (0 : Int32) H locs ls hf hP hD hS (lv_sub hl [2, 3, 4, 5, 6] rfl)
        · have hf := ifp c_16 hf
          refine lv_iconst (v := (1 : Int32)) hx hb dX6_allow_64 (by decide) ?_
          refine lv_goto (tgt := 69) hx hb dX6_allow_65 (by decide) ?_
          exact B69 x2 x3 x4 (1 : Int32) H locs ls hf hP hD hS (lv_sub hl [2, 3, 4, 5, 6] rfl)
  obtain ⟨H, hH⟩ : ∃ H, H = s.heap := ⟨_, rfl⟩
  obtain ⟨locs, hlo⟩ : ∃ L : List Loc, L = [] := ⟨_, rfl⟩
  rw [← hH] at hP
  have hS : va_S A s.heap H locs := by rw [hH, hlo]; exact hS
  rw [show W p l e (headSpec (kws yX6_allow cX6_allow 8 (some .boolean)) rm_X6_allow).room s m args below meth c s.heap [] 0 0 Q (F0 m 0 ls []) = W p l e (headSpec (kws yX6_allow cX6_allow 8 (some .boolean)) rm_X6_allow).room s m args below meth c H locs 0 0 Q (F0 m 0 ls []) from by rw [hH, hlo]]
  refine lv_iconst (v := (0 : Int32)) hx hb dX6_allow_0 (by decide) ?_
  refine lv_istore (lv' := [(4, .int (0 : Int32)), (0, .ref a_o), (1, .ref a_q0), (2, .int x2), (3, .int x3)]) hx hb dX6_allow_1 hl (by decide) rfl (fun ls hl => ?_)
  exact L3 NF x2 x3 (0 : Int32) H locs ls hf hP hD hS (lv_sub hl [1, 2, 3, 4, 0] rfl)
def f_X8_comesToRest_b115 (q0_persons : Int32) (q0_ring : Int32) (q0_bestPlace : Nat → Int32) (q0_stepCost : Nat → Int32) (q0_kind : Nat → Int32) (q0_likings : Nat → Int32) (K21 : Int32 → Int32 → Int32 → Int32 → Int32 → Option (Int32 × Int32 × Int32)) (x3 : Int32) (x4 : Int32) (x5 : Int32) (o_steps : Int32) (o_end : Int32) : Option (Int32 × Int32 × Int32) := K21 x3 x4 x5 (o_steps + (1 : Int32)) o_end
def f_X8_comesToRest_b59 (q0_persons : Int32) (q0_ring : Int32) (q0_bestPlace : Nat → Int32) (q0_stepCost : Nat → Int32) (q0_kind : Nat → Int32) (q0_likings : Nat → Int32) (K21 : Int32 → Int32 → Int32 → Int32 → Int32 → Option (Int32 × Int32 × Int32)) (x3 : Int32) (x4 : Int32) (x5 : Int32) (x6 : Int32) (o_steps : Int32) (o_end : Int32) : Option (Int32 × Int32 × Int32) := if x6 < x3 then Option.bind (f_X2_changed o_end x6 q0_persons) (fun u_2 => if u_2 = x4 then some ((0 : Int32), o_steps, u_2) else if o_steps = x5 then f_X8_comesToRest_b115 q0_persons q0_ring q0_bestPlace q0_stepCost q0_kind q0_likings K21 x3 u_2 (((2 : Int32) * x5) + (1 : Int32)) o_steps u_2 else f_X8_comesToRest_b115 q0_persons q0_ring q0_bestPlace q0_stepCost q0_kind q0_likings K21 x3 x4 x5 o_steps u_2) else some ((1 : Int32), o_steps, o_end)
def f_X8_comesToRest_l34 (q0_persons : Int32) (q0_ring : Int32) (q0_bestPlace : Nat → Int32) (q0_stepCost : Nat → Int32) (q0_kind : Nat → Int32) (q0_likings : Nat → Int32) (K21 : Int32 → Int32 → Int32 → Int32 → Int32 → Option (Int32 × Int32 × Int32)) : Nat → Int32 → Int32 → Int32 → Int32 → Int32 → Int32 → Option (Int32 × Int32 × Int32)
  | 0, _, _, _, _, _, _ => none
  | n + 1, x3, x4, x5, x6, o_steps, o_end => if x3 ≤ x6 then f_X8_comesToRest_b59 q0_persons q0_ring q0_bestPlace q0_stepCost q0_kind q0_likings K21 x3 x4 x5 x6 o_steps o_end else Option.bind (f_X2_changeSuits o_end x6 q0_persons q0_ring q0_bestPlace q0_stepCost q0_kind q0_likings) (fun u_7 => if u_7 = 0 then (f_X8_comesToRest_l34 q0_persons q0_ring q0_bestPlace q0_stepCost q0_kind q0_likings K21 n) x3 x4 x5 (x6 + (1 : Int32)) o_steps o_end else f_X8_comesToRest_b59 q0_persons q0_ring q0_bestPlace q0_stepCost q0_kind q0_likings K21 x3 x4 x5 x6 o_steps o_end)
def f_X8_comesToRest_l21 (q0_persons : Int32) (q0_ring : Int32) (q0_bestPlace : Nat → Int32) (q0_stepCost : Nat → Int32) (q0_kind : Nat → Int32) (q0_likings : Nat → Int32) : Nat → Int32 → Int32 → Int32 → Int32 → Int32 → Option (Int32 × Int32 × Int32)
  | 0, _, _, _, _, _ => none
  | n + 1, x3, x4, x5, o_steps, o_end => if (1000 : Int32) < o_steps then some ((0 : Int32), o_steps, o_end) else f_X8_comesToRest_l34 q0_persons q0_ring q0_bestPlace q0_stepCost q0_kind q0_likings (f_X8_comesToRest_l21 q0_persons q0_ring q0_bestPlace q0_stepCost q0_kind q0_likings n) NF x3 x4 x5 (0 : Int32) o_steps o_end
def f_X8_comesToRest (x2 : Int32) (o_steps : Int32) (o_end : Int32) (q0_persons : Int32) (q0_ring : Int32) (q0_bestPlace : Nat → Int32) (q0_stepCost : Nat → Int32) (q0_kind : Nat → Int32) (q0_likings : Nat → Int32) : Option (Int32 × Int32 × Int32) := Option.bind (f_X2_changeCount q0_persons q0_ring) (fun u_11 => f_X8_comesToRest_l21 q0_persons q0_ring q0_bestPlace q0_stepCost q0_kind q0_likings NF u_11 x2 (1 : Int32) (0 : Int32) x2)
abbrev rm_X8_comesToRest : Room := { frames := 4, cells := 0, slots := 0, locals := 98 }
theorem kd_X8_comesToRest : yX8_comesToRest.cls ≠ "java/lang/invoke/MethodHandle" ∧ yX8_comesToRest.cls ≠ "java/lang/invoke/VarHandle" ∧ (parseMethodDescriptor yX8_comesToRest.desc).map (fun d => d.parameters.length) = some 2 := by decide +kernel
set_option maxHeartbeats 4000000 in
set_option maxRecDepth 100000 in
theorem c_X8_comesToRest (l : Launch) (dC : Nat → ClassId) (dI : Nat → Nat → Nat) (cI cJ cZ : ClassId) (a_o a_q0 a_q0_bestPlace a_q0_stepCost a_q0_kind a_q0_likings : Nat) (sz : Nat) (o_steps : Int32) (o_end : Int32) (q0_persons : Int32) (q0_ring : Int32) (q0_highestTold : Int32) (q0_bestPlace : Nat → Int32) (q0_stepCost : Nat → Int32) (q0_kind : Nat → Int32) (q0_likings : Nat → Int32) (x2 : Int32) (res : Int32 × Int32 × Int32) (hf : f_X8_comesToRest x2 o_steps o_end q0_persons q0_ring q0_bestPlace q0_stepCost q0_kind q0_likings = some res) : kMi Unit l yX8_comesToRest cX8_comesToRest 7 (some .boolean) rm_X8_comesToRest [.ref a_o, .ref a_q0, .int x2] (dC, dI) (kT cI cJ cZ) sz [(a_o, .inr (7, [.int o_steps, .int o_end])), (a_q0, .inr (2, [.int q0_persons, .int q0_ring, .int q0_highestTold, .ref a_q0_bestPlace, .ref a_q0_stepCost, .ref a_q0_kind, .ref a_q0_likings])), (a_q0_bestPlace, .inl (cI, 8, .inl q0_bestPlace)), (a_q0_stepCost, .inl (cI, 8, .inl q0_stepCost)), (a_q0_kind, .inl (cI, 8, .inl q0_kind)), (a_q0_likings, .inl (cI, 64, .inl q0_likings))] res.1 (fun _ => [(a_o, .inr (7, [.int res.2.1, .int res.2.2])), (a_q0, .inr (2, [.int q0_persons, .int q0_ring, .int q0_highestTold, .ref a_q0_bestPlace, .ref a_q0_stepCost, .ref a_q0_kind, .ref a_q0_likings])), (a_q0_bestPlace, .inl (cI, 8, .inl q0_bestPlace)), (a_q0_stepCost, .inl (cI, 8, .inl q0_stepCost)), (a_q0_kind, .inl (cI, 8, .inl q0_kind)), (a_q0_likings, .inl (cI, 64, .inl q0_likings))]) := by
  refine Met.ofW (cc := cX8_comesToRest) (maxL := 7) (ret := (some .boolean)) (by decide) rfl ?_
  intro p e s m args below meth c s₁ B hml hv
  obtain ⟨rfl, hsz, hP, hK, hD0⟩ := hv
  have hx := B.exec
  have hb := B.bytes
  have hr := B.returns
  have ht : ∀ w ∈ lw_g, w.before ([.ref a_o, .ref a_q0, .int x2] : List Value).toArray s = true := fun w h => atoms_spec (ws := kws yX8_comesToRest cX8_comesToRest 7 (some .boolean)) B.pre w (List.mem_cons_of_mem _ h)
  have hown : s.vm.findClass RX8 = some m.cls := findClass_of_methodNamed B.named
  have hlocks := B.notSynchronized
  subst hsz
  have hD := hD0.self (sz := s.heap.size)
  generalize hAe : va_A [(a_o, .inr (7, [.int o_steps, .int o_end])), (a_q0, .inr (2, [.int q0_persons, .int q0_ring, .int q0_highestTold, .ref a_q0_bestPlace, .ref a_q0_stepCost, .ref a_q0_kind, .ref a_q0_likings])), (a_q0_bestPlace, .inl (cI, 8, .inl q0_bestPlace)), (a_q0_stepCost, .inl (cI, 8, .inl q0_stepCost)), (a_q0_kind, .inl (cI, 8, .inl q0_kind)), (a_q0_likings, .inl (cI, 64, .inl q0_likings))] s.heap.size = A at hD ⊢
  have hA : ∀ q : Nat, s.heap.size ≤ q → A q := fun q h => by rw [← hAe]; exact Or.inr h
  have hS : va_S A s.heap s.heap [] := va_S.rf
  have hret : ∀ (H : Heap) (locs : List Loc) (ls : Array Slot) (pc : Nat) (v : Int32) (o0 : Int32) (o1 : Int32), some (v, o0, o1) = some res → (v = 0 ∨ v = 1) → decode cX8_comesToRest pc = .ok (.ireturn, 1) → va_P (dC, dI) vwCl [(a_o, .inr (7, [.int o0, .int o1])), (a_q0, .inr (2, [.int q0_persons, .int q0_ring, .int q0_highestTold, .ref a_q0_bestPlace, .ref a_q0_stepCost, .ref a_q0_kind, .ref a_q0_likings])), (a_q0_bestPlace, .inl (cI, 8, .inl q0_bestPlace)), (a_q0_stepCost, .inl (cI, 8, .inl q0_stepCost)), (a_q0_kind, .inl (cI, 8, .inl q0_kind)), (a_q0_likings, .inl (cI, 64, .inl q0_likings))] H → va_D A [(a_o, .inr (7, [.int o0, .int o1])), (a_q0, .inr (2, [.int q0_persons, .int q0_ring, .int q0_highestTold, .ref a_q0_bestPlace, .ref a_q0_stepCost, .ref a_q0_kind, .ref a_q0_likings])), (a_q0_bestPlace, .inl (cI, 8, .inl q0_bestPlace)), (a_q0_stepCost, .inl (cI, 8, .inl q0_stepCost)), (a_q0_kind, .inl (cI, 8, .inl q0_kind)), (a_q0_likings, .inl (cI, 64, .inl q0_likings))] → va_S A s.heap H locs → W p l e (headSpec (kws yX8_comesToRest cX8_comesToRest 7 (some .boolean)) rm_X8_comesToRest).room s m ([.ref a_o, .ref a_q0, .int x2] : List Value).toArray below meth c H locs 0 0 (MQ below (kQi Unit (dC, dI) A res.1 (fun _ => [(a_o, .inr (7, [.int res.2.1, .int res.2.2])), (a_q0, .inr (2, [.int q0_persons, .int q0_ring, .int q0_highestTold, .ref a_q0_bestPlace, .ref a_q0_stepCost, .ref a_q0_kind, .ref a_q0_likings])), (a_q0_bestPlace, .inl (cI, 8, .inl q0_bestPlace)), (a_q0_stepCost, .inl (cI, 8, .inl q0_stepCost)), (a_q0_kind, .inl (cI, 8, .inl q0_kind)), (a_q0_likings, .inl (cI, 64, .inl q0_likings))])) ([.ref a_o, .ref a_q0, .int x2] : List Value).toArray s 0 0 A) (F0 m pc ls [.int v]) := by
    intro H locs ls pc v o0 o1 he hz hd hP hD hS
    obtain rfl := Option.some.inj he
    exact krz hx hb hr hlocks () hz hP hD hS hd
  have hl := lv_entry ([.ref a_o, .ref a_q0, .int x2]) (n := 7) (Nat.le_of_ble_eq_true rfl)
  rw [lg_entry_eq]
  generalize (lg_sl ([.ref a_o, .ref a_q0, .int x2]) ++ List.replicate (7 - (lg_sl ([.ref a_o, .ref a_q0, .int x2])).length) Slot.unset).toArray = ls at hl ⊢
  have hl : lv_has ls 7 [(0, .ref a_o), (1, .ref a_q0), (2, .int x2)] := hl
  generalize (MQ below _ ([.ref a_o, .ref a_q0, .int x2] : List Value).toArray s 0 0 A) = Q at hret ⊢
  generalize ([.ref a_o, .ref a_q0, .int x2] : List Value).toArray = args at ht hret ⊢
  have hP : va_P (dC, dI) vwCl [(a_o, .inr (7, [.int o_steps, .int o_end])), (a_q0, .inr (2, [.int q0_persons, .int q0_ring, .int q0_highestTold, .ref a_q0_bestPlace, .ref a_q0_stepCost, .ref a_q0_kind, .ref a_q0_likings])), (a_q0_bestPlace, .inl (cI, 8, .inl q0_bestPlace)), (a_q0_stepCost, .inl (cI, 8, .inl q0_stepCost)), (a_q0_kind, .inl (cI, 8, .inl q0_kind)), (a_q0_likings, .inl (cI, 64, .inl q0_likings))] s.heap := hP
  unfold f_X8_comesToRest at hf
  have L21 : ∀ (n : Nat) (x3 : Int32) (x4 : Int32) (x5 : Int32) (o_steps : Int32) (o_end : Int32) (H : Heap) (locs : List Loc) (ls : Array Slot), f_X8_comesToRest_l21 q0_persons q0_ring q0_bestPlace q0_stepCost q0_kind q0_likings n x3 x4 x5 o_steps o_end = some res → va_P (dC, dI) vwCl [(a_o, .inr (7, [.int o_steps, .int o_end])), (a_q0, .inr (2, [.int q0_persons, .int q0_ring, .int q0_highestTold, .ref a_q0_bestPlace, .ref a_q0_stepCost, .ref a_q0_kind, .ref a_q0_likings])), (a_q0_bestPlace, .inl (cI, 8, .inl q0_bestPlace)), (a_q0_stepCost, .inl (cI, 8, .inl q0_stepCost)), (a_q0_kind, .inl (cI, 8, .inl q0_kind)), (a_q0_likings, .inl (cI, 64, .inl q0_likings))] H → va_D A [(a_o, .inr (7, [.int o_steps, .int o_end])), (a_q0, .inr (2, [.int q0_persons, .int q0_ring, .int q0_highestTold, .ref a_q0_bestPlace, .ref a_q0_stepCost, .ref a_q0_kind, .ref a_q0_likings])), (a_q0_bestPlace, .inl (cI, 8, .inl q0_bestPlace)), (a_q0_stepCost, .inl (cI, 8, .inl q0_stepCost)), (a_q0_kind, .inl (cI, 8, .inl q0_kind)), (a_q0_likings, .inl (cI, 64, .inl q0_likings))] → va_S A s.heap H locs → lv_has ls 7 [(0, .ref a_o), (1, .ref a_q0), (3, .int x3), (4, .int x4), (5, .int x5)] → W p l e (headSpec (kws yX8_comesToRest cX8_comesToRest 7 (some .boolean)) rm_X8_comesToRest).room s m args below meth c H locs 0 0 Q (F0 m 21 ls []) := by
    intro n
    induction n with
    | zero =>
      intro x3 x4 x5 o_steps o_end H locs ls hf hP hD hS hl
      rw [f_X8_comesToRest_l21.eq_1] at hf
      cases hf
    | succ n21 ih21 =>
      have B115 : ∀ (x3 : Int32) (x4 : Int32) (x5 : Int32) (o_steps : Int32) (o_end : Int32) (H : Heap) (locs : List Loc) (ls : Array Slot), f_X8_comesToRest_b115 q0_persons q0_ring q0_bestPlace q0_stepCost q0_kind q0_likings (f_X8_comesToRest_l21 q0_persons q0_ring q0_bestPlace q0_stepCost q0_kind q0_likings n21) x3 x4 x5 o_steps o_end = some res → va_P (dC, dI) vwCl [(a_o, .inr (7, [.int o_steps, .int o_end])), (a_q0, .inr (2, [.int q0_persons, .int q0_ring, .int q0_highestTold, .ref a_q0_bestPlace, .ref a_q0_stepCost, .ref a_q0_kind, .ref a_q0_likings])), (a_q0_bestPlace, .inl (cI, 8, .inl q0_bestPlace)), (a_q0_stepCost, .inl (cI, 8, .inl q0_stepCost)), (a_q0_kind, .inl (cI, 8, .inl q0_kind)), (a_q0_likings, .inl (cI, 64, .inl q0_likings))] H → va_D A [(a_o, .inr (7, [.int o_steps, .int o_end])), (a_q0, .inr (2, [.int q0_persons, .int q0_ring, .int q0_highestTold, .ref a_q0_bestPlace, .ref a_q0_stepCost, .ref a_q0_kind, .ref a_q0_likings])), (a_q0_bestPlace, .inl (cI, 8, .inl q0_bestPlace)), (a_q0_stepCost, .inl (cI, 8, .inl q0_stepCost)), (a_q0_kind, .inl (cI, 8, .inl q0_kind)), (a_q0_likings, .inl (cI, 64, .inl q0_likings))] → va_S A s.heap H locs → lv_has ls 7 [(0, .ref a_o), (1, .ref a_q0), (3, .int x3), (4, .int x4), (5, .int x5)] → W p l e (headSpec (kws yX8_comesToRest cX8_comesToRest 7 (some .boolean)) rm_X8_comesToRest).room s m args below meth c H locs 0 0 Q (F0 m 115 ls []) := by
        intro x3 x4 x5 o_steps o_end H locs ls hf hP hD hS hl
        unfold f_X8_comesToRest_b115 at hf
        refine lv_aload_n hx hb dX8_comesToRest_115 rfl (lv_at hl 0 rfl) ?_
        refine lv_dup hx hb dX8_comesToRest_116 rfl ?_
        refine va_get (ci := 7) (v := .int o_steps) (C := RX8) (T := TX8) (N := 2) hx hb ht inX8 hown hK hP 0 rfl rfl 0 (by decide) (ht _ wd_1_206) (fun _ h9 => h9) rfl dX8_comesToRest_117 ?_
        refine lv_iconst (v := (1 : Int32)) hx hb dX8_comesToRest_120 (by decide) ?_
        refine lv_iadd hx hb dX8_comesToRest_121 ?_
        refine va_put (ci := 7) (v := .int (o_steps + (1 : Int32))) (ty := .int) (C := RX8) (T := TX8) (N := 2) hx hb ht inX8 tyX8 tyX8_ok nmX8 hown hK hP hD hS 0 rfl rfl 0 (by decide) (ht _ wd_1_206) (fun _ h9 => h9) rfl (tyX8_ok 0 (by decide)) rfl rfl (Nat.le_of_ble_eq_true rfl) dX8_comesToRest_122 (fun H locs hP hD hS => ?_)
        have hP : va_P (dC, dI) vwCl [(a_o, .inr (7, [.int (o_steps + (1 : Int32)), .int o_end])), (a_q0, .inr (2, [.int q0_persons, .int q0_ring, .int q0_highestTold, .ref a_q0_bestPlace, .ref a_q0_stepCost, .ref a_q0_kind, .ref a_q0_likings])), (a_q0_bestPlace, .inl (cI, 8, .inl q0_bestPlace)), (a_q0_stepCost, .inl (cI, 8, .inl q0_stepCost)), (a_q0_kind, .inl (cI, 8, .inl q0_kind)), (a_q0_likings, .inl (cI, 64, .inl q0_likings))] H := hP
        have hD : va_D A [(a_o, .inr (7, [.int (o_steps + (1 : Int32)), .int o_end])), (a_q0, .inr (2, [.int q0_persons, .int q0_ring, .int q0_highestTold, .ref a_q0_bestPlace, .ref a_q0_stepCost, .ref a_q0_kind, .ref a_q0_likings])), (a_q0_bestPlace, .inl (cI, 8, .inl q0_bestPlace)), (a_q0_stepCost, .inl (cI, 8, .inl q0_stepCost)), (a_q0_kind, .inl (cI, 8, .inl q0_kind)), (a_q0_likings, .inl (cI, 64, .inl q0_likings))] := hD
        refine lv_goto (tgt := 21) hx hb dX8_comesToRest_125 (by decide) ?_
        exact ih21 x3 x4 x5 (o_steps + (1 : Int32)) o_end H locs ls hf hP hD hS (lv_sub hl [0, 1, 2, 3, 4] rfl)
      have B59 : ∀ (x3 : Int32) (x4 : Int32) (x5 : Int32) (x6 : Int32) (o_steps : Int32) (o_end : Int32) (H : Heap) (locs : List Loc) (ls : Array Slot), f_X8_comesToRest_b59 q0_persons q0_ring q0_bestPlace q0_stepCost q0_kind q0_likings (f_X8_comesToRest_l21 q0_persons q0_ring q0_bestPlace q0_stepCost q0_kind q0_likings n21) x3 x4 x5 x6 o_steps o_end = some res → va_P (dC, dI) vwCl [(a_o, .inr (7, [.int o_steps, .int o_end])), (a_q0, .inr (2, [.int q0_persons, .int q0_ring, .int q0_highestTold, .ref a_q0_bestPlace, .ref a_q0_stepCost, .ref a_q0_kind, .ref a_q0_likings])), (a_q0_bestPlace, .inl (cI, 8, .inl q0_bestPlace)), (a_q0_stepCost, .inl (cI, 8, .inl q0_stepCost)), (a_q0_kind, .inl (cI, 8, .inl q0_kind)), (a_q0_likings, .inl (cI, 64, .inl q0_likings))] H → va_D A [(a_o, .inr (7, [.int o_steps, .int o_end])), (a_q0, .inr (2, [.int q0_persons, .int q0_ring, .int q0_highestTold, .ref a_q0_bestPlace, .ref a_q0_stepCost, .ref a_q0_kind, .ref a_q0_likings])), (a_q0_bestPlace, .inl (cI, 8, .inl q0_bestPlace)), (a_q0_stepCost, .inl (cI, 8, .inl q0_stepCost)), (a_q0_kind, .inl (cI, 8, .inl q0_kind)), (a_q0_likings, .inl (cI, 64, .inl q0_likings))] → va_S A s.heap H locs → lv_has ls 7 [(0, .ref a_o), (1, .ref a_q0), (3, .int x3), (4, .int x4), (5, .int x5), (6, .int x6)] → W p l e (headSpec (kws yX8_comesToRest cX8_comesToRest 7 (some .boolean)) rm_X8_comesToRest).room s m args below meth c H locs 0 0 Q (F0 m 59 ls []) := by
        intro x3 x4 x5 x6 o_steps o_end H locs ls hf hP hD hS hl
        unfold f_X8_comesToRest_b59 at hf
        refine lv_iload hx hb dX8_comesToRest_59 (lv_at hl 5 rfl) ?_
        refine lv_iload_n hx hb dX8_comesToRest_61 rfl (lv_at hl 2 rfl) ?_
        refine lv_icmp_lt (tgt := 67) hx hb dX8_comesToRest_62 (by decide) (fun c_1 => ?_) (fun c_1 => ?_)
        · have hf := ifp c_1 hf
          refine lv_aload_n hx hb dX8_comesToRest_67 rfl (lv_at hl 0 rfl) ?_
          refine lv_aload_n hx hb dX8_comesToRest_68 rfl (lv_at hl 1 rfl) ?_
          refine lv_aload_n hx hb dX8_comesToRest_69 rfl (lv_at hl 0 rfl) ?_
          refine va_get (ci := 7) (v := .int o_end) (C := RX8) (T := TX8) (N := 2) hx hb ht inX8 hown hK hP 0 rfl rfl 1 (by decide) (ht _ wd_1_208) (fun _ h9 => h9) rfl dX8_comesToRest_70 ?_
          refine lv_iload hx hb dX8_comesToRest_73 (lv_at hl 5 rfl) ?_
          obtain ⟨u_2, h_3, hf⟩ := obs hf
          refine kcVi (rest := [.ref a_o]) (wr := [(a_o, .inr (7, [.int o_steps, .int o_end])), (a_q0_bestPlace, .inl (cI, 8, .inl q0_bestPlace)), (a_q0_stepCost, .inl (cI, 8, .inl q0_stepCost)), (a_q0_kind, .inl (cI, 8, .inl q0_kind)), (a_q0_likings, .inl (cI, 64, .inl q0_likings))]) (w2 := fun _ => [(a_o, .inr (7, [.int o_steps, .int o_end])), (a_q0, .inr (2, [.int q0_persons, .int q0_ring, .int q0_highestTold, .ref a_q0_bestPlace, .ref a_q0_stepCost, .ref a_q0_kind, .ref a_q0_likings])), (a_q0_bestPlace, .inl (cI, 8, .inl q0_bestPlace)), (a_q0_stepCost, .inl (cI, 8, .inl q0_stepCost)), (a_q0_kind, .inl (cI, 8, .inl q0_kind)), (a_q0_likings, .inl (cI, 64, .inl q0_likings))]) hx hb hml hown ht (c_X2_changed l dC dI cI cJ cZ a_q0 a_q0_bestPlace a_q0_stepCost a_q0_kind a_q0_likings H.size q0_persons q0_ring q0_highestTold o_end x6 u_2 h_3) (kcw 2 ht wd_2_171 wd_1_3 wd_3_45 kd_X2_changed ⟨rfl, rfl⟩ ⟨Nat.le_of_ble_eq_true rfl, Nat.le_of_ble_eq_true rfl⟩) wd_2_169 wd_2_170 hK hP hD hS hA [1] [0, 2, 3, 4, 5] [0, 5, 1, 2, 3, 4] rfl rfl rfl rfl (by decide) rfl (fun _ => rfl) (ci := 2) rfl rfl rfl rfl hl.1 rfl (Nat.le_of_ble_eq_true rfl) dX8_comesToRest_75 ⟨Nat.zero_le _, Nat.zero_le _⟩ (fun _ H locs hP hD hS => ?_)
          have hP : va_P (dC, dI) vwCl [(a_o, .inr (7, [.int o_steps, .int o_end])), (a_q0, .inr (2, [.int q0_persons, .int q0_ring, .int q0_highestTold, .ref a_q0_bestPlace, .ref a_q0_stepCost, .ref a_q0_kind, .ref a_q0_likings])), (a_q0_bestPlace, .inl (cI, 8, .inl q0_bestPlace)), (a_q0_stepCost, .inl (cI, 8, .inl q0_stepCost)), (a_q0_kind, .inl (cI, 8, .inl q0_kind)), (a_q0_likings, .inl (cI, 64, .inl q0_likings))] H := hP
          have hD : va_D A [(a_o, .inr (7, [.int o_steps, .int o_end])), (a_q0, .inr (2, [.int q0_persons, .int q0_ring, .int q0_highestTold, .ref a_q0_bestPlace, .ref a_q0_stepCost, .ref a_q0_kind, .ref a_q0_likings])), (a_q0_bestPlace, .inl (cI, 8, .inl q0_bestPlace)), (a_q0_stepCost, .inl (cI, 8, .inl q0_stepCost)), (a_q0_kind, .inl (cI, 8, .inl q0_kind)), (a_q0_likings, .inl (cI, 64, .inl q0_likings))] := hD
          refine va_put (ci := 7) (v := .int u_2) (ty := .int) (C := RX8) (T := TX8) (N := 2) hx hb ht inX8 tyX8 tyX8_ok nmX8 hown hK hP hD hS 0 rfl rfl 1 (by decide) (ht _ wd_1_208) (fun _ h9 => h9) rfl (tyX8_ok 1 (by decide)) rfl rfl (Nat.le_of_ble_eq_true rfl) dX8_comesToRest_78 (fun H locs hP hD hS => ?_)
          have hP : va_P (dC, dI) vwCl [(a_o, .inr (7, [.int o_steps, .int u_2])), (a_q0, .inr (2, [.int q0_persons, .int q0_ring, .int q0_highestTold, .ref a_q0_bestPlace, .ref a_q0_stepCost, .ref a_q0_kind, .ref a_q0_likings])), (a_q0_bestPlace, .inl (cI, 8, .inl q0_bestPlace)), (a_q0_stepCost, .inl (cI, 8, .inl q0_stepCost)), (a_q0_kind, .inl (cI, 8, .inl q0_kind)), (a_q0_likings, .inl (cI, 64, .inl q0_likings))] H := hP
          have hD : va_D A [(a_o, .inr (7, [.int o_steps, .int u_2])), (a_q0, .inr (2, [.int q0_persons, .int q0_ring, .int q0_highestTold, .ref a_q0_bestPlace, .ref a_q0_stepCost, .ref a_q0_kind, .ref a_q0_likings])), (a_q0_bestPlace, .inl (cI, 8, .inl q0_bestPlace)), (a_q0_stepCost, .inl (cI, 8, .inl q0_stepCost)), (a_q0_kind, .inl (cI, 8, .inl q0_kind)), (a_q0_likings, .inl (cI, 64, .inl q0_likings))] := hD
          refine lv_aload_n hx hb dX8_comesToRest_81 rfl (lv_at hl 0 rfl) ?_
          refine va_get (ci := 7) (v := .int u_2) (C := RX8) (T := TX8) (N := 2) hx hb ht inX8 hown hK hP 0 rfl rfl 1 (by decide) (ht _ wd_1_208) (fun _ h9 => h9) rfl dX8_comesToRest_82 ?_
          refine lv_iload hx hb dX8_comesToRest_85 (lv_at hl 3 rfl) ?_
          refine lv_icmp_ne (tgt := 92) hx hb dX8_comesToRest_87 (by decide) (fun c_4 => ?_) (fun c_4 => ?_)
          · have hf := ifn c_4 hf
            refine lv_aload_n hx hb dX8_comesToRest_92 rfl (lv_at hl 0 rfl) ?_
            refine va_get (ci := 7) (v := .int o_steps) (C := RX8) (T := TX8) (N := 2) hx hb ht inX8 hown hK hP 0 rfl rfl 0 (by decide) (ht _ wd_1_206) (fun _ h9 => h9) rfl dX8_comesToRest_93 ?_
            refine lv_iload hx hb dX8_comesToRest_96 (lv_at hl 4 rfl) ?_
            refine lv_icmp_ne (tgt := 115) hx hb dX8_comesToRest_98 (by decide) (fun c_5 => ?_) (fun c_5 => ?_)
            · have hf := ifn c_5 hf
              exact B115 x3 x4 x5 o_steps u_2 H locs ls hf hP hD hS (lv_sub hl [0, 1, 2, 3, 4] rfl)
            · have hf := ifp c_5 hf
              refine lv_aload_n hx hb dX8_comesToRest_101 rfl (lv_at hl 0 rfl) ?_
              refine va_get (ci := 7) (v := .int u_2) (C := RX8) (T := TX8) (N := 2) hx hb ht inX8 hown hK hP 0 rfl rfl 1 (by decide) (ht _ wd_1_208) (fun _ h9 => h9) rfl dX8_comesToRest_102 ?_
              refine lv_istore (lv' := [(4, .int u_2), (0, .ref a_o), (1, .ref a_q0), (3, .int x3), (5, .int x5), (6, .int x6)]) hx hb dX8_comesToRest_105 hl (by decide) rfl (fun ls hl => ?_)
              refine lv_iconst (v := (2 : Int32)) hx hb dX8_comesToRest_107 (by decide) ?_
              refine lv_iload hx hb dX8_comesToRest_108 (lv_at hl 4 rfl) ?_
              refine lv_imul hx hb dX8_comesToRest_110 ?_
              refine lv_iconst (v := (1 : Int32)) hx hb dX8_comesToRest_111 (by decide) ?_
              refine lv_iadd hx hb dX8_comesToRest_112 ?_
              refine lv_istore (lv' := [(5, .int (((2 : Int32) * x5) + (1 : Int32))), (4, .int u_2), (0, .ref a_o), (1, .ref a_q0), (3, .int x3), (6, .int x6)]) hx hb dX8_comesToRest_113 hl (by decide) rfl (fun ls hl => ?_)
              exact B115 x3 u_2 (((2 : Int32) * x5) + (1 : Int32)) o_steps u_2 H locs ls hf hP hD hS (lv_sub hl [2, 3, 4, 1, 0] rfl)
          · have hf := ifp c_4 hf
            refine lv_iconst (v := (0 : Int32)) hx hb dX8_comesToRest_90 (by decide) ?_
            exact hret H locs ls 91 (0 : Int32) o_steps u_2 hf (Or.inl rfl) dX8_comesToRest_91 hP hD hS
        · have hf := ifn c_1 hf
          refine lv_iconst (v := (1 : Int32)) hx hb dX8_comesToRest_65 (by decide) ?_
          exact hret H locs ls 66 (1 : Int32) o_steps o_end hf (Or.inr rfl) dX8_comesToRest_66 hP hD hS
      have L34 : ∀ (n : Nat) (x3 : Int32) (x4 : Int32) (x5 : Int32) (x6 : Int32) (o_steps : Int32) (o_end : Int32) (H : Heap) (locs : List Loc) (ls : Array Slot), f_X8_comesToRest_l34 q0_persons q0_ring q0_bestPlace q0_stepCost q0_kind q0_likings (f_X8_comesToRest_l21 q0_persons q0_ring q0_bestPlace q0_stepCost q0_kind q0_likings n21) n x3 x4 x5 x6 o_steps o_end = some res → va_P (dC, dI) vwCl [(a_o, .inr (7, [.int o_steps, .int o_end])), (a_q0, .inr (2, [.int q0_persons, .int q0_ring, .int q0_highestTold, .ref a_q0_bestPlace, .ref a_q0_stepCost, .ref a_q0_kind, .ref a_q0_likings])), (a_q0_bestPlace, .inl (cI, 8, .inl q0_bestPlace)), (a_q0_stepCost, .inl (cI, 8, .inl q0_stepCost)), (a_q0_kind, .inl (cI, 8, .inl q0_kind)), (a_q0_likings, .inl (cI, 64, .inl q0_likings))] H → va_D A [(a_o, .inr (7, [.int o_steps, .int o_end])), (a_q0, .inr (2, [.int q0_persons, .int q0_ring, .int q0_highestTold, .ref a_q0_bestPlace, .ref a_q0_stepCost, .ref a_q0_kind, .ref a_q0_likings])), (a_q0_bestPlace, .inl (cI, 8, .inl q0_bestPlace)), (a_q0_stepCost, .inl (cI, 8, .inl q0_stepCost)), (a_q0_kind, .inl (cI, 8, .inl q0_kind)), (a_q0_likings, .inl (cI, 64, .inl q0_likings))] → va_S A s.heap H locs → lv_has ls 7 [(0, .ref a_o), (1, .ref a_q0), (3, .int x3), (4, .int x4), (5, .int x5), (6, .int x6)] → W p l e (headSpec (kws yX8_comesToRest cX8_comesToRest 7 (some .boolean)) rm_X8_comesToRest).room s m args below meth c H locs 0 0 Q (F0 m 34 ls []) := by
        intro n
        induction n with
        | zero =>
          intro x3 x4 x5 x6 o_steps o_end H locs ls hf hP hD hS hl
          rw [f_X8_comesToRest_l34.eq_1] at hf
          cases hf
        | succ n34 ih34 =>
          intro x3 x4 x5 x6 o_steps o_end H locs ls hf hP hD hS hl
          rw [f_X8_comesToRest_l34.eq_2] at hf
          refine lv_iload hx hb dX8_comesToRest_34 (lv_at hl 5 rfl) ?_
          refine lv_iload_n hx hb dX8_comesToRest_36 rfl (lv_at hl 2 rfl) ?_
          refine lv_icmp_ge (tgt := 59) hx hb dX8_comesToRest_37 (by decide) (fun c_6 => ?_) (fun c_6 => ?_)
          · have hf := ifp c_6 hf
            exact B59 x3 x4 x5 x6 o_steps o_end H locs ls hf hP hD hS (lv_sub hl [0, 1, 2, 3, 4, 5] rfl)
          · have hf := ifn c_6 hf
            refine lv_aload_n hx hb dX8_comesToRest_40 rfl (lv_at hl 1 rfl) ?_
            refine lv_aload_n hx hb dX8_comesToRest_41 rfl (lv_at hl 0 rfl) ?_
            refine va_get (ci := 7) (v := .int o_end) (C := RX8) (T := TX8) (N := 2) hx hb ht inX8 hown hK hP 0 rfl rfl 1 (by decide) (ht _ wd_1_208) (fun _ h9 => h9) rfl dX8_comesToRest_42 ?_
            refine lv_iload hx hb dX8_comesToRest_45 (lv_at hl 5 rfl) ?_
            obtain ⟨u_7, h_8, hf⟩ := obs hf
            refine kcVi (rest := []) (wr := [(a_o, .inr (7, [.int o_steps, .int o_end]))]) (w2 := fun _ => [(a_o, .inr (7, [.int o_steps, .int o_end])), (a_q0, .inr (2, [.int q0_persons, .int q0_ring, .int q0_highestTold, .ref a_q0_bestPlace, .ref a_q0_stepCost, .ref a_q0_kind, .ref a_q0_likings])), (a_q0_bestPlace, .inl (cI, 8, .inl q0_bestPlace)), (a_q0_stepCost, .inl (cI, 8, .inl q0_stepCost)), (a_q0_kind, .inl (cI, 8, .inl q0_kind)), (a_q0_likings, .inl (cI, 64, .inl q0_likings))]) hx hb hml hown ht (c_X2_changeSuits l dC dI cI cJ cZ a_q0 a_q0_bestPlace a_q0_stepCost a_q0_kind a_q0_likings H.size q0_persons q0_ring q0_highestTold q0_bestPlace q0_stepCost q0_kind q0_likings o_end x6 u_7 h_8) (kcw 2 ht wd_2_167 wd_1_3 wd_3_44 kd_X2_changeSuits ⟨rfl, rfl⟩ ⟨Nat.le_of_ble_eq_true rfl, Nat.le_of_ble_eq_true rfl⟩) wd_2_165 wd_2_166 hK hP hD hS hA [1, 2, 3, 4, 5] [0] [0, 1, 2, 3, 4, 5] rfl rfl rfl rfl (by decide) rfl (fun _ => rfl) (ci := 2) rfl rfl rfl rfl hl.1 rfl (Nat.le_of_ble_eq_true rfl) dX8_comesToRest_47 ⟨Nat.zero_le _, Nat.zero_le _⟩ (fun _ H locs hP hD hS => ?_)
            have hP : va_P (dC, dI) vwCl [(a_o, .inr (7, [.int o_steps, .int o_end])), (a_q0, .inr (2, [.int q0_persons, .int q0_ring, .int q0_highestTold, .ref a_q0_bestPlace, .ref a_q0_stepCost, .ref a_q0_kind, .ref a_q0_likings])), (a_q0_bestPlace, .inl (cI, 8, .inl q0_bestPlace)), (a_q0_stepCost, .inl (cI, 8, .inl q0_stepCost)), (a_q0_kind, .inl (cI, 8, .inl q0_kind)), (a_q0_likings, .inl (cI, 64, .inl q0_likings))] H := hP
            have hD : va_D A [(a_o, .inr (7, [.int o_steps, .int o_end])), (a_q0, .inr (2, [.int q0_persons, .int q0_ring, .int q0_highestTold, .ref a_q0_bestPlace, .ref a_q0_stepCost, .ref a_q0_kind, .ref a_q0_likings])), (a_q0_bestPlace, .inl (cI, 8, .inl q0_bestPlace)), (a_q0_stepCost, .inl (cI, 8, .inl q0_stepCost)), (a_q0_kind, .inl (cI, 8, .inl q0_kind)), (a_q0_likings, .inl (cI, 64, .inl q0_likings))] := hD
            refine lv_if_ne (tgt := 59) hx hb dX8_comesToRest_50 (by decide) (fun c_9 => ?_) (fun c_9 => ?_)
            · have hf := ifn c_9 hf
              exact B59 x3 x4 x5 x6 o_steps o_end H locs ls hf hP hD hS (lv_sub hl [0, 1, 2, 3, 4, 5] rfl)
            · have hf := ifp c_9 hf
              refine lv_iinc (v := (x6 + (1 : Int32))) (lv' := [(6, .int (x6 + (1 : Int32))), (0, .ref a_o), (1, .ref a_q0), (3, .int x3), (4, .int x4), (5, .int x5)]) hx hb dX8_comesToRest_53 hl (k := 5) rfl rfl (by decide) rfl (fun ls hl => ?_)
              refine lv_goto (tgt := 34) hx hb dX8_comesToRest_56 (by decide) ?_
              exact ih34 x3 x4 x5 (x6 + (1 : Int32)) o_steps o_end H locs ls hf hP hD hS (lv_sub hl [1, 2, 3, 4, 5, 0] rfl)
      intro x3 x4 x5 o_steps o_end H locs ls hf hP hD hS hl
      rw [f_X8_comesToRest_l21.eq_2] at hf
      refine lv_aload_n hx hb dX8_comesToRest_21 rfl (lv_at hl 0 rfl) ?_
      refine va_get (ci := 7) (v := .int o_steps) (C := RX8) (T := TX8) (N := 2) hx hb ht inX8 hown hK hP 0 rfl rfl 0 (by decide) (ht _ wd_1_206) (fun _ h9 => h9) rfl dX8_comesToRest_22 ?_
      refine lv_sipush (v := (1000 : Int32)) hx hb dX8_comesToRest_25 (by decide) ?_
      refine lv_icmp_gt (tgt := 128) hx hb dX8_comesToRest_28 (by decide) (fun c_10 => ?_) (fun c_10 => ?_)
      · have hf := ifp c_10 hf
        refine lv_iconst (v := (0 : Int32)) hx hb dX8_comesToRest_128 (by decide) ?_
        exact hret H locs ls 129 (0 : Int32) o_steps o_end hf (Or.inl rfl) dX8_comesToRest_129 hP hD hS
      · have hf := ifn c_10 hf
        refine lv_iconst (v := (0 : Int32)) hx hb dX8_comesToRest_31 (by decide) ?_
        refine lv_istore (lv' := [(6, .int (0 : Int32)), (0, .ref a_o), (1, .ref a_q0), (3, .int x3), (4, .int x4), (5, .int x5)]) hx hb dX8_comesToRest_32 hl (by decide) rfl (fun ls hl => ?_)
        exact L34 NF x3 x4 x5 (0 : Int32) o_steps o_end H locs ls hf hP hD hS (lv_sub hl [1, 2, 3, 4, 5, 0] rfl)
  obtain ⟨H, hH⟩ : ∃ H, H = s.heap := ⟨_, rfl⟩
  obtain ⟨locs, hlo⟩ : ∃ L : List Loc, L = [] := ⟨_, rfl⟩
  rw [← hH] at hP
  have hS : va_S A s.heap H locs := by rw [hH, hlo]; exact hS
  rw [show W p l e (headSpec (kws yX8_comesToRest cX8_comesToRest 7 (some .boolean)) rm_X8_comesToRest).room s m args below meth c s.heap [] 0 0 Q (F0 m 0 ls []) = W p l e (headSpec (kws yX8_comesToRest cX8_comesToRest 7 (some .boolean)) rm_X8_comesToRest).room s m args below meth c H locs 0 0 Q (F0 m 0 ls []) from by rw [hH, hlo]]
  refine lv_aload_n hx hb dX8_comesToRest_0 rfl (lv_at hl 1 rfl) ?_
  obtain ⟨u_11, h_12, hf⟩ := obs hf
  refine kcVi (rest := []) (wr := [(a_o, .inr (7, [.int o_steps, .int o_end])), (a_q0_bestPlace, .inl (cI, 8, .inl q0_bestPlace)), (a_q0_stepCost, .inl (cI, 8, .inl q0_stepCost)), (a_q0_kind, .inl (cI, 8, .inl q0_kind)), (a_q0_likings, .inl (cI, 64, .inl q0_likings))]) (w2 := fun _ => [(a_o, .inr (7, [.int o_steps, .int o_end])), (a_q0, .inr (2, [.int q0_persons, .int q0_ring, .int q0_highestTold, .ref a_q0_bestPlace, .ref a_q0_stepCost, .ref a_q0_kind, .ref a_q0_likings])), (a_q0_bestPlace, .inl (cI, 8, .inl q0_bestPlace)), (a_q0_stepCost, .inl (cI, 8, .inl q0_stepCost)), (a_q0_kind, .inl (cI, 8, .inl q0_kind)), (a_q0_likings, .inl (cI, 64, .inl q0_likings))]) hx hb hml hown ht (c_X2_changeCount l dC dI cI cJ cZ a_q0 a_q0_bestPlace a_q0_stepCost a_q0_kind a_q0_likings H.size q0_persons q0_ring q0_highestTold u_11 h_12) (kcw 0 ht wd_2_145 wd_1_3 wd_3_43 kd_X2_changeCount ⟨rfl, rfl⟩ ⟨Nat.le_of_ble_eq_true rfl, Nat.le_of_ble_eq_true rfl⟩) wd_2_143 wd_2_144 hK hP hD hS hA [1] [0, 2, 3, 4, 5] [0, 5, 1, 2, 3, 4] rfl rfl rfl rfl (by decide) rfl (fun _ => rfl) (ci := 2) rfl rfl rfl rfl hl.1 rfl (Nat.le_of_ble_eq_true rfl) dX8_comesToRest_1 ⟨Nat.zero_le _, Nat.zero_le _⟩ (fun _ H locs hP hD hS => ?_)
  have hP : va_P (dC, dI) vwCl [(a_o, .inr (7, [.int o_steps, .int o_end])), (a_q0, .inr (2, [.int q0_persons, .int q0_ring, .int q0_highestTold, .ref a_q0_bestPlace, .ref a_q0_stepCost, .ref a_q0_kind, .ref a_q0_likings])), (a_q0_bestPlace, .inl (cI, 8, .inl q0_bestPlace)), (a_q0_stepCost, .inl (cI, 8, .inl q0_stepCost)), (a_q0_kind, .inl (cI, 8, .inl q0_kind)), (a_q0_likings, .inl (cI, 64, .inl q0_likings))] H := hP
  have hD : va_D A [(a_o, .inr (7, [.int o_steps, .int o_end])), (a_q0, .inr (2, [.int q0_persons, .int q0_ring, .int q0_highestTold, .ref a_q0_bestPlace, .ref a_q0_stepCost, .ref a_q0_kind, .ref a_q0_likings])), (a_q0_bestPlace, .inl (cI, 8, .inl q0_bestPlace)), (a_q0_stepCost, .inl (cI, 8, .inl q0_stepCost)), (a_q0_kind, .inl (cI, 8, .inl q0_kind)), (a_q0_likings, .inl (cI, 64, .inl q0_likings))] := hD
  refine lv_istore_n (lv' := [(3, .int u_11), (0, .ref a_o), (1, .ref a_q0), (2, .int x2)]) hx hb dX8_comesToRest_4 rfl hl (by decide) rfl (fun ls hl => ?_)
  refine lv_iload_n hx hb dX8_comesToRest_5 rfl (lv_at hl 3 rfl) ?_
  refine lv_istore (lv' := [(4, .int x2), (3, .int u_11), (0, .ref a_o), (1, .ref a_q0), (2, .int x2)]) hx hb dX8_comesToRest_6 hl (by decide) rfl (fun ls hl => ?_)
  refine lv_iconst (v := (1 : Int32)) hx hb dX8_comesToRest_8 (by decide) ?_
  refine lv_istore (lv' := [(5, .int (1 : Int32)), (4, .int x2), (3, .int u_11), (0, .ref a_o), (1, .ref a_q0), (2, .int x2)]) hx hb dX8_comesToRest_9 hl (by decide) rfl (fun ls hl => ?_)
  refine lv_aload_n hx hb dX8_comesToRest_11 rfl (lv_at hl 3 rfl) ?_
  refine lv_iload_n hx hb dX8_comesToRest_12 rfl (lv_at hl 5 rfl) ?_
  refine va_put (ci := 7) (v := .int x2) (ty := .int) (C := RX8) (T := TX8) (N := 2) hx hb ht inX8 tyX8 tyX8_ok nmX8 hown hK hP hD hS 0 rfl rfl 1 (by decide) (ht _ wd_1_208) (fun _ h9 => h9) rfl (tyX8_ok 1 (by decide)) rfl rfl (Nat.le_of_ble_eq_true rfl) dX8_comesToRest_13 (fun H locs hP hD hS => ?_)
  have hP : va_P (dC, dI) vwCl [(a_o, .inr (7, [.int o_steps, .int x2])), (a_q0, .inr (2, [.int q0_persons, .int q0_ring, .int q0_highestTold, .ref a_q0_bestPlace, .ref a_q0_stepCost, .ref a_q0_kind, .ref a_q0_likings])), (a_q0_bestPlace, .inl (cI, 8, .inl q0_bestPlace)), (a_q0_stepCost, .inl (cI, 8, .inl q0_stepCost)), (a_q0_kind, .inl (cI, 8, .inl q0_kind)), (a_q0_likings, .inl (cI, 64, .inl q0_likings))] H := hP
  have hD : va_D A [(a_o, .inr (7, [.int o_steps, .int x2])), (a_q0, .inr (2, [.int q0_persons, .int q0_ring, .int q0_highestTold, .ref a_q0_bestPlace, .ref a_q0_stepCost, .ref a_q0_kind, .ref a_q0_likings])), (a_q0_bestPlace, .inl (cI, 8, .inl q0_bestPlace)), (a_q0_stepCost, .inl (cI, 8, .inl q0_stepCost)), (a_q0_kind, .inl (cI, 8, .inl q0_kind)), (a_q0_likings, .inl (cI, 64, .inl q0_likings))] := hD
  refine lv_aload_n hx hb dX8_comesToRest_16 rfl (lv_at hl 3 rfl) ?_
  refine lv_iconst (v := (0 : Int32)) hx hb dX8_comesToRest_17 (by decide) ?_
  refine va_put (ci := 7) (v := .int (0 : Int32)) (ty := .int) (C := RX8) (T := TX8) (N := 2) hx hb ht inX8 tyX8 tyX8_ok nmX8 hown hK hP hD hS 0 rfl rfl 0 (by decide) (ht _ wd_1_206) (fun _ h9 => h9) rfl (tyX8_ok 0 (by decide)) rfl rfl (Nat.le_of_ble_eq_true rfl) dX8_comesToRest_18 (fun H locs hP hD hS => ?_)
  have hP : va_P (dC, dI) vwCl [(a_o, .inr (7, [.int (0 : Int32), .int x2])), (a_q0, .inr (2, [.int q0_persons, .int q0_ring, .int q0_highestTold, .ref a_q0_bestPlace, .ref a_q0_stepCost, .ref a_q0_kind, .ref a_q0_likings])), (a_q0_bestPlace, .inl (cI, 8, .inl q0_bestPlace)), (a_q0_stepCost, .inl (cI, 8, .inl q0_stepCost)), (a_q0_kind, .inl (cI, 8, .inl q0_kind)), (a_q0_likings, .inl (cI, 64, .inl q0_likings))] H := hP
  have hD : va_D A [(a_o, .inr (7, [.int (0 : Int32), .int x2])), (a_q0, .inr (2, [.int q0_persons, .int q0_ring, .int q0_highestTold, .ref a_q0_bestPlace, .ref a_q0_stepCost, .ref a_q0_kind, .ref a_q0_likings])), (a_q0_bestPlace, .inl (cI, 8, .inl q0_bestPlace)), (a_q0_stepCost, .inl (cI, 8, .inl q0_stepCost)), (a_q0_kind, .inl (cI, 8, .inl q0_kind)), (a_q0_likings, .inl (cI, 64, .inl q0_likings))] := hD
  exact L21 NF u_11 x2 (1 : Int32) (0 : Int32) x2 H locs ls hf hP hD hS (lv_sub hl [3, 4, 2, 1, 0] rfl)
