noncomputable def f_X7_in (p0 : Int) (p1 : Int) (p2 : Int) : Option (Int) :=
  gd (zR p0 ∧ zR p1 ∧ zR p2) <|
  if p0 < p1 then some 0 else
  if p0 ≤ p2 then some 1 else some 0
set_option maxRecDepth 100000 in
set_option maxHeartbeats 4000000 in
theorem c_X7_in (l : Launch) (D : va_G) (cy : Nat → ClassId) (sz : Nat) (p0 : Int) (p1 : Int) (p2 : Int) {r : Int} (hf : f_X7_in p0 p1 p2 = some r) : zMi l yX7_in wsX7_in ({ frames := 0, cells := 0, slots := 0, locals := 0 }) D cy sz [.long (zL p0), .long (zL p1), .long (zL p2)] [] [] (zI r) := by
  refine Met.ofW (cc := cX7_in) (maxL := 6) (ret := (some .boolean)) (by decide) rfl ?_
  intro p e s m args below meth c s₁ B hml hv
  obtain ⟨rfl, hsz, hP, hK, hD0⟩ := hv
  have hx := B.exec
  have hb := B.bytes
  have hr := B.returns
  have hlocks := B.notSynchronized
  subst hsz
  have hD := hD0.self (sz := s.heap.size)
  generalize hAe : va_A [] s.heap.size = A at hD ⊢
  have hS : va_S A s.heap s.heap [] := va_S.rf
  have hl := lv_entry ([.long (zL p0), .long (zL p1), .long (zL p2)]) (n := 6) (Nat.le_of_ble_eq_true rfl)
  rw [lg_entry_eq]
  generalize (lg_sl ([.long (zL p0), .long (zL p1), .long (zL p2)]) ++ List.replicate (6 - (lg_sl ([.long (zL p0), .long (zL p1), .long (zL p2)])).length) Slot.unset).toArray = ls at hl ⊢
  have hl : lv_has ls 6 [(0, .long (zL p0)), (2, .long (zL p1)), (4, .long (zL p2))] := hl
  have hf := zq_of hf
  unfold f_X7_in at hf
  obtain ⟨⟨h0, h1, h2⟩, hf⟩ := zq_gd hf
  have g1 : (lg_cmp (zL p0) (zL p1) < 0) ↔ p0 < p1 := by
    have q := lg_cmp_lt (zL p0) (zL p1)
    rw [Int64.lt_iff_toInt_lt, zL_toInt h0, zL_toInt h1] at q
    exact q
  have g2 : (0 < lg_cmp (zL p0) (zL p2)) ↔ p2 < p0 := by
    have q := lg_cmp_gt (zL p0) (zL p2)
    rw [Int64.lt_iff_toInt_lt, zL_toInt h0, zL_toInt h2] at q
    exact q
  refine lv_lload_n hx hb dX7_in_0 rfl (lv_at hl 0 rfl) ?_
  refine lv_lload_n hx hb dX7_in_1 rfl (lv_at hl 1 rfl) ?_
  refine W.lcmp hx hb dX7_in_2 ?_
  refine lv_if_lt (tgt := 17) hx hb dX7_in_3 (by decide) (fun hc => ?_) (fun hc => ?_)
  · rw [if_pos (g1.mp hc)] at hf
    refine lv_iconst (v := zI 0) hx hb dX7_in_17 rfl ?_
    have hf := zq_some hf
    cases hf
    exact W.zret hx hb hr rfl (fun t ht hW => ⟨⟨_, (), rfl, rfl, by rw [ht]; exact hP, hD⟩, hS.F ht⟩) hS.2.2 dX7_in_18
  · rw [if_neg (fun z => hc (g1.mpr z))] at hf
    refine lv_lload_n hx hb dX7_in_6 rfl (lv_at hl 0 rfl) ?_
    refine lv_lload hx hb dX7_in_7 (lv_at hl 2 rfl) ?_
    refine W.lcmp hx hb dX7_in_9 ?_
    refine lv_if_gt (tgt := 17) hx hb dX7_in_10 (by decide) (fun hc => ?_) (fun hc => ?_)
    · rw [if_neg (by have := g2.mp hc; omega)] at hf
      refine lv_iconst (v := zI 0) hx hb dX7_in_17 rfl ?_
      have hf := zq_some hf
      cases hf
      exact W.zret hx hb hr rfl (fun t ht hW => ⟨⟨_, (), rfl, rfl, by rw [ht]; exact hP, hD⟩, hS.F ht⟩) hS.2.2 dX7_in_18
    · rw [if_pos (Decidable.byContradiction (fun n => hc (g2.mpr (by omega))))] at hf
      refine lv_iconst (v := zI 1) hx hb dX7_in_13 rfl ?_
      refine lv_goto (tgt := 18) hx hb dX7_in_14 (by decide) ?_
      have hf := zq_some hf
      cases hf
      exact W.zret hx hb hr rfl (fun t ht hW => ⟨⟨_, (), rfl, rfl, by rw [ht]; exact hP, hD⟩, hS.F ht⟩) hS.2.2 dX7_in_18

noncomputable def st_X7_placeOf (p1 : Int) (qR : Nat → Int) : (Int) → Option ((Int) ⊕ (Int)) := fun x2 =>
  gd (zR x2 ∧ zR (qR 0)) <|
  if x2 < (qR 0) then
    gd (zin (4 + x2) 11) <|
    gd (zR (qR (Int.toNat (4 + x2))) ∧ zR p1) <|
    if (qR (Int.toNat (4 + x2))) < p1 then
      some (.inl (x2 + 1))
    else
      gd (zR x2 ∧ zR (qR 0)) <|
      if x2 < (qR 0) then
        gd (zin (4 + x2) 11) <|
        gd (zR (qR (Int.toNat (4 + x2))) ∧ zR p1) <|
        if (qR (Int.toNat (4 + x2))) = p1 then
          some (.inr x2)
        else
          some (.inr ((-1) - x2))
      else
        some (.inr ((-1) - x2))
  else
    gd (zR x2 ∧ zR (qR 0)) <|
    if x2 < (qR 0) then
      gd (zin (4 + x2) 11) <|
      gd (zR (qR (Int.toNat (4 + x2))) ∧ zR p1) <|
      if (qR (Int.toNat (4 + x2))) = p1 then
        some (.inr x2)
      else
        some (.inr ((-1) - x2))
    else
      some (.inr ((-1) - x2))
noncomputable def f_X7_placeOf (p1 : Int) (qR : Nat → Int) : Option (Int) :=
  zev (st_X7_placeOf p1 qR) 0

set_option maxRecDepth 100000 in
set_option maxHeartbeats 4000000 in
theorem c_X7_placeOf (l : Launch) (D : va_G) (cy : Nat → ClassId) (qQ : Nat) (sz : Nat) (p1 : Int) (qR : Nat → Int) {r : Int} (hf : f_X7_placeOf p1 qR = some r) : zMi l yX7_placeOf wsX7_placeOf ({ frames := 0, cells := 0, slots := 0, locals := 0 }) D cy sz [.ref qQ, .int (zI p1)] [eA qQ (cy 0) 11 qR] [eA qQ (cy 0) 11 qR] (zI r) := by
  refine Met.ofW (cc := cX7_placeOf) (maxL := 3) (ret := (some .int)) (by decide) rfl ?_
  intro p e s m args below meth c s₁ B hml hv
  obtain ⟨rfl, hsz, hP, hK, hD0⟩ := hv
  have hx := B.exec
  have hb := B.bytes
  have hr := B.returns
  have hts := atoms_spec (ws := wsX7_placeOf) B.pre
  have hown : s.vm.findClass RX7 = some m.cls := findClass_of_methodNamed B.named
  have hlocks := B.notSynchronized
  subst hsz
  have hD := hD0.self (sz := s.heap.size)
  generalize hAe : va_A [eA qQ (cy 0) 11 qR] s.heap.size = A at hD ⊢
  have hA : ∀ q : Nat, s.heap.size ≤ q → A q := fun q h => by rw [← hAe]; exact Or.inr h
  have hS : va_S A s.heap s.heap [] := va_S.rf
  have hl := lv_entry ([.ref qQ, .int (zI p1)]) (n := 3) (Nat.le_of_ble_eq_true rfl)
  rw [lg_entry_eq]
  generalize (lg_sl ([.ref qQ, .int (zI p1)]) ++ List.replicate (3 - (lg_sl ([.ref qQ, .int (zI p1)])).length) Slot.unset).toArray = ls at hl ⊢
  have hl : lv_has ls 3 [(0, .ref qQ), (1, .int (zI p1))] := hl
  have hf := zq_of hf
  have key := zloop (st := st_X7_placeOf p1 qR) (res := r) (K := fun x2 => ∀ (H : Heap) (locs : List Loc) (ls : Array Slot), va_P D vwCl [eA qQ (cy 0) 11 qR] H → va_D A [eA qQ (cy 0) 11 qR] → va_S A s.heap H locs → lv_has ls 3 [(0, .ref qQ), (1, .int (zI p1)), (2, .int (zI x2))] → zGi p l e wsX7_placeOf ({ frames := 0, cells := 0, slots := 0, locals := 0 }) s m [.ref qQ, .int (zI p1)] below meth c A D [eA qQ (cy 0) 11 qR] (zI r) H locs (F0 m 2 ls [])) (by
    intro x2 hf
    intro H locs ls hP hD hS hl
    unfold st_X7_placeOf at hf
    try dsimp only at hf
    refine lv_iload_n hx hb dX7_placeOf_2 rfl (lv_at hl 2 rfl) ?_
    refine lv_aload_n hx hb dX7_placeOf_3 rfl (lv_at hl 0 rfl) ?_
    refine lv_iconst (v := zI 0) hx hb dX7_placeOf_4 rfl ?_
    refine zz_iald (i := 0) hx hb hK hP 0 rfl (Nat.le_of_ble_eq_true rfl) (by decide) dX7_placeOf_5 ?_
    refine zz_icmp_ge (tgt := 24) hx hb dX7_placeOf_6 (by decide) hf (fun hc hf => ?_) (fun hc hf => ?_)
    · refine lv_aload_n hx hb dX7_placeOf_9 rfl (lv_at hl 0 rfl) ?_
      refine lv_iconst (v := zI 4) hx hb dX7_placeOf_10 rfl ?_
      refine lv_iload_n hx hb dX7_placeOf_11 rfl (lv_at hl 2 rfl) ?_
      refine zz_iadd hx hb dX7_placeOf_12 ?_
      obtain ⟨hg, hf⟩ := zq_gd hf
      refine zz_iald (i := (4 + x2)) hx hb hK hP 0 rfl (Nat.le_of_ble_eq_true rfl) hg dX7_placeOf_13 ?_
      refine lv_iload_n hx hb dX7_placeOf_14 rfl (lv_at hl 1 rfl) ?_
      refine zz_icmp_ge (tgt := 24) hx hb dX7_placeOf_15 (by decide) hf (fun hc hf => ?_) (fun hc hf => ?_)
      · refine lv_iinc (v := zI (x2 + 1)) (lv' := [(2, .int (zI (x2 + 1))), (0, .ref qQ), (1, .int (zI p1))]) hx hb dX7_placeOf_18 hl (k := 2) rfl (zI_add _ _) (by decide) rfl (fun ls hl => ?_)
        refine lv_goto (tgt := 2) hx hb dX7_placeOf_21 (by decide) ?_
        have hf := zq_some hf
        exact hf _ _ _ hP hD hS (lv_sub hl [1, 2, 0] rfl)
      · refine lv_iload_n hx hb dX7_placeOf_24 rfl (lv_at hl 2 rfl) ?_
        refine lv_aload_n hx hb dX7_placeOf_25 rfl (lv_at hl 0 rfl) ?_
        refine lv_iconst (v := zI 0) hx hb dX7_placeOf_26 rfl ?_
        refine zz_iald (i := 0) hx hb hK hP 0 rfl (Nat.le_of_ble_eq_true rfl) (by decide) dX7_placeOf_27 ?_
        refine zz_icmp_ge (tgt := 44) hx hb dX7_placeOf_28 (by decide) hf (fun hc hf => ?_) (fun hc hf => ?_)
        · refine lv_aload_n hx hb dX7_placeOf_31 rfl (lv_at hl 0 rfl) ?_
          refine lv_iconst (v := zI 4) hx hb dX7_placeOf_32 rfl ?_
          refine lv_iload_n hx hb dX7_placeOf_33 rfl (lv_at hl 2 rfl) ?_
          refine zz_iadd hx hb dX7_placeOf_34 ?_
          obtain ⟨hg, hf⟩ := zq_gd hf
          refine zz_iald (i := (4 + x2)) hx hb hK hP 0 rfl (Nat.le_of_ble_eq_true rfl) hg dX7_placeOf_35 ?_
          refine lv_iload_n hx hb dX7_placeOf_36 rfl (lv_at hl 1 rfl) ?_
          refine zz_icmp_ne (tgt := 44) hx hb dX7_placeOf_37 (by decide) hf (fun hc hf => ?_) (fun hc hf => ?_)
          · refine lv_iload_n hx hb dX7_placeOf_40 rfl (lv_at hl 2 rfl) ?_
            refine lv_goto (tgt := 47) hx hb dX7_placeOf_41 (by decide) ?_
            have hf := zq_some hf
            cases hf
            exact W.iret hx hb hr (fun t ht hW => ⟨⟨_, (), rfl, rfl, by rw [ht]; exact hP, hD⟩, hS.F ht⟩) hS.2.2 dX7_placeOf_47
          · refine lv_iconst (v := zI (-1)) hx hb dX7_placeOf_44 rfl ?_
            refine lv_iload_n hx hb dX7_placeOf_45 rfl (lv_at hl 2 rfl) ?_
            refine zz_isub hx hb dX7_placeOf_46 ?_
            have hf := zq_some hf
            cases hf
            exact W.iret hx hb hr (fun t ht hW => ⟨⟨_, (), rfl, rfl, by rw [ht]; exact hP, hD⟩, hS.F ht⟩) hS.2.2 dX7_placeOf_47
        · refine lv_iconst (v := zI (-1)) hx hb dX7_placeOf_44 rfl ?_
          refine lv_iload_n hx hb dX7_placeOf_45 rfl (lv_at hl 2 rfl) ?_
          refine zz_isub hx hb dX7_placeOf_46 ?_
          have hf := zq_some hf
          cases hf
          exact W.iret hx hb hr (fun t ht hW => ⟨⟨_, (), rfl, rfl, by rw [ht]; exact hP, hD⟩, hS.F ht⟩) hS.2.2 dX7_placeOf_47
    · refine lv_iload_n hx hb dX7_placeOf_24 rfl (lv_at hl 2 rfl) ?_
      refine lv_aload_n hx hb dX7_placeOf_25 rfl (lv_at hl 0 rfl) ?_
      refine lv_iconst (v := zI 0) hx hb dX7_placeOf_26 rfl ?_
      refine zz_iald (i := 0) hx hb hK hP 0 rfl (Nat.le_of_ble_eq_true rfl) (by decide) dX7_placeOf_27 ?_
      refine zz_icmp_ge (tgt := 44) hx hb dX7_placeOf_28 (by decide) hf (fun hc hf => ?_) (fun hc hf => ?_)
      · refine lv_aload_n hx hb dX7_placeOf_31 rfl (lv_at hl 0 rfl) ?_
        refine lv_iconst (v := zI 4) hx hb dX7_placeOf_32 rfl ?_
        refine lv_iload_n hx hb dX7_placeOf_33 rfl (lv_at hl 2 rfl) ?_
        refine zz_iadd hx hb dX7_placeOf_34 ?_
        obtain ⟨hg, hf⟩ := zq_gd hf
        refine zz_iald (i := (4 + x2)) hx hb hK hP 0 rfl (Nat.le_of_ble_eq_true rfl) hg dX7_placeOf_35 ?_
        refine lv_iload_n hx hb dX7_placeOf_36 rfl (lv_at hl 1 rfl) ?_
        refine zz_icmp_ne (tgt := 44) hx hb dX7_placeOf_37 (by decide) hf (fun hc hf => ?_) (fun hc hf => ?_)
        · refine lv_iload_n hx hb dX7_placeOf_40 rfl (lv_at hl 2 rfl) ?_
          refine lv_goto (tgt := 47) hx hb dX7_placeOf_41 (by decide) ?_
          have hf := zq_some hf
          cases hf
          exact W.iret hx hb hr (fun t ht hW => ⟨⟨_, (), rfl, rfl, by rw [ht]; exact hP, hD⟩, hS.F ht⟩) hS.2.2 dX7_placeOf_47
        · refine lv_iconst (v := zI (-1)) hx hb dX7_placeOf_44 rfl ?_
          refine lv_iload_n hx hb dX7_placeOf_45 rfl (lv_at hl 2 rfl) ?_
          refine zz_isub hx hb dX7_placeOf_46 ?_
          have hf := zq_some hf
          cases hf
          exact W.iret hx hb hr (fun t ht hW => ⟨⟨_, (), rfl, rfl, by rw [ht]; exact hP, hD⟩, hS.F ht⟩) hS.2.2 dX7_placeOf_47
      · refine lv_iconst (v := zI (-1)) hx hb dX7_placeOf_44 rfl ?_
        refine lv_iload_n hx hb dX7_placeOf_45 rfl (lv_at hl 2 rfl) ?_
        refine zz_isub hx hb dX7_placeOf_46 ?_
        have hf := zq_some hf
        cases hf
        exact W.iret hx hb hr (fun t ht hW => ⟨⟨_, (), rfl, rfl, by rw [ht]; exact hP, hD⟩, hS.F ht⟩) hS.2.2 dX7_placeOf_47
    )
  unfold f_X7_placeOf at hf
  refine lv_iconst (v := zI 0) hx hb dX7_placeOf_0 rfl ?_
  refine lv_istore_n (lv' := [(2, .int (zI 0)), (0, .ref qQ), (1, .int (zI p1))]) hx hb dX7_placeOf_1 rfl hl (by decide) rfl (fun ls hl => ?_)
  exact key _ (zq_eq hf) _ _ _ hP hD hS (lv_sub hl [1, 2, 0] rfl)

noncomputable def st_X7_put (p1 : Int) : (Int × Int × (Nat → Int)) → Option ((Int × Int × (Nat → Int)) ⊕ ((Nat → Int))) := fun (x2, x3, qR) =>
  gd (zR x3 ∧ zR x2) <|
  if x3 ≤ x2 then
    gd (zin (4 + x2) 11) <|
    some (.inr (zup (zup qR (4 + x2) p1) 0 (((zup qR (4 + x2) p1) 0) + 1)))
  else
    gd (zin ((4 + x3) - 1) 11) <|
    gd (zin (4 + x3) 11) <|
    some (.inl (x2, (x3 + (-1)), (zup qR (4 + x3) (qR (Int.toNat ((4 + x3) - 1))))))
noncomputable def f_X7_put (p1 : Int) (qR : Nat → Int) : Option ((Nat → Int)) :=
  (f_X7_placeOf p1 qR).bind fun r3 =>
  zlt ((-1) - r3) fun v7 =>
  zlt (qR 0) fun v11 =>
  zev (st_X7_put p1) (v7, v11, qR)

set_option maxRecDepth 100000 in
set_option maxHeartbeats 4000000 in
theorem c_X7_put (l : Launch) (D : va_G) (cy : Nat → ClassId) (qQ : Nat) (sz : Nat) (p1 : Int) (qR : Nat → Int) {qR' : Nat → Int} (hf : f_X7_put p1 qR = some qR') : zMv l yX7_put wsX7_put ({ frames := 1, cells := 0, slots := 0, locals := 22 }) D cy sz [.ref qQ, .int (zI p1)] [eA qQ (cy 0) 11 qR] [eA qQ (cy 0) 11 qR'] := by
  refine Met.ofW (cc := cX7_put) (maxL := 4) (ret := none) (by decide) rfl ?_
  intro p e s m args below meth c s₁ B hml hv
  obtain ⟨rfl, hsz, hP, hK, hD0⟩ := hv
  have hx := B.exec
  have hb := B.bytes
  have hr := B.returns
  have hts := atoms_spec (ws := wsX7_put) B.pre
  have hown : s.vm.findClass RX7 = some m.cls := findClass_of_methodNamed B.named
  have hlocks := B.notSynchronized
  subst hsz
  have hD := hD0.self (sz := s.heap.size)
  generalize hAe : va_A [eA qQ (cy 0) 11 qR] s.heap.size = A at hD ⊢
  have hA : ∀ q : Nat, s.heap.size ≤ q → A q := fun q h => by rw [← hAe]; exact Or.inr h
  have hS : va_S A s.heap s.heap [] := va_S.rf
  have hl := lv_entry ([.ref qQ, .int (zI p1)]) (n := 4) (Nat.le_of_ble_eq_true rfl)
  rw [lg_entry_eq]
  generalize (lg_sl ([.ref qQ, .int (zI p1)]) ++ List.replicate (4 - (lg_sl ([.ref qQ, .int (zI p1)])).length) Slot.unset).toArray = ls at hl ⊢
  have hl : lv_has ls 4 [(0, .ref qQ), (1, .int (zI p1))] := hl
  have hf := zq_of hf
  have key := zloop (st := st_X7_put p1) (res := qR') (K := fun (x2, x3, qR) => ∀ (H : Heap) (locs : List Loc) (ls : Array Slot), va_P D vwCl [eA qQ (cy 0) 11 qR] H → va_D A [eA qQ (cy 0) 11 qR] → va_S A s.heap H locs → lv_has ls 4 [(0, .ref qQ), (1, .int (zI p1)), (2, .int (zI x2)), (3, .int (zI x3))] → zGv p l e wsX7_put ({ frames := 1, cells := 0, slots := 0, locals := 22 }) s m [.ref qQ, .int (zI p1)] below meth c A D [eA qQ (cy 0) 11 qR'] H locs (F0 m 12 ls [])) (by
    rintro ⟨x2, x3, qR⟩ hf
    intro H locs ls hP hD hS hl
    unfold st_X7_put at hf
    try dsimp only at hf
    refine lv_iload_n hx hb dX7_put_12 rfl (lv_at hl 3 rfl) ?_
    refine lv_iload_n hx hb dX7_put_13 rfl (lv_at hl 2 rfl) ?_
    refine zz_icmp_le (tgt := 35) hx hb dX7_put_14 (by decide) hf (fun hc hf => ?_) (fun hc hf => ?_)
    · refine lv_aload_n hx hb dX7_put_35 rfl (lv_at hl 0 rfl) ?_
      refine lv_iconst (v := zI 4) hx hb dX7_put_36 rfl ?_
      refine lv_iload_n hx hb dX7_put_37 rfl (lv_at hl 2 rfl) ?_
      refine zz_iadd hx hb dX7_put_38 ?_
      refine lv_iload_n hx hb dX7_put_39 rfl (lv_at hl 1 rfl) ?_
      obtain ⟨hg, hf⟩ := zq_gd hf
      refine zz_iast (i := (4 + x2)) hx hb hK hP hD hS 0 rfl (Nat.le_of_ble_eq_true rfl) hg dX7_put_40 (fun H locs hP hD hS => ?_)
      have hP : va_P D vwCl [eA qQ (cy 0) 11 (zup qR (4 + x2) p1)] H := hP
      have hD : va_D A [eA qQ (cy 0) 11 (zup qR (4 + x2) p1)] := hD
      refine lv_aload_n hx hb dX7_put_41 rfl (lv_at hl 0 rfl) ?_
      refine lv_iconst (v := zI 0) hx hb dX7_put_42 rfl ?_
      refine lv_dup2_11 hx hb dX7_put_43 rfl rfl ?_
      refine zz_iald (i := 0) hx hb hK hP 0 rfl (Nat.le_of_ble_eq_true rfl) (by decide) dX7_put_44 ?_
      refine lv_iconst (v := zI 1) hx hb dX7_put_45 rfl ?_
      refine zz_iadd hx hb dX7_put_46 ?_
      refine zz_iast (i := 0) hx hb hK hP hD hS 0 rfl (Nat.le_of_ble_eq_true rfl) (by decide) dX7_put_47 (fun H locs hP hD hS => ?_)
      have hP : va_P D vwCl [eA qQ (cy 0) 11 (zup (zup qR (4 + x2) p1) 0 (((zup qR (4 + x2) p1) 0) + 1))] H := hP
      have hD : va_D A [eA qQ (cy 0) 11 (zup (zup qR (4 + x2) p1) 0 (((zup qR (4 + x2) p1) 0) + 1))] := hD
      have hf := zq_some hf
      cases hf
      exact W.vret hx hb hr (fun t ht hW => ⟨⟨(), rfl, trivial, by rw [ht]; exact hP, hD⟩, hS.F ht⟩) hS.2.2 dX7_put_48
    · refine lv_aload_n hx hb dX7_put_17 rfl (lv_at hl 0 rfl) ?_
      refine lv_iconst (v := zI 4) hx hb dX7_put_18 rfl ?_
      refine lv_iload_n hx hb dX7_put_19 rfl (lv_at hl 3 rfl) ?_
      refine zz_iadd hx hb dX7_put_20 ?_
      refine lv_aload_n hx hb dX7_put_21 rfl (lv_at hl 0 rfl) ?_
      refine lv_iconst (v := zI 4) hx hb dX7_put_22 rfl ?_
      refine lv_iload_n hx hb dX7_put_23 rfl (lv_at hl 3 rfl) ?_
      refine zz_iadd hx hb dX7_put_24 ?_
      refine lv_iconst (v := zI 1) hx hb dX7_put_25 rfl ?_
      refine zz_isub hx hb dX7_put_26 ?_
      obtain ⟨hg, hf⟩ := zq_gd hf
      refine zz_iald (i := ((4 + x3) - 1)) hx hb hK hP 0 rfl (Nat.le_of_ble_eq_true rfl) hg dX7_put_27 ?_
      obtain ⟨hg, hf⟩ := zq_gd hf
      refine zz_iast (i := (4 + x3)) hx hb hK hP hD hS 0 rfl (Nat.le_of_ble_eq_true rfl) hg dX7_put_28 (fun H locs hP hD hS => ?_)
      have hP : va_P D vwCl [eA qQ (cy 0) 11 (zup qR (4 + x3) (qR (Int.toNat ((4 + x3) - 1))))] H := hP
      have hD : va_D A [eA qQ (cy 0) 11 (zup qR (4 + x3) (qR (Int.toNat ((4 + x3) - 1))))] := hD
      refine lv_iinc (v := zI (x3 + (-1))) (lv' := [(3, .int (zI (x3 + (-1)))), (0, .ref qQ), (1, .int (zI p1)), (2, .int (zI x2))]) hx hb dX7_put_29 hl (k := 3) rfl (zI_add _ _) (by decide) rfl (fun ls hl => ?_)
      refine lv_goto (tgt := 12) hx hb dX7_put_32 (by decide) ?_
      have hf := zq_some hf
      exact hf _ _ _ hP hD hS (lv_sub hl [1, 2, 3, 0] rfl)
    )
  unfold f_X7_put at hf
  refine lv_iconst (v := zI (-1)) hx hb dX7_put_0 rfl ?_
  refine lv_aload_n hx hb dX7_put_1 rfl (lv_at hl 0 rfl) ?_
  refine lv_iload_n hx hb dX7_put_2 rfl (lv_at hl 1 rfl) ?_
  obtain ⟨r3, hc3, hf⟩ := zq_bind hf
  refine zcallSi (wr := []) (rest := [.int (zI (-1))]) ⟨hx, hb, hml, hown, hts⟩ (c_X7_placeOf l D cy qQ s.heap.size p1 qR hc3) (va_cwS 2 hts gX7_put_X7_placeOf rfl rfl rfl (by decide +kernel) ⟨Nat.le_of_ble_eq_true rfl, Nat.le_of_ble_eq_true rfl⟩) hK hP hD hS hA [0] [] rfl rfl rfl rfl (by decide) rfl hl.1 rfl (Nat.le_of_ble_eq_true rfl) dX7_put_3 ⟨Nat.zero_le _, Nat.zero_le _⟩ (fun H locs hP hD hS => ?_)
  have hP : va_P D vwCl [eA qQ (cy 0) 11 qR] H := hP.sub [0] rfl
  have hD : va_D A [eA qQ (cy 0) 11 qR] := hD.sub [0] rfl rfl
  refine zz_isub hx hb dX7_put_6 ?_
  obtain ⟨v7, e7, hf⟩ := zq_lt hf
  refine zz_top e7 ?_
  refine lv_istore_n (lv' := [(2, .int (zI v7)), (0, .ref qQ), (1, .int (zI p1))]) hx hb dX7_put_7 rfl hl (by decide) rfl (fun ls hl => ?_)
  refine lv_aload_n hx hb dX7_put_8 rfl (lv_at hl 1 rfl) ?_
  refine lv_iconst (v := zI 0) hx hb dX7_put_9 rfl ?_
  refine zz_iald (i := 0) hx hb hK hP 0 rfl (Nat.le_of_ble_eq_true rfl) (by decide) dX7_put_10 ?_
  obtain ⟨v11, e11, hf⟩ := zq_lt hf
  refine zz_top e11 ?_
  refine lv_istore_n (lv' := [(3, .int (zI v11)), (2, .int (zI v7)), (0, .ref qQ), (1, .int (zI p1))]) hx hb dX7_put_11 rfl hl (by decide) rfl (fun ls hl => ?_)
  exact key _ (zq_eq hf) _ _ _ hP hD hS (lv_sub hl [2, 3, 1, 0] rfl)

noncomputable def st_X7_drop : (Int × (Nat → Int)) → Option ((Int × (Nat → Int)) ⊕ ((Nat → Int))) := fun (x2, qR) =>
  gd (zR x2 ∧ zR (qR 0)) <|
  if x2 < (qR 0) then
    gd (zin ((4 + x2) + 1) 11) <|
    gd (zin (4 + x2) 11) <|
    some (.inl ((x2 + 1), (zup qR (4 + x2) (qR (Int.toNat ((4 + x2) + 1))))))
  else
    some (.inr qR)
noncomputable def f_X7_drop (p1 : Int) (qR : Nat → Int) : Option ((Nat → Int)) :=
  zev (st_X7_drop) (p1, (zup qR 0 ((qR 0) - 1)))

set_option maxRecDepth 100000 in
set_option maxHeartbeats 4000000 in
theorem c_X7_drop (l : Launch) (D : va_G) (cy : Nat → ClassId) (qQ : Nat) (sz : Nat) (p1 : Int) (qR : Nat → Int) {qR' : Nat → Int} (hf : f_X7_drop p1 qR = some qR') : zMv l yX7_drop wsX7_drop ({ frames := 0, cells := 0, slots := 0, locals := 0 }) D cy sz [.ref qQ, .int (zI p1)] [eA qQ (cy 0) 11 qR] [eA qQ (cy 0) 11 qR'] := by
  refine Met.ofW (cc := cX7_drop) (maxL := 3) (ret := none) (by decide) rfl ?_
  intro p e s m args below meth c s₁ B hml hv
  obtain ⟨rfl, hsz, hP, hK, hD0⟩ := hv
  have hx := B.exec
  have hb := B.bytes
  have hr := B.returns
  have hts := atoms_spec (ws := wsX7_drop) B.pre
  have hown : s.vm.findClass RX7 = some m.cls := findClass_of_methodNamed B.named
  have hlocks := B.notSynchronized
  subst hsz
  have hD := hD0.self (sz := s.heap.size)
  generalize hAe : va_A [eA qQ (cy 0) 11 qR] s.heap.size = A at hD ⊢
  have hA : ∀ q : Nat, s.heap.size ≤ q → A q := fun q h => by rw [← hAe]; exact Or.inr h
  have hS : va_S A s.heap s.heap [] := va_S.rf
  have hl := lv_entry ([.ref qQ, .int (zI p1)]) (n := 3) (Nat.le_of_ble_eq_true rfl)
  rw [lg_entry_eq]
  generalize (lg_sl ([.ref qQ, .int (zI p1)]) ++ List.replicate (3 - (lg_sl ([.ref qQ, .int (zI p1)])).length) Slot.unset).toArray = ls at hl ⊢
  have hl : lv_has ls 3 [(0, .ref qQ), (1, .int (zI p1))] := hl
  have hf := zq_of hf
  have key := zloop (st := st_X7_drop) (res := qR') (K := fun (x2, qR) => ∀ (H : Heap) (locs : List Loc) (ls : Array Slot), va_P D vwCl [eA qQ (cy 0) 11 qR] H → va_D A [eA qQ (cy 0) 11 qR] → va_S A s.heap H locs → lv_has ls 3 [(0, .ref qQ), (1, .int (zI p1)), (2, .int (zI x2))] → zGv p l e wsX7_drop ({ frames := 0, cells := 0, slots := 0, locals := 0 }) s m [.ref qQ, .int (zI p1)] below meth c A D [eA qQ (cy 0) 11 qR'] H locs (F0 m 9 ls [])) (by
    rintro ⟨x2, qR⟩ hf
    intro H locs ls hP hD hS hl
    unfold st_X7_drop at hf
    try dsimp only at hf
    refine lv_iload_n hx hb dX7_drop_9 rfl (lv_at hl 2 rfl) ?_
    refine lv_aload_n hx hb dX7_drop_10 rfl (lv_at hl 0 rfl) ?_
    refine lv_iconst (v := zI 0) hx hb dX7_drop_11 rfl ?_
    refine zz_iald (i := 0) hx hb hK hP 0 rfl (Nat.le_of_ble_eq_true rfl) (by decide) dX7_drop_12 ?_
    refine zz_icmp_ge (tgt := 34) hx hb dX7_drop_13 (by decide) hf (fun hc hf => ?_) (fun hc hf => ?_)
    · refine lv_aload_n hx hb dX7_drop_16 rfl (lv_at hl 0 rfl) ?_
      refine lv_iconst (v := zI 4) hx hb dX7_drop_17 rfl ?_
      refine lv_iload_n hx hb dX7_drop_18 rfl (lv_at hl 2 rfl) ?_
      refine zz_iadd hx hb dX7_drop_19 ?_
      refine lv_aload_n hx hb dX7_drop_20 rfl (lv_at hl 0 rfl) ?_
      refine lv_iconst (v := zI 4) hx hb dX7_drop_21 rfl ?_
      refine lv_iload_n hx hb dX7_drop_22 rfl (lv_at hl 2 rfl) ?_
      refine zz_iadd hx hb dX7_drop_23 ?_
      refine lv_iconst (v := zI 1) hx hb dX7_drop_24 rfl ?_
      refine zz_iadd hx hb dX7_drop_25 ?_
      obtain ⟨hg, hf⟩ := zq_gd hf
      refine zz_iald (i := ((4 + x2) + 1)) hx hb hK hP 0 rfl (Nat.le_of_ble_eq_true rfl) hg dX7_drop_26 ?_
      obtain ⟨hg, hf⟩ := zq_gd hf
      refine zz_iast (i := (4 + x2)) hx hb hK hP hD hS 0 rfl (Nat.le_of_ble_eq_true rfl) hg dX7_drop_27 (fun H locs hP hD hS => ?_)
      have hP : va_P D vwCl [eA qQ (cy 0) 11 (zup qR (4 + x2) (qR (Int.toNat ((4 + x2) + 1))))] H := hP
      have hD : va_D A [eA qQ (cy 0) 11 (zup qR (4 + x2) (qR (Int.toNat ((4 + x2) + 1))))] := hD
      refine lv_iinc (v := zI (x2 + 1)) (lv' := [(2, .int (zI (x2 + 1))), (0, .ref qQ), (1, .int (zI p1))]) hx hb dX7_drop_28 hl (k := 2) rfl (zI_add _ _) (by decide) rfl (fun ls hl => ?_)
      refine lv_goto (tgt := 9) hx hb dX7_drop_31 (by decide) ?_
      have hf := zq_some hf
      exact hf _ _ _ hP hD hS (lv_sub hl [1, 2, 0] rfl)
    · have hf := zq_some hf
      cases hf
      exact W.vret hx hb hr (fun t ht hW => ⟨⟨(), rfl, trivial, by rw [ht]; exact hP, hD⟩, hS.F ht⟩) hS.2.2 dX7_drop_34
    )
  unfold f_X7_drop at hf
  refine lv_aload_n hx hb dX7_drop_0 rfl (lv_at hl 0 rfl) ?_
  refine lv_iconst (v := zI 0) hx hb dX7_drop_1 rfl ?_
  refine lv_dup2_11 hx hb dX7_drop_2 rfl rfl ?_
  refine zz_iald (i := 0) hx hb hK hP 0 rfl (Nat.le_of_ble_eq_true rfl) (by decide) dX7_drop_3 ?_
  refine lv_iconst (v := zI 1) hx hb dX7_drop_4 rfl ?_
  refine zz_isub hx hb dX7_drop_5 ?_
  refine zz_iast (i := 0) hx hb hK hP hD hS 0 rfl (Nat.le_of_ble_eq_true rfl) (by decide) dX7_drop_6 (fun H locs hP hD hS => ?_)
  have hP : va_P D vwCl [eA qQ (cy 0) 11 (zup qR 0 ((qR 0) - 1))] H := hP
  have hD : va_D A [eA qQ (cy 0) 11 (zup qR 0 ((qR 0) - 1))] := hD
  refine lv_iload_n hx hb dX7_drop_7 rfl (lv_at hl 1 rfl) ?_
  refine lv_istore_n (lv' := [(2, .int (zI p1)), (0, .ref qQ), (1, .int (zI p1))]) hx hb dX7_drop_8 rfl hl (by decide) rfl (fun ls hl => ?_)
  exact key _ (zq_eq hf) _ _ _ hP hD hS (lv_sub hl [1, 2, 0] rfl)

noncomputable def f_X7_apart (p1 : Int) (p2 : Int) (qR : Nat → Int) : Option (Int) :=
  gd (zin (4 + p2) 11) <|
  gd (zin (4 + p1) 11) <|
  some ((qR (Int.toNat (4 + p2))) - (qR (Int.toNat (4 + p1))))

set_option maxRecDepth 100000 in
set_option maxHeartbeats 4000000 in
theorem c_X7_apart (l : Launch) (D : va_G) (cy : Nat → ClassId) (qQ : Nat) (sz : Nat) (p1 : Int) (p2 : Int) (qR : Nat → Int) {r : Int} (hf : f_X7_apart p1 p2 qR = some r) : zMi l yX7_apart wsX7_apart ({ frames := 0, cells := 0, slots := 0, locals := 0 }) D cy sz [.ref qQ, .int (zI p1), .int (zI p2)] [eA qQ (cy 0) 11 qR] [eA qQ (cy 0) 11 qR] (zI r) := by
  refine Met.ofW (cc := cX7_apart) (maxL := 3) (ret := (some .int)) (by decide) rfl ?_
  intro p e s m args below meth c s₁ B hml hv
  obtain ⟨rfl, hsz, hP, hK, hD0⟩ := hv
  have hx := B.exec
  have hb := B.bytes
  have hr := B.returns
  have hts := atoms_spec (ws := wsX7_apart) B.pre
  have hown : s.vm.findClass RX7 = some m.cls := findClass_of_methodNamed B.named
  have hlocks := B.notSynchronized
  subst hsz
  have hD := hD0.self (sz := s.heap.size)
  generalize hAe : va_A [eA qQ (cy 0) 11 qR] s.heap.size = A at hD ⊢
  have hA : ∀ q : Nat, s.heap.size ≤ q → A q := fun q h => by rw [← hAe]; exact Or.inr h
  have hS : va_S A s.heap s.heap [] := va_S.rf
  have hl := lv_entry ([.ref qQ, .int (zI p1), .int (zI p2)]) (n := 3) (Nat.le_of_ble_eq_true rfl)
  rw [lg_entry_eq]
  generalize (lg_sl ([.ref qQ, .int (zI p1), .int (zI p2)]) ++ List.replicate (3 - (lg_sl ([.ref qQ, .int (zI p1), .int (zI p2)])).length) Slot.unset).toArray = ls at hl ⊢
  have hl : lv_has ls 3 [(0, .ref qQ), (1, .int (zI p1)), (2, .int (zI p2))] := hl
  have hf := zq_of hf
  unfold f_X7_apart at hf
  refine lv_aload_n hx hb dX7_apart_0 rfl (lv_at hl 0 rfl) ?_
  refine lv_iconst (v := zI 4) hx hb dX7_apart_1 rfl ?_
  refine lv_iload_n hx hb dX7_apart_2 rfl (lv_at hl 2 rfl) ?_
  refine zz_iadd hx hb dX7_apart_3 ?_
  obtain ⟨hg, hf⟩ := zq_gd hf
  refine zz_iald (i := (4 + p2)) hx hb hK hP 0 rfl (Nat.le_of_ble_eq_true rfl) hg dX7_apart_4 ?_
  refine lv_aload_n hx hb dX7_apart_5 rfl (lv_at hl 0 rfl) ?_
  refine lv_iconst (v := zI 4) hx hb dX7_apart_6 rfl ?_
  refine lv_iload_n hx hb dX7_apart_7 rfl (lv_at hl 1 rfl) ?_
  refine zz_iadd hx hb dX7_apart_8 ?_
  obtain ⟨hg, hf⟩ := zq_gd hf
  refine zz_iald (i := (4 + p1)) hx hb hK hP 0 rfl (Nat.le_of_ble_eq_true rfl) hg dX7_apart_9 ?_
  refine zz_isub hx hb dX7_apart_10 ?_
  have hf := zq_some hf
  cases hf
  exact W.iret hx hb hr (fun t ht hW => ⟨⟨_, (), rfl, rfl, by rw [ht]; exact hP, hD⟩, hS.F ht⟩) hS.2.2 dX7_apart_11

noncomputable def st_X7_copyAll (qR : Nat → Int) : (Int × (Nat → Int)) → Option ((Int × (Nat → Int)) ⊕ ((Nat → Int))) := fun (x2, tR) =>
  gd (zR x2 ∧ zR 11) <|
  if x2 < 11 then
    gd (zin x2 11) <|
    gd (zin x2 11) <|
    some (.inl ((x2 + 1), (zup tR x2 (qR (Int.toNat x2)))))
  else
    some (.inr tR)
noncomputable def f_X7_copyAll (qR : Nat → Int) (tR : Nat → Int) : Option ((Nat → Int)) :=
  zev (st_X7_copyAll qR) (0, tR)

set_option maxRecDepth 100000 in
set_option maxHeartbeats 4000000 in
theorem c_X7_copyAll (l : Launch) (D : va_G) (cy : Nat → ClassId) (qQ tQ : Nat) (sz : Nat) (qR : Nat → Int) (tR : Nat → Int) {tR' : Nat → Int} (hf : f_X7_copyAll qR tR = some tR') : zMv l yX7_copyAll wsX7_copyAll ({ frames := 0, cells := 0, slots := 0, locals := 0 }) D cy sz [.ref qQ, .ref tQ] [eA qQ (cy 0) 11 qR, eA tQ (cy 0) 11 tR] [eA qQ (cy 0) 11 qR, eA tQ (cy 0) 11 tR'] := by
  refine Met.ofW (cc := cX7_copyAll) (maxL := 3) (ret := none) (by decide) rfl ?_
  intro p e s m args below meth c s₁ B hml hv
  obtain ⟨rfl, hsz, hP, hK, hD0⟩ := hv
  have hx := B.exec
  have hb := B.bytes
  have hr := B.returns
  have hts := atoms_spec (ws := wsX7_copyAll) B.pre
  have hown : s.vm.findClass RX7 = some m.cls := findClass_of_methodNamed B.named
  have hlocks := B.notSynchronized
  subst hsz
  have hD := hD0.self (sz := s.heap.size)
  generalize hAe : va_A [eA qQ (cy 0) 11 qR, eA tQ (cy 0) 11 tR] s.heap.size = A at hD ⊢
  have hA : ∀ q : Nat, s.heap.size ≤ q → A q := fun q h => by rw [← hAe]; exact Or.inr h
  have hS : va_S A s.heap s.heap [] := va_S.rf
  have hl := lv_entry ([.ref qQ, .ref tQ]) (n := 3) (Nat.le_of_ble_eq_true rfl)
  rw [lg_entry_eq]
  generalize (lg_sl ([.ref qQ, .ref tQ]) ++ List.replicate (3 - (lg_sl ([.ref qQ, .ref tQ])).length) Slot.unset).toArray = ls at hl ⊢
  have hl : lv_has ls 3 [(0, .ref qQ), (1, .ref tQ)] := hl
  have hf := zq_of hf
  have key := zloop (st := st_X7_copyAll qR) (res := tR') (K := fun (x2, tR) => ∀ (H : Heap) (locs : List Loc) (ls : Array Slot), va_P D vwCl [eA qQ (cy 0) 11 qR, eA tQ (cy 0) 11 tR] H → va_D A [eA qQ (cy 0) 11 qR, eA tQ (cy 0) 11 tR] → va_S A s.heap H locs → lv_has ls 3 [(0, .ref qQ), (1, .ref tQ), (2, .int (zI x2))] → zGv p l e wsX7_copyAll ({ frames := 0, cells := 0, slots := 0, locals := 0 }) s m [.ref qQ, .ref tQ] below meth c A D [eA qQ (cy 0) 11 qR, eA tQ (cy 0) 11 tR'] H locs (F0 m 2 ls [])) (by
    rintro ⟨x2, tR⟩ hf
    intro H locs ls hP hD hS hl
    unfold st_X7_copyAll at hf
    try dsimp only at hf
    refine lv_iload_n hx hb dX7_copyAll_2 rfl (lv_at hl 2 rfl) ?_
    refine lv_bipush (v := zI 11) hx hb dX7_copyAll_3 (by decide) ?_
    refine zz_icmp_ge (tgt := 20) hx hb dX7_copyAll_5 (by decide) hf (fun hc hf => ?_) (fun hc hf => ?_)
    · refine lv_aload_n hx hb dX7_copyAll_8 rfl (lv_at hl 1 rfl) ?_
      refine lv_iload_n hx hb dX7_copyAll_9 rfl (lv_at hl 2 rfl) ?_
      refine lv_aload_n hx hb dX7_copyAll_10 rfl (lv_at hl 0 rfl) ?_
      refine lv_iload_n hx hb dX7_copyAll_11 rfl (lv_at hl 2 rfl) ?_
      obtain ⟨hg, hf⟩ := zq_gd hf
      refine zz_iald (i := x2) hx hb hK hP 0 rfl (Nat.le_of_ble_eq_true rfl) hg dX7_copyAll_12 ?_
      obtain ⟨hg, hf⟩ := zq_gd hf
      refine zz_iast (i := x2) hx hb hK hP hD hS 1 rfl (Nat.le_of_ble_eq_true rfl) hg dX7_copyAll_13 (fun H locs hP hD hS => ?_)
      have hP : va_P D vwCl [eA qQ (cy 0) 11 qR, eA tQ (cy 0) 11 (zup tR x2 (qR (Int.toNat x2)))] H := hP
      have hD : va_D A [eA qQ (cy 0) 11 qR, eA tQ (cy 0) 11 (zup tR x2 (qR (Int.toNat x2)))] := hD
      refine lv_iinc (v := zI (x2 + 1)) (lv' := [(2, .int (zI (x2 + 1))), (0, .ref qQ), (1, .ref tQ)]) hx hb dX7_copyAll_14 hl (k := 2) rfl (zI_add _ _) (by decide) rfl (fun ls hl => ?_)
      refine lv_goto (tgt := 2) hx hb dX7_copyAll_17 (by decide) ?_
      have hf := zq_some hf
      exact hf _ _ _ hP hD hS (lv_sub hl [1, 2, 0] rfl)
    · have hf := zq_some hf
      cases hf
      exact W.vret hx hb hr (fun t ht hW => ⟨⟨(), rfl, trivial, by rw [ht]; exact hP, hD⟩, hS.F ht⟩) hS.2.2 dX7_copyAll_20
    )
  unfold f_X7_copyAll at hf
  refine lv_iconst (v := zI 0) hx hb dX7_copyAll_0 rfl ?_
  refine lv_istore_n (lv' := [(2, .int (zI 0)), (0, .ref qQ), (1, .ref tQ)]) hx hb dX7_copyAll_1 rfl hl (by decide) rfl (fun ls hl => ?_)
  exact key _ (zq_eq hf) _ _ _ hP hD hS (lv_sub hl [1, 2, 0] rfl)

noncomputable def st_X7_common : (Int × Int) → Option ((Int × Int) ⊕ (Int)) := fun (x2, x3) =>
  gd (zR x3) <|
  if x3 = 0 then
    some (.inr x2)
  else
    gd (zR x2 ∧ zR x3 ∧ x3 ≠ 0) <|
    zlt (Int.tmod x2 x3) fun v20 =>
    some (.inl (x3, v20))
noncomputable def f_X7_common (p0 : Int) (p1 : Int) : Option (Int) :=
  gd (zR p0) <|
  if p0 < 0 then
    zlt (-p0) fun v10 =>
    zev (st_X7_common) (v10, p1)
  else
    zev (st_X7_common) (p0, p1)

set_option maxRecDepth 100000 in
set_option maxHeartbeats 4000000 in
theorem c_X7_common (l : Launch) (D : va_G) (cy : Nat → ClassId) (sz : Nat) (p0 : Int) (p1 : Int) {r : Int} (hf : f_X7_common p0 p1 = some r) : zMi l yX7_common wsX7_common ({ frames := 0, cells := 0, slots := 0, locals := 0 }) D cy sz [.int (zI p0), .int (zI p1)] [] [] (zI r) := by
  refine Met.ofW (cc := cX7_common) (maxL := 5) (ret := (some .int)) (by decide) rfl ?_
  intro p e s m args below meth c s₁ B hml hv
  obtain ⟨rfl, hsz, hP, hK, hD0⟩ := hv
  have hx := B.exec
  have hb := B.bytes
  have hr := B.returns
  have hts := atoms_spec (ws := wsX7_common) B.pre
  have hown : s.vm.findClass RX7 = some m.cls := findClass_of_methodNamed B.named
  have hlocks := B.notSynchronized
  subst hsz
  have hD := hD0.self (sz := s.heap.size)
  generalize hAe : va_A [] s.heap.size = A at hD ⊢
  have hA : ∀ q : Nat, s.heap.size ≤ q → A q := fun q h => by rw [← hAe]; exact Or.inr h
  have hS : va_S A s.heap s.heap [] := va_S.rf
  have hl := lv_entry ([.int (zI p0), .int (zI p1)]) (n := 5) (Nat.le_of_ble_eq_true rfl)
  rw [lg_entry_eq]
  generalize (lg_sl ([.int (zI p0), .int (zI p1)]) ++ List.replicate (5 - (lg_sl ([.int (zI p0), .int (zI p1)])).length) Slot.unset).toArray = ls at hl ⊢
  have hl : lv_has ls 5 [(0, .int (zI p0)), (1, .int (zI p1))] := hl
  have hf := zq_of hf
  have key := zloop (st := st_X7_common) (res := r) (K := fun (x2, x3) => ∀ (H : Heap) (locs : List Loc) (ls : Array Slot), va_P D vwCl [] H → va_D A [] → va_S A s.heap H locs → lv_has ls 5 [(0, .int (zI p0)), (1, .int (zI p1)), (2, .int (zI x2)), (3, .int (zI x3))] → zGi p l e wsX7_common ({ frames := 0, cells := 0, slots := 0, locals := 0 }) s m [.int (zI p0), .int (zI p1)] below meth c A D [] (zI r) H locs (F0 m 13 ls [])) (by
    rintro ⟨x2, x3⟩ hf
    intro H locs ls hP hD hS hl
    unfold st_X7_common at hf
    try dsimp only at hf
    refine lv_iload_n hx hb dX7_common_13 rfl (lv_at hl 3 rfl) ?_
    refine zz_if_eq (tgt := 30) hx hb dX7_common_14 (by decide) hf (fun hc hf => ?_) (fun hc hf => ?_)
    · refine lv_iload_n hx hb dX7_common_30 rfl (lv_at hl 2 rfl) ?_
      have hf := zq_some hf
      cases hf
      exact W.iret hx hb hr (fun t ht hW => ⟨⟨_, (), rfl, rfl, by rw [ht]; exact hP, hD⟩, hS.F ht⟩) hS.2.2 dX7_common_31
    · refine lv_iload_n hx hb dX7_common_17 rfl (lv_at hl 2 rfl) ?_
      refine lv_iload_n hx hb dX7_common_18 rfl (lv_at hl 3 rfl) ?_
      obtain ⟨hg, hf⟩ := zq_gd hf
      refine zz_irem hx hb hg dX7_common_19 ?_
      obtain ⟨v20, e20, hf⟩ := zq_lt hf
      refine zz_top e20 ?_
      refine lv_istore (lv' := [(4, .int (zI v20)), (0, .int (zI p0)), (1, .int (zI p1)), (2, .int (zI x2)), (3, .int (zI x3))]) hx hb dX7_common_20 hl (by decide) rfl (fun ls hl => ?_)
      refine lv_iload_n hx hb dX7_common_22 rfl (lv_at hl 4 rfl) ?_
      refine lv_istore_n (lv' := [(2, .int (zI x3)), (4, .int (zI v20)), (0, .int (zI p0)), (1, .int (zI p1)), (3, .int (zI x3))]) hx hb dX7_common_23 rfl hl (by decide) rfl (fun ls hl => ?_)
      refine lv_iload hx hb dX7_common_24 (lv_at hl 1 rfl) ?_
      refine lv_istore_n (lv' := [(3, .int (zI v20)), (2, .int (zI x3)), (4, .int (zI v20)), (0, .int (zI p0)), (1, .int (zI p1))]) hx hb dX7_common_26 rfl hl (by decide) rfl (fun ls hl => ?_)
      refine lv_goto (tgt := 13) hx hb dX7_common_27 (by decide) ?_
      have hf := zq_some hf
      exact hf _ _ _ hP hD hS (lv_sub hl [3, 4, 1, 0] rfl)
    )
  unfold f_X7_common at hf
  refine lv_iload_n hx hb dX7_common_0 rfl (lv_at hl 0 rfl) ?_
  refine zz_if_ge (tgt := 9) hx hb dX7_common_1 (by decide) hf (fun hc hf => ?_) (fun hc hf => ?_)
  · refine lv_iload_n hx hb dX7_common_4 rfl (lv_at hl 0 rfl) ?_
    refine zz_ineg hx hb dX7_common_5 ?_
    refine lv_goto (tgt := 10) hx hb dX7_common_6 (by decide) ?_
    obtain ⟨v10, e10, hf⟩ := zq_lt hf
    refine zz_top e10 ?_
    refine lv_istore_n (lv' := [(2, .int (zI v10)), (0, .int (zI p0)), (1, .int (zI p1))]) hx hb dX7_common_10 rfl hl (by decide) rfl (fun ls hl => ?_)
    refine lv_iload_n hx hb dX7_common_11 rfl (lv_at hl 2 rfl) ?_
    refine lv_istore_n (lv' := [(3, .int (zI p1)), (2, .int (zI v10)), (0, .int (zI p0)), (1, .int (zI p1))]) hx hb dX7_common_12 rfl hl (by decide) rfl (fun ls hl => ?_)
    exact key _ (zq_eq hf) _ _ _ hP hD hS (lv_sub hl [2, 3, 1, 0] rfl)
  · refine lv_iload_n hx hb dX7_common_9 rfl (lv_at hl 0 rfl) ?_
    refine lv_istore_n (lv' := [(2, .int (zI p0)), (0, .int (zI p0)), (1, .int (zI p1))]) hx hb dX7_common_10 rfl hl (by decide) rfl (fun ls hl => ?_)
    refine lv_iload_n hx hb dX7_common_11 rfl (lv_at hl 2 rfl) ?_
    refine lv_istore_n (lv' := [(3, .int (zI p1)), (2, .int (zI p0)), (0, .int (zI p0)), (1, .int (zI p1))]) hx hb dX7_common_12 rfl hl (by decide) rfl (fun ls hl => ?_)
    exact key _ (zq_eq hf) _ _ _ hP hD hS (lv_sub hl [2, 3, 1, 0] rfl)

noncomputable def f_X7_least (p0 : Int) (p1 : Int) (p2 : Int) : Option (Int) :=
  gd (zR p2) <|
  if p2 = 0 then
    (f_X7_common p0 p1).bind fun r11 =>
    gd (zR p1 ∧ zR r11 ∧ r11 ≠ 0) <|
    some (Int.tdiv p1 r11)
  else
    (f_X7_common p0 p1).bind fun r11 =>
    gd (zR p0 ∧ zR r11 ∧ r11 ≠ 0) <|
    some (Int.tdiv p0 r11)

set_option maxRecDepth 100000 in
set_option maxHeartbeats 4000000 in
theorem c_X7_least (l : Launch) (D : va_G) (cy : Nat → ClassId) (sz : Nat) (p0 : Int) (p1 : Int) (p2 : Int) {r : Int} (hf : f_X7_least p0 p1 p2 = some r) : zMi l yX7_least wsX7_least ({ frames := 1, cells := 0, slots := 0, locals := 24 }) D cy sz [.int (zI p0), .int (zI p1), .int (zI p2)] [] [] (zI r) := by
  refine Met.ofW (cc := cX7_least) (maxL := 3) (ret := (some .int)) (by decide) rfl ?_
  intro p e s m args below meth c s₁ B hml hv
  obtain ⟨rfl, hsz, hP, hK, hD0⟩ := hv
  have hx := B.exec
  have hb := B.bytes
  have hr := B.returns
  have hts := atoms_spec (ws := wsX7_least) B.pre
  have hown : s.vm.findClass RX7 = some m.cls := findClass_of_methodNamed B.named
  have hlocks := B.notSynchronized
  subst hsz
  have hD := hD0.self (sz := s.heap.size)
  generalize hAe : va_A [] s.heap.size = A at hD ⊢
  have hA : ∀ q : Nat, s.heap.size ≤ q → A q := fun q h => by rw [← hAe]; exact Or.inr h
  have hS : va_S A s.heap s.heap [] := va_S.rf
  have hl := lv_entry ([.int (zI p0), .int (zI p1), .int (zI p2)]) (n := 3) (Nat.le_of_ble_eq_true rfl)
  rw [lg_entry_eq]
  generalize (lg_sl ([.int (zI p0), .int (zI p1), .int (zI p2)]) ++ List.replicate (3 - (lg_sl ([.int (zI p0), .int (zI p1), .int (zI p2)])).length) Slot.unset).toArray = ls at hl ⊢
  have hl : lv_has ls 3 [(0, .int (zI p0)), (1, .int (zI p1)), (2, .int (zI p2))] := hl
  have hf := zq_of hf
  unfold f_X7_least at hf
  refine lv_iload_n hx hb dX7_least_0 rfl (lv_at hl 2 rfl) ?_
  refine zz_if_eq (tgt := 8) hx hb dX7_least_1 (by decide) hf (fun hc hf => ?_) (fun hc hf => ?_)
  · refine lv_iload_n hx hb dX7_least_8 rfl (lv_at hl 1 rfl) ?_
    refine lv_iload_n hx hb dX7_least_9 rfl (lv_at hl 0 rfl) ?_
    refine lv_iload_n hx hb dX7_least_10 rfl (lv_at hl 1 rfl) ?_
    obtain ⟨r11, hc11, hf⟩ := zq_bind hf
    refine zcallSi (wr := []) (rest := [.int (zI p1)]) ⟨hx, hb, hml, hown, hts⟩ (c_X7_common l D cy s.heap.size p0 p1 hc11) (va_cwS 2 hts gX7_least_X7_common rfl rfl rfl (by decide +kernel) ⟨Nat.le_of_ble_eq_true rfl, Nat.le_of_ble_eq_true rfl⟩) hK hP hD hS hA [] [] rfl rfl rfl rfl (by decide) rfl hl.1 rfl (Nat.le_of_ble_eq_true rfl) dX7_least_11 ⟨Nat.zero_le _, Nat.zero_le _⟩ (fun H locs hP hD hS => ?_)
    have hP : va_P D vwCl [] H := hP.sub [] rfl
    have hD : va_D A [] := hD.sub [] rfl rfl
    obtain ⟨hg, hf⟩ := zq_gd hf
    refine zz_idiv hx hb hg dX7_least_14 ?_
    have hf := zq_some hf
    cases hf
    exact W.iret hx hb hr (fun t ht hW => ⟨⟨_, (), rfl, rfl, by rw [ht]; exact hP, hD⟩, hS.F ht⟩) hS.2.2 dX7_least_15
  · refine lv_iload_n hx hb dX7_least_4 rfl (lv_at hl 0 rfl) ?_
    refine lv_goto (tgt := 9) hx hb dX7_least_5 (by decide) ?_
    refine lv_iload_n hx hb dX7_least_9 rfl (lv_at hl 0 rfl) ?_
    refine lv_iload_n hx hb dX7_least_10 rfl (lv_at hl 1 rfl) ?_
    obtain ⟨r11, hc11, hf⟩ := zq_bind hf
    refine zcallSi (wr := []) (rest := [.int (zI p0)]) ⟨hx, hb, hml, hown, hts⟩ (c_X7_common l D cy s.heap.size p0 p1 hc11) (va_cwS 2 hts gX7_least_X7_common rfl rfl rfl (by decide +kernel) ⟨Nat.le_of_ble_eq_true rfl, Nat.le_of_ble_eq_true rfl⟩) hK hP hD hS hA [] [] rfl rfl rfl rfl (by decide) rfl hl.1 rfl (Nat.le_of_ble_eq_true rfl) dX7_least_11 ⟨Nat.zero_le _, Nat.zero_le _⟩ (fun H locs hP hD hS => ?_)
    have hP : va_P D vwCl [] H := hP.sub [] rfl
    have hD : va_D A [] := hD.sub [] rfl rfl
    obtain ⟨hg, hf⟩ := zq_gd hf
    refine zz_idiv hx hb hg dX7_least_14 ?_
    have hf := zq_some hf
    cases hf
    exact W.iret hx hb hr (fun t ht hW => ⟨⟨_, (), rfl, rfl, by rw [ht]; exact hP, hD⟩, hS.F ht⟩) hS.2.2 dX7_least_15

noncomputable def f_X7_ends (p0 : Int) (p1 : Int) (p2 : Int) (p3 : Int) (p4 : Int) : Option (Int) :=
  gd (zR p4 ∧ zR 2) <|
  if p4 < 2 then
    gd (zR p4) <|
    if p4 = 0 then
      (f_X7_least p0 p1 1).bind fun r18 =>
      some r18
    else
      (f_X7_least p0 p1 0).bind fun r18 =>
      some r18
  else
    gd (zR p4 ∧ zR 2) <|
    if p4 = 2 then
      (f_X7_least p2 p3 1).bind fun r37 =>
      some r37
    else
      (f_X7_least p2 p3 0).bind fun r37 =>
      some r37

set_option maxRecDepth 100000 in
set_option maxHeartbeats 4000000 in
theorem c_X7_ends (l : Launch) (D : va_G) (cy : Nat → ClassId) (sz : Nat) (p0 : Int) (p1 : Int) (p2 : Int) (p3 : Int) (p4 : Int) {r : Int} (hf : f_X7_ends p0 p1 p2 p3 p4 = some r) : zMi l yX7_ends wsX7_ends ({ frames := 2, cells := 0, slots := 0, locals := 46 }) D cy sz [.int (zI p0), .int (zI p1), .int (zI p2), .int (zI p3), .int (zI p4)] [] [] (zI r) := by
  refine Met.ofW (cc := cX7_ends) (maxL := 5) (ret := (some .int)) (by decide) rfl ?_
  intro p e s m args below meth c s₁ B hml hv
  obtain ⟨rfl, hsz, hP, hK, hD0⟩ := hv
  have hx := B.exec
  have hb := B.bytes
  have hr := B.returns
  have hts := atoms_spec (ws := wsX7_ends) B.pre
  have hown : s.vm.findClass RX7 = some m.cls := findClass_of_methodNamed B.named
  have hlocks := B.notSynchronized
  subst hsz
  have hD := hD0.self (sz := s.heap.size)
  generalize hAe : va_A [] s.heap.size = A at hD ⊢
  have hA : ∀ q : Nat, s.heap.size ≤ q → A q := fun q h => by rw [← hAe]; exact Or.inr h
  have hS : va_S A s.heap s.heap [] := va_S.rf
  have hl := lv_entry ([.int (zI p0), .int (zI p1), .int (zI p2), .int (zI p3), .int (zI p4)]) (n := 5) (Nat.le_of_ble_eq_true rfl)
  rw [lg_entry_eq]
  generalize (lg_sl ([.int (zI p0), .int (zI p1), .int (zI p2), .int (zI p3), .int (zI p4)]) ++ List.replicate (5 - (lg_sl ([.int (zI p0), .int (zI p1), .int (zI p2), .int (zI p3), .int (zI p4)])).length) Slot.unset).toArray = ls at hl ⊢
  have hl : lv_has ls 5 [(0, .int (zI p0)), (1, .int (zI p1)), (2, .int (zI p2)), (3, .int (zI p3)), (4, .int (zI p4))] := hl
  have hf := zq_of hf
  unfold f_X7_ends at hf
  refine lv_iload hx hb dX7_ends_0 (lv_at hl 4 rfl) ?_
  refine lv_iconst (v := zI 2) hx hb dX7_ends_2 rfl ?_
  refine zz_icmp_ge (tgt := 24) hx hb dX7_ends_3 (by decide) hf (fun hc hf => ?_) (fun hc hf => ?_)
  · refine lv_iload_n hx hb dX7_ends_6 rfl (lv_at hl 0 rfl) ?_
    refine lv_iload_n hx hb dX7_ends_7 rfl (lv_at hl 1 rfl) ?_
    refine lv_iload hx hb dX7_ends_8 (lv_at hl 4 rfl) ?_
    refine zz_if_ne (tgt := 17) hx hb dX7_ends_10 (by decide) hf (fun hc hf => ?_) (fun hc hf => ?_)
    · refine lv_iconst (v := zI 1) hx hb dX7_ends_13 rfl ?_
      refine lv_goto (tgt := 18) hx hb dX7_ends_14 (by decide) ?_
      obtain ⟨r18, hc18, hf⟩ := zq_bind hf
      refine zcallSi (wr := []) (rest := []) ⟨hx, hb, hml, hown, hts⟩ (c_X7_least l D cy s.heap.size p0 p1 1 hc18) (va_cwS 3 hts gX7_ends_X7_least rfl rfl rfl (by decide +kernel) ⟨Nat.le_of_ble_eq_true rfl, Nat.le_of_ble_eq_true rfl⟩) hK hP hD hS hA [] [] rfl rfl rfl rfl (by decide) rfl hl.1 rfl (Nat.le_of_ble_eq_true rfl) dX7_ends_18 ⟨Nat.zero_le _, Nat.zero_le _⟩ (fun H locs hP hD hS => ?_)
      have hP : va_P D vwCl [] H := hP.sub [] rfl
      have hD : va_D A [] := hD.sub [] rfl rfl
      refine lv_goto (tgt := 40) hx hb dX7_ends_21 (by decide) ?_
      have hf := zq_some hf
      cases hf
      exact W.iret hx hb hr (fun t ht hW => ⟨⟨_, (), rfl, rfl, by rw [ht]; exact hP, hD⟩, hS.F ht⟩) hS.2.2 dX7_ends_40
    · refine lv_iconst (v := zI 0) hx hb dX7_ends_17 rfl ?_
      obtain ⟨r18, hc18, hf⟩ := zq_bind hf
      refine zcallSi (wr := []) (rest := []) ⟨hx, hb, hml, hown, hts⟩ (c_X7_least l D cy s.heap.size p0 p1 0 hc18) (va_cwS 3 hts gX7_ends_X7_least rfl rfl rfl (by decide +kernel) ⟨Nat.le_of_ble_eq_true rfl, Nat.le_of_ble_eq_true rfl⟩) hK hP hD hS hA [] [] rfl rfl rfl rfl (by decide) rfl hl.1 rfl (Nat.le_of_ble_eq_true rfl) dX7_ends_18 ⟨Nat.zero_le _, Nat.zero_le _⟩ (fun H locs hP hD hS => ?_)
      have hP : va_P D vwCl [] H := hP.sub [] rfl
      have hD : va_D A [] := hD.sub [] rfl rfl
      refine lv_goto (tgt := 40) hx hb dX7_ends_21 (by decide) ?_
      have hf := zq_some hf
      cases hf
      exact W.iret hx hb hr (fun t ht hW => ⟨⟨_, (), rfl, rfl, by rw [ht]; exact hP, hD⟩, hS.F ht⟩) hS.2.2 dX7_ends_40
  · refine lv_iload_n hx hb dX7_ends_24 rfl (lv_at hl 2 rfl) ?_
    refine lv_iload_n hx hb dX7_ends_25 rfl (lv_at hl 3 rfl) ?_
    refine lv_iload hx hb dX7_ends_26 (lv_at hl 4 rfl) ?_
    refine lv_iconst (v := zI 2) hx hb dX7_ends_28 rfl ?_
    refine zz_icmp_ne (tgt := 36) hx hb dX7_ends_29 (by decide) hf (fun hc hf => ?_) (fun hc hf => ?_)
    · refine lv_iconst (v := zI 1) hx hb dX7_ends_32 rfl ?_
      refine lv_goto (tgt := 37) hx hb dX7_ends_33 (by decide) ?_
      obtain ⟨r37, hc37, hf⟩ := zq_bind hf
      refine zcallSi (wr := []) (rest := []) ⟨hx, hb, hml, hown, hts⟩ (c_X7_least l D cy s.heap.size p2 p3 1 hc37) (va_cwS 3 hts gX7_ends_X7_least rfl rfl rfl (by decide +kernel) ⟨Nat.le_of_ble_eq_true rfl, Nat.le_of_ble_eq_true rfl⟩) hK hP hD hS hA [] [] rfl rfl rfl rfl (by decide) rfl hl.1 rfl (Nat.le_of_ble_eq_true rfl) dX7_ends_37 ⟨Nat.zero_le _, Nat.zero_le _⟩ (fun H locs hP hD hS => ?_)
      have hP : va_P D vwCl [] H := hP.sub [] rfl
      have hD : va_D A [] := hD.sub [] rfl rfl
      have hf := zq_some hf
      cases hf
      exact W.iret hx hb hr (fun t ht hW => ⟨⟨_, (), rfl, rfl, by rw [ht]; exact hP, hD⟩, hS.F ht⟩) hS.2.2 dX7_ends_40
    · refine lv_iconst (v := zI 0) hx hb dX7_ends_36 rfl ?_
      obtain ⟨r37, hc37, hf⟩ := zq_bind hf
      refine zcallSi (wr := []) (rest := []) ⟨hx, hb, hml, hown, hts⟩ (c_X7_least l D cy s.heap.size p2 p3 0 hc37) (va_cwS 3 hts gX7_ends_X7_least rfl rfl rfl (by decide +kernel) ⟨Nat.le_of_ble_eq_true rfl, Nat.le_of_ble_eq_true rfl⟩) hK hP hD hS hA [] [] rfl rfl rfl rfl (by decide) rfl hl.1 rfl (Nat.le_of_ble_eq_true rfl) dX7_ends_37 ⟨Nat.zero_le _, Nat.zero_le _⟩ (fun H locs hP hD hS => ?_)
      have hP : va_P D vwCl [] H := hP.sub [] rfl
      have hD : va_D A [] := hD.sub [] rfl rfl
      have hf := zq_some hf
      cases hf
      exact W.iret hx hb hr (fun t ht hW => ⟨⟨_, (), rfl, rfl, by rw [ht]; exact hP, hD⟩, hS.F ht⟩) hS.2.2 dX7_ends_40

noncomputable def f_X7_type (p1 : Int) (mmany : Int) (mText : Nat → Int) : Option (Int × Int × Int × (Nat → Int)) :=
  gd (zR p1) <|
  (f_X7_in p1 0 255).bind fun r11 =>
  gd (zR r11) <|
  if r11 = 0 then
    some ((-1), 0, mmany, mText)
  else
    gd (zR mmany ∧ zR 100) <|
    if mmany = 100 then
      some ((-3), 0, mmany, mText)
    else
      gd (zin mmany 100) <|
      some ((mmany + 1), 0, (mmany + 1), (zup mText mmany p1))
theorem m_X7_type_1 : (.fieldLink RX7 1 "PulseTurnsModel" "thrown" "I" : Cond) ∈ wsX7_type := List.mem_of_getElem? (i := 1) rfl
theorem m_X7_type_2 : (.constantLong RX7 7 (255) : Cond) ∈ wsX7_type := List.mem_of_getElem? (i := 2) rfl
theorem m_X7_type_3 : (.fieldLink RX7 13 "PulseTurnsModel" "many" "I" : Cond) ∈ wsX7_type := List.mem_of_getElem? (i := 3) rfl
theorem m_X7_type_4 : (.fieldLink RX7 16 "PulseTurnsModel" "text" "[I" : Cond) ∈ wsX7_type := List.mem_of_getElem? (i := 4) rfl
theorem u_X7_type_X7 : ∀ w ∈ wsX70, w ∈ wsX7_type := fun w h => List.mem_cons_of_mem _ (List.mem_append_right _ h)
set_option maxRecDepth 100000 in
set_option maxHeartbeats 4000000 in
theorem c_X7_type (l : Launch) (D : va_G) (cy : Nat → ClassId) (mO mQtext mQnow mQfresh mQwas mQisKept mQkept mQheard mQnumber mQlowUp mQlowDown mQhighUp mQhighDown mQseen mQfirst : Nat) (sz : Nat) (p1 : Int) (mth : Int) (mmany : Int) (mcur : Int) (mst : Int) (mtok : Int) (mval : Int) (macts : Int) (mlev : Int) (memp : Int) (mText : Nat → Int) {r : Int} {mth' : Int} {mmany' : Int} {mText' : Nat → Int} (hf : f_X7_type p1 mmany mText = some (r, mth', mmany', mText')) : zMi l yX7_type wsX7_type ({ frames := 1, cells := 0, slots := 0, locals := 25 }) D cy sz [.ref mO, .int (zI p1)] [eO mO 6 [.int (zI mth), .ref mQtext, .int (zI mmany), .int (zI mcur), .int (zI mst), .int (zI mtok), .int (zI mval), .ref mQnow, .ref mQfresh, .ref mQwas, .int (zI macts), .ref mQisKept, .ref mQkept, .ref mQheard, .ref mQnumber, .ref mQlowUp, .ref mQlowDown, .ref mQhighUp, .ref mQhighDown, .int (zI mlev), .ref mQseen, .int (zI memp), .ref mQfirst], eA mQtext (cy 0) 100 mText] [eO mO 6 [.int (zI mth'), .ref mQtext, .int (zI mmany'), .int (zI mcur), .int (zI mst), .int (zI mtok), .int (zI mval), .ref mQnow, .ref mQfresh, .ref mQwas, .int (zI macts), .ref mQisKept, .ref mQkept, .ref mQheard, .ref mQnumber, .ref mQlowUp, .ref mQlowDown, .ref mQhighUp, .ref mQhighDown, .int (zI mlev), .ref mQseen, .int (zI memp), .ref mQfirst], eA mQtext (cy 0) 100 mText'] (zI r) := by
  refine Met.ofW (cc := cX7_type) (maxL := 2) (ret := (some .int)) (by decide) rfl ?_
  intro p e s m args below meth c s₁ B hml hv
  obtain ⟨rfl, hsz, hP, hK, hD0⟩ := hv
  have hx := B.exec
  have hb := B.bytes
  have hr := B.returns
  have hts := atoms_spec (ws := wsX7_type) B.pre
  have hown : s.vm.findClass RX7 = some m.cls := findClass_of_methodNamed B.named
  have hlocks := B.notSynchronized
  subst hsz
  have hD := hD0.self (sz := s.heap.size)
  generalize hAe : va_A [eO mO 6 [.int (zI mth), .ref mQtext, .int (zI mmany), .int (zI mcur), .int (zI mst), .int (zI mtok), .int (zI mval), .ref mQnow, .ref mQfresh, .ref mQwas, .int (zI macts), .ref mQisKept, .ref mQkept, .ref mQheard, .ref mQnumber, .ref mQlowUp, .ref mQlowDown, .ref mQhighUp, .ref mQhighDown, .int (zI mlev), .ref mQseen, .int (zI memp), .ref mQfirst], eA mQtext (cy 0) 100 mText] s.heap.size = A at hD ⊢
  have hA : ∀ q : Nat, s.heap.size ≤ q → A q := fun q h => by rw [← hAe]; exact Or.inr h
  have hS : va_S A s.heap s.heap [] := va_S.rf
  have hl := lv_entry ([.ref mO, .int (zI p1)]) (n := 2) (Nat.le_of_ble_eq_true rfl)
  rw [lg_entry_eq]
  generalize (lg_sl ([.ref mO, .int (zI p1)]) ++ List.replicate (2 - (lg_sl ([.ref mO, .int (zI p1)])).length) Slot.unset).toArray = ls at hl ⊢
  have hl : lv_has ls 2 [(0, .ref mO), (1, .int (zI p1))] := hl
  have hf := zq_of hf
  unfold f_X7_type at hf
  refine lv_aload_n hx hb dX7_type_0 rfl (lv_at hl 0 rfl) ?_
  refine lv_iconst (v := zI 0) hx hb dX7_type_1 rfl ?_
  refine va_put (D := D) (ci := 6) (v := .int (zI 0)) (ty := .int) (C := RX7) (T := TX7) (N := 23) hx hb hts u_X7_type_X7 tyX7 tyX7_ok nmX7 hown hK.1 hP hD hS 0 rfl rfl 0 (by decide) (hts _ m_X7_type_1) (fun _ h9 => h9) rfl (tyX7_ok 0 (by decide)) rfl rfl (Nat.le_of_ble_eq_true rfl) dX7_type_2 (fun H locs hP hD hS => ?_)
  have hP : va_P D vwCl [eO mO 6 [.int (zI 0), .ref mQtext, .int (zI mmany), .int (zI mcur), .int (zI mst), .int (zI mtok), .int (zI mval), .ref mQnow, .ref mQfresh, .ref mQwas, .int (zI macts), .ref mQisKept, .ref mQkept, .ref mQheard, .ref mQnumber, .ref mQlowUp, .ref mQlowDown, .ref mQhighUp, .ref mQhighDown, .int (zI mlev), .ref mQseen, .int (zI memp), .ref mQfirst], eA mQtext (cy 0) 100 mText] H := hP
  have hD : va_D A [eO mO 6 [.int (zI 0), .ref mQtext, .int (zI mmany), .int (zI mcur), .int (zI mst), .int (zI mtok), .int (zI mval), .ref mQnow, .ref mQfresh, .ref mQwas, .int (zI macts), .ref mQisKept, .ref mQkept, .ref mQheard, .ref mQnumber, .ref mQlowUp, .ref mQlowDown, .ref mQhighUp, .ref mQhighDown, .int (zI mlev), .ref mQseen, .int (zI memp), .ref mQfirst], eA mQtext (cy 0) 100 mText] := hD
  refine lv_iload_n hx hb dX7_type_5 rfl (lv_at hl 1 rfl) ?_
  obtain ⟨hg, hf⟩ := zq_gd hf
  refine lv_i2l (v := zL p1) hx hb dX7_type_6 (zL_i hg) ?_
  refine lv_lconst (v := zL 0) hx hb dX7_type_7 (by decide) ?_
  refine lv_ldc2 (v := zL 255) hx hb hown (hts _ m_X7_type_2) dX7_type_8 ?_
  obtain ⟨r11, hc11, hf⟩ := zq_bind hf
  refine zcallSi (wr := [eO mO 6 [.int (zI 0), .ref mQtext, .int (zI mmany), .int (zI mcur), .int (zI mst), .int (zI mtok), .int (zI mval), .ref mQnow, .ref mQfresh, .ref mQwas, .int (zI macts), .ref mQisKept, .ref mQkept, .ref mQheard, .ref mQnumber, .ref mQlowUp, .ref mQlowDown, .ref mQhighUp, .ref mQhighDown, .int (zI mlev), .ref mQseen, .int (zI memp), .ref mQfirst], eA mQtext (cy 0) 100 mText]) (rest := []) ⟨hx, hb, hml, hown, hts⟩ (c_X7_in l D cy H.size p1 0 255 hc11) (va_cwS 3 hts gX7_type_X7_in rfl rfl rfl (by decide +kernel) ⟨Nat.le_of_ble_eq_true rfl, Nat.le_of_ble_eq_true rfl⟩) hK hP hD hS hA [] [0, 1] rfl rfl rfl rfl (by decide) rfl hl.1 rfl (Nat.le_of_ble_eq_true rfl) dX7_type_11 ⟨Nat.zero_le _, Nat.zero_le _⟩ (fun H locs hP hD hS => ?_)
  have hP : va_P D vwCl [eO mO 6 [.int (zI 0), .ref mQtext, .int (zI mmany), .int (zI mcur), .int (zI mst), .int (zI mtok), .int (zI mval), .ref mQnow, .ref mQfresh, .ref mQwas, .int (zI macts), .ref mQisKept, .ref mQkept, .ref mQheard, .ref mQnumber, .ref mQlowUp, .ref mQlowDown, .ref mQhighUp, .ref mQhighDown, .int (zI mlev), .ref mQseen, .int (zI memp), .ref mQfirst], eA mQtext (cy 0) 100 mText] H := hP.sub [0, 1] rfl
  have hD : va_D A [eO mO 6 [.int (zI 0), .ref mQtext, .int (zI mmany), .int (zI mcur), .int (zI mst), .int (zI mtok), .int (zI mval), .ref mQnow, .ref mQfresh, .ref mQwas, .int (zI macts), .ref mQisKept, .ref mQkept, .ref mQheard, .ref mQnumber, .ref mQlowUp, .ref mQlowDown, .ref mQhighUp, .ref mQhighDown, .int (zI mlev), .ref mQseen, .int (zI memp), .ref mQfirst], eA mQtext (cy 0) 100 mText] := hD.sub [0, 1] rfl rfl
  refine zz_if_ne (tgt := 19) hx hb dX7_type_14 (by decide) hf (fun hc hf => ?_) (fun hc hf => ?_)
  · refine lv_iconst (v := zI (-1)) hx hb dX7_type_17 rfl ?_
    have hf := zq_some hf
    cases hf
    exact W.iret hx hb hr (fun t ht hW => ⟨⟨_, (), rfl, rfl, by rw [ht]; exact hP, hD⟩, hS.F ht⟩) hS.2.2 dX7_type_18
  · refine lv_aload_n hx hb dX7_type_19 rfl (lv_at hl 0 rfl) ?_
    refine va_get (D := D) (ci := 6) (v := .int (zI mmany)) (C := RX7) (T := TX7) (N := 23) hx hb hts u_X7_type_X7 hown hK.1 hP 0 rfl rfl 2 (by decide) (hts _ m_X7_type_3) (fun _ h9 => h9) rfl dX7_type_20 ?_
    refine lv_bipush (v := zI 100) hx hb dX7_type_23 (by decide) ?_
    refine zz_icmp_ne (tgt := 31) hx hb dX7_type_25 (by decide) hf (fun hc hf => ?_) (fun hc hf => ?_)
    · refine lv_bipush (v := zI (-3)) hx hb dX7_type_28 (by decide) ?_
      have hf := zq_some hf
      cases hf
      exact W.iret hx hb hr (fun t ht hW => ⟨⟨_, (), rfl, rfl, by rw [ht]; exact hP, hD⟩, hS.F ht⟩) hS.2.2 dX7_type_30
    · refine lv_aload_n hx hb dX7_type_31 rfl (lv_at hl 0 rfl) ?_
      refine va_get (D := D) (ci := 6) (v := .ref mQtext) (C := RX7) (T := TX7) (N := 23) hx hb hts u_X7_type_X7 hown hK.1 hP 0 rfl rfl 1 (by decide) (hts _ m_X7_type_4) (fun _ h9 => h9) rfl dX7_type_32 ?_
      refine lv_aload_n hx hb dX7_type_35 rfl (lv_at hl 0 rfl) ?_
      refine va_get (D := D) (ci := 6) (v := .int (zI mmany)) (C := RX7) (T := TX7) (N := 23) hx hb hts u_X7_type_X7 hown hK.1 hP 0 rfl rfl 2 (by decide) (hts _ m_X7_type_3) (fun _ h9 => h9) rfl dX7_type_36 ?_
      refine lv_iload_n hx hb dX7_type_39 rfl (lv_at hl 1 rfl) ?_
      obtain ⟨hg, hf⟩ := zq_gd hf
      refine zz_iast (i := mmany) hx hb hK hP hD hS 1 rfl (Nat.le_of_ble_eq_true rfl) hg dX7_type_40 (fun H locs hP hD hS => ?_)
      have hP : va_P D vwCl [eO mO 6 [.int (zI 0), .ref mQtext, .int (zI mmany), .int (zI mcur), .int (zI mst), .int (zI mtok), .int (zI mval), .ref mQnow, .ref mQfresh, .ref mQwas, .int (zI macts), .ref mQisKept, .ref mQkept, .ref mQheard, .ref mQnumber, .ref mQlowUp, .ref mQlowDown, .ref mQhighUp, .ref mQhighDown, .int (zI mlev), .ref mQseen, .int (zI memp), .ref mQfirst], eA mQtext (cy 0) 100 (zup mText mmany p1)] H := hP
      have hD : va_D A [eO mO 6 [.int (zI 0), .ref mQtext, .int (zI mmany), .int (zI mcur), .int (zI mst), .int (zI mtok), .int (zI mval), .ref mQnow, .ref mQfresh, .ref mQwas, .int (zI macts), .ref mQisKept, .ref mQkept, .ref mQheard, .ref mQnumber, .ref mQlowUp, .ref mQlowDown, .ref mQhighUp, .ref mQhighDown, .int (zI mlev), .ref mQseen, .int (zI memp), .ref mQfirst], eA mQtext (cy 0) 100 (zup mText mmany p1)] := hD
      refine lv_aload_n hx hb dX7_type_41 rfl (lv_at hl 0 rfl) ?_
      refine lv_dup hx hb dX7_type_42 rfl ?_
      refine va_get (D := D) (ci := 6) (v := .int (zI mmany)) (C := RX7) (T := TX7) (N := 23) hx hb hts u_X7_type_X7 hown hK.1 hP 0 rfl rfl 2 (by decide) (hts _ m_X7_type_3) (fun _ h9 => h9) rfl dX7_type_43 ?_
      refine lv_iconst (v := zI 1) hx hb dX7_type_46 rfl ?_
      refine zz_iadd hx hb dX7_type_47 ?_
      refine va_put (D := D) (ci := 6) (v := .int (zI (mmany + 1))) (ty := .int) (C := RX7) (T := TX7) (N := 23) hx hb hts u_X7_type_X7 tyX7 tyX7_ok nmX7 hown hK.1 hP hD hS 0 rfl rfl 2 (by decide) (hts _ m_X7_type_3) (fun _ h9 => h9) rfl (tyX7_ok 2 (by decide)) rfl rfl (Nat.le_of_ble_eq_true rfl) dX7_type_48 (fun H locs hP hD hS => ?_)
      have hP : va_P D vwCl [eO mO 6 [.int (zI 0), .ref mQtext, .int (zI (mmany + 1)), .int (zI mcur), .int (zI mst), .int (zI mtok), .int (zI mval), .ref mQnow, .ref mQfresh, .ref mQwas, .int (zI macts), .ref mQisKept, .ref mQkept, .ref mQheard, .ref mQnumber, .ref mQlowUp, .ref mQlowDown, .ref mQhighUp, .ref mQhighDown, .int (zI mlev), .ref mQseen, .int (zI memp), .ref mQfirst], eA mQtext (cy 0) 100 (zup mText mmany p1)] H := hP
      have hD : va_D A [eO mO 6 [.int (zI 0), .ref mQtext, .int (zI (mmany + 1)), .int (zI mcur), .int (zI mst), .int (zI mtok), .int (zI mval), .ref mQnow, .ref mQfresh, .ref mQwas, .int (zI macts), .ref mQisKept, .ref mQkept, .ref mQheard, .ref mQnumber, .ref mQlowUp, .ref mQlowDown, .ref mQhighUp, .ref mQhighDown, .int (zI mlev), .ref mQseen, .int (zI memp), .ref mQfirst], eA mQtext (cy 0) 100 (zup mText mmany p1)] := hD
      refine lv_aload_n hx hb dX7_type_51 rfl (lv_at hl 0 rfl) ?_
      refine va_get (D := D) (ci := 6) (v := .int (zI (mmany + 1))) (C := RX7) (T := TX7) (N := 23) hx hb hts u_X7_type_X7 hown hK.1 hP 0 rfl rfl 2 (by decide) (hts _ m_X7_type_3) (fun _ h9 => h9) rfl dX7_type_52 ?_
      have hf := zq_some hf
      cases hf
      exact W.iret hx hb hr (fun t ht hW => ⟨⟨_, (), rfl, rfl, by rw [ht]; exact hP, hD⟩, hS.F ht⟩) hS.2.2 dX7_type_55

noncomputable def f_X7_clear (mmany : Int) : Option (Int × Int × Int) :=
  some (mmany, 0, 0)
theorem m_X7_clear_1 : (.fieldLink RX7 1 "PulseTurnsModel" "thrown" "I" : Cond) ∈ wsX7_clear := List.mem_of_getElem? (i := 1) rfl
theorem m_X7_clear_2 : (.fieldLink RX7 13 "PulseTurnsModel" "many" "I" : Cond) ∈ wsX7_clear := List.mem_of_getElem? (i := 2) rfl
theorem u_X7_clear_X7 : ∀ w ∈ wsX70, w ∈ wsX7_clear := fun w h => List.mem_cons_of_mem _ (List.mem_append_right _ h)
set_option maxRecDepth 100000 in
set_option maxHeartbeats 4000000 in
theorem c_X7_clear (l : Launch) (D : va_G) (cy : Nat → ClassId) (mO mQtext mQnow mQfresh mQwas mQisKept mQkept mQheard mQnumber mQlowUp mQlowDown mQhighUp mQhighDown mQseen mQfirst : Nat) (sz : Nat) (mth : Int) (mmany : Int) (mcur : Int) (mst : Int) (mtok : Int) (mval : Int) (macts : Int) (mlev : Int) (memp : Int) {r : Int} {mth' : Int} {mmany' : Int} (hf : f_X7_clear mmany = some (r, mth', mmany')) : zMi l yX7_clear wsX7_clear ({ frames := 0, cells := 0, slots := 0, locals := 0 }) D cy sz [.ref mO] [eO mO 6 [.int (zI mth), .ref mQtext, .int (zI mmany), .int (zI mcur), .int (zI mst), .int (zI mtok), .int (zI mval), .ref mQnow, .ref mQfresh, .ref mQwas, .int (zI macts), .ref mQisKept, .ref mQkept, .ref mQheard, .ref mQnumber, .ref mQlowUp, .ref mQlowDown, .ref mQhighUp, .ref mQhighDown, .int (zI mlev), .ref mQseen, .int (zI memp), .ref mQfirst]] [eO mO 6 [.int (zI mth'), .ref mQtext, .int (zI mmany'), .int (zI mcur), .int (zI mst), .int (zI mtok), .int (zI mval), .ref mQnow, .ref mQfresh, .ref mQwas, .int (zI macts), .ref mQisKept, .ref mQkept, .ref mQheard, .ref mQnumber, .ref mQlowUp, .ref mQlowDown, .ref mQhighUp, .ref mQhighDown, .int (zI mlev), .ref mQseen, .int (zI memp), .ref mQfirst]] (zI r) := by
  refine Met.ofW (cc := cX7_clear) (maxL := 2) (ret := (some .int)) (by decide) rfl ?_
  intro p e s m args below meth c s₁ B hml hv
  obtain ⟨rfl, hsz, hP, hK, hD0⟩ := hv
  have hx := B.exec
  have hb := B.bytes
  have hr := B.returns
  have hts := atoms_spec (ws := wsX7_clear) B.pre
  have hown : s.vm.findClass RX7 = some m.cls := findClass_of_methodNamed B.named
  have hlocks := B.notSynchronized
  subst hsz
  have hD := hD0.self (sz := s.heap.size)
  generalize hAe : va_A [eO mO 6 [.int (zI mth), .ref mQtext, .int (zI mmany), .int (zI mcur), .int (zI mst), .int (zI mtok), .int (zI mval), .ref mQnow, .ref mQfresh, .ref mQwas, .int (zI macts), .ref mQisKept, .ref mQkept, .ref mQheard, .ref mQnumber, .ref mQlowUp, .ref mQlowDown, .ref mQhighUp, .ref mQhighDown, .int (zI mlev), .ref mQseen, .int (zI memp), .ref mQfirst]] s.heap.size = A at hD ⊢
  have hA : ∀ q : Nat, s.heap.size ≤ q → A q := fun q h => by rw [← hAe]; exact Or.inr h
  have hS : va_S A s.heap s.heap [] := va_S.rf
  have hl := lv_entry ([.ref mO]) (n := 2) (Nat.le_of_ble_eq_true rfl)
  rw [lg_entry_eq]
  generalize (lg_sl ([.ref mO]) ++ List.replicate (2 - (lg_sl ([.ref mO])).length) Slot.unset).toArray = ls at hl ⊢
  have hl : lv_has ls 2 [(0, .ref mO)] := hl
  have hf := zq_of hf
  unfold f_X7_clear at hf
  refine lv_aload_n hx hb dX7_clear_0 rfl (lv_at hl 0 rfl) ?_
  refine lv_iconst (v := zI 0) hx hb dX7_clear_1 rfl ?_
  refine va_put (D := D) (ci := 6) (v := .int (zI 0)) (ty := .int) (C := RX7) (T := TX7) (N := 23) hx hb hts u_X7_clear_X7 tyX7 tyX7_ok nmX7 hown hK.1 hP hD hS 0 rfl rfl 0 (by decide) (hts _ m_X7_clear_1) (fun _ h9 => h9) rfl (tyX7_ok 0 (by decide)) rfl rfl (Nat.le_of_ble_eq_true rfl) dX7_clear_2 (fun H locs hP hD hS => ?_)
  have hP : va_P D vwCl [eO mO 6 [.int (zI 0), .ref mQtext, .int (zI mmany), .int (zI mcur), .int (zI mst), .int (zI mtok), .int (zI mval), .ref mQnow, .ref mQfresh, .ref mQwas, .int (zI macts), .ref mQisKept, .ref mQkept, .ref mQheard, .ref mQnumber, .ref mQlowUp, .ref mQlowDown, .ref mQhighUp, .ref mQhighDown, .int (zI mlev), .ref mQseen, .int (zI memp), .ref mQfirst]] H := hP
  have hD : va_D A [eO mO 6 [.int (zI 0), .ref mQtext, .int (zI mmany), .int (zI mcur), .int (zI mst), .int (zI mtok), .int (zI mval), .ref mQnow, .ref mQfresh, .ref mQwas, .int (zI macts), .ref mQisKept, .ref mQkept, .ref mQheard, .ref mQnumber, .ref mQlowUp, .ref mQlowDown, .ref mQhighUp, .ref mQhighDown, .int (zI mlev), .ref mQseen, .int (zI memp), .ref mQfirst]] := hD
  refine lv_aload_n hx hb dX7_clear_5 rfl (lv_at hl 0 rfl) ?_
  refine va_get (D := D) (ci := 6) (v := .int (zI mmany)) (C := RX7) (T := TX7) (N := 23) hx hb hts u_X7_clear_X7 hown hK.1 hP 0 rfl rfl 2 (by decide) (hts _ m_X7_clear_2) (fun _ h9 => h9) rfl dX7_clear_6 ?_
  refine lv_istore_n (lv' := [(1, .int (zI mmany)), (0, .ref mO)]) hx hb dX7_clear_9 rfl hl (by decide) rfl (fun ls hl => ?_)
  refine lv_aload_n hx hb dX7_clear_10 rfl (lv_at hl 1 rfl) ?_
  refine lv_iconst (v := zI 0) hx hb dX7_clear_11 rfl ?_
  refine va_put (D := D) (ci := 6) (v := .int (zI 0)) (ty := .int) (C := RX7) (T := TX7) (N := 23) hx hb hts u_X7_clear_X7 tyX7 tyX7_ok nmX7 hown hK.1 hP hD hS 0 rfl rfl 2 (by decide) (hts _ m_X7_clear_2) (fun _ h9 => h9) rfl (tyX7_ok 2 (by decide)) rfl rfl (Nat.le_of_ble_eq_true rfl) dX7_clear_12 (fun H locs hP hD hS => ?_)
  have hP : va_P D vwCl [eO mO 6 [.int (zI 0), .ref mQtext, .int (zI 0), .int (zI mcur), .int (zI mst), .int (zI mtok), .int (zI mval), .ref mQnow, .ref mQfresh, .ref mQwas, .int (zI macts), .ref mQisKept, .ref mQkept, .ref mQheard, .ref mQnumber, .ref mQlowUp, .ref mQlowDown, .ref mQhighUp, .ref mQhighDown, .int (zI mlev), .ref mQseen, .int (zI memp), .ref mQfirst]] H := hP
  have hD : va_D A [eO mO 6 [.int (zI 0), .ref mQtext, .int (zI 0), .int (zI mcur), .int (zI mst), .int (zI mtok), .int (zI mval), .ref mQnow, .ref mQfresh, .ref mQwas, .int (zI macts), .ref mQisKept, .ref mQkept, .ref mQheard, .ref mQnumber, .ref mQlowUp, .ref mQlowDown, .ref mQhighUp, .ref mQhighDown, .int (zI mlev), .ref mQseen, .int (zI memp), .ref mQfirst]] := hD
  refine lv_iload_n hx hb dX7_clear_15 rfl (lv_at hl 0 rfl) ?_
  have hf := zq_some hf
  cases hf
  exact W.iret hx hb hr (fun t ht hW => ⟨⟨_, (), rfl, rfl, by rw [ht]; exact hP, hD⟩, hS.F ht⟩) hS.2.2 dX7_clear_16

noncomputable def f_X7_letterAt (p1 : Int) (mmany : Int) (mText : Nat → Int) : Option (Int) :=
  gd (zR p1 ∧ zR mmany) <|
  if p1 < mmany then
    gd (zin p1 100) <|
    some (mText (Int.toNat p1))
  else
    some (-1)
theorem m_X7_letterAt_1 : (.fieldLink RX7 13 "PulseTurnsModel" "many" "I" : Cond) ∈ wsX7_letterAt := List.mem_of_getElem? (i := 1) rfl
theorem m_X7_letterAt_2 : (.fieldLink RX7 16 "PulseTurnsModel" "text" "[I" : Cond) ∈ wsX7_letterAt := List.mem_of_getElem? (i := 2) rfl
theorem u_X7_letterAt_X7 : ∀ w ∈ wsX70, w ∈ wsX7_letterAt := fun w h => List.mem_cons_of_mem _ (List.mem_append_right _ h)
set_option maxRecDepth 100000 in
set_option maxHeartbeats 4000000 in
theorem c_X7_letterAt (l : Launch) (D : va_G) (cy : Nat → ClassId) (mO mQtext mQnow mQfresh mQwas mQisKept mQkept mQheard mQnumber mQlowUp mQlowDown mQhighUp mQhighDown mQseen mQfirst : Nat) (sz : Nat) (p1 : Int) (mth : Int) (mmany : Int) (mcur : Int) (mst : Int) (mtok : Int) (mval : Int) (macts : Int) (mlev : Int) (memp : Int) (mText : Nat → Int) {r : Int} (hf : f_X7_letterAt p1 mmany mText = some r) : zMi l yX7_letterAt wsX7_letterAt ({ frames := 0, cells := 0, slots := 0, locals := 0 }) D cy sz [.ref mO, .int (zI p1)] [eO mO 6 [.int (zI mth), .ref mQtext, .int (zI mmany), .int (zI mcur), .int (zI mst), .int (zI mtok), .int (zI mval), .ref mQnow, .ref mQfresh, .ref mQwas, .int (zI macts), .ref mQisKept, .ref mQkept, .ref mQheard, .ref mQnumber, .ref mQlowUp, .ref mQlowDown, .ref mQhighUp, .ref mQhighDown, .int (zI mlev), .ref mQseen, .int (zI memp), .ref mQfirst], eA mQtext (cy 0) 100 mText] [eO mO 6 [.int (zI mth), .ref mQtext, .int (zI mmany), .int (zI mcur), .int (zI mst), .int (zI mtok), .int (zI mval), .ref mQnow, .ref mQfresh, .ref mQwas, .int (zI macts), .ref mQisKept, .ref mQkept, .ref mQheard, .ref mQnumber, .ref mQlowUp, .ref mQlowDown, .ref mQhighUp, .ref mQhighDown, .int (zI mlev), .ref mQseen, .int (zI memp), .ref mQfirst], eA mQtext (cy 0) 100 mText] (zI r) := by
  refine Met.ofW (cc := cX7_letterAt) (maxL := 2) (ret := (some .int)) (by decide) rfl ?_
  intro p e s m args below meth c s₁ B hml hv
  obtain ⟨rfl, hsz, hP, hK, hD0⟩ := hv
  have hx := B.exec
  have hb := B.bytes
  have hr := B.returns
  have hts := atoms_spec (ws := wsX7_letterAt) B.pre
  have hown : s.vm.findClass RX7 = some m.cls := findClass_of_methodNamed B.named
  have hlocks := B.notSynchronized
  subst hsz
  have hD := hD0.self (sz := s.heap.size)
  generalize hAe : va_A [eO mO 6 [.int (zI mth), .ref mQtext, .int (zI mmany), .int (zI mcur), .int (zI mst), .int (zI mtok), .int (zI mval), .ref mQnow, .ref mQfresh, .ref mQwas, .int (zI macts), .ref mQisKept, .ref mQkept, .ref mQheard, .ref mQnumber, .ref mQlowUp, .ref mQlowDown, .ref mQhighUp, .ref mQhighDown, .int (zI mlev), .ref mQseen, .int (zI memp), .ref mQfirst], eA mQtext (cy 0) 100 mText] s.heap.size = A at hD ⊢
  have hA : ∀ q : Nat, s.heap.size ≤ q → A q := fun q h => by rw [← hAe]; exact Or.inr h
  have hS : va_S A s.heap s.heap [] := va_S.rf
  have hl := lv_entry ([.ref mO, .int (zI p1)]) (n := 2) (Nat.le_of_ble_eq_true rfl)
  rw [lg_entry_eq]
  generalize (lg_sl ([.ref mO, .int (zI p1)]) ++ List.replicate (2 - (lg_sl ([.ref mO, .int (zI p1)])).length) Slot.unset).toArray = ls at hl ⊢
  have hl : lv_has ls 2 [(0, .ref mO), (1, .int (zI p1))] := hl
  have hf := zq_of hf
  unfold f_X7_letterAt at hf
  refine lv_iload_n hx hb dX7_letterAt_0 rfl (lv_at hl 1 rfl) ?_
  refine lv_aload_n hx hb dX7_letterAt_1 rfl (lv_at hl 0 rfl) ?_
  refine va_get (D := D) (ci := 6) (v := .int (zI mmany)) (C := RX7) (T := TX7) (N := 23) hx hb hts u_X7_letterAt_X7 hown hK.1 hP 0 rfl rfl 2 (by decide) (hts _ m_X7_letterAt_1) (fun _ h9 => h9) rfl dX7_letterAt_2 ?_
  refine zz_icmp_ge (tgt := 17) hx hb dX7_letterAt_5 (by decide) hf (fun hc hf => ?_) (fun hc hf => ?_)
  · refine lv_aload_n hx hb dX7_letterAt_8 rfl (lv_at hl 0 rfl) ?_
    refine va_get (D := D) (ci := 6) (v := .ref mQtext) (C := RX7) (T := TX7) (N := 23) hx hb hts u_X7_letterAt_X7 hown hK.1 hP 0 rfl rfl 1 (by decide) (hts _ m_X7_letterAt_2) (fun _ h9 => h9) rfl dX7_letterAt_9 ?_
    refine lv_iload_n hx hb dX7_letterAt_12 rfl (lv_at hl 1 rfl) ?_
    obtain ⟨hg, hf⟩ := zq_gd hf
    refine zz_iald (i := p1) hx hb hK hP 1 rfl (Nat.le_of_ble_eq_true rfl) hg dX7_letterAt_13 ?_
    refine lv_goto (tgt := 18) hx hb dX7_letterAt_14 (by decide) ?_
    have hf := zq_some hf
    cases hf
    exact W.iret hx hb hr (fun t ht hW => ⟨⟨_, (), rfl, rfl, by rw [ht]; exact hP, hD⟩, hS.F ht⟩) hS.2.2 dX7_letterAt_18
  · refine lv_iconst (v := zI (-1)) hx hb dX7_letterAt_17 rfl ?_
    have hf := zq_some hf
    cases hf
    exact W.iret hx hb hr (fun t ht hW => ⟨⟨_, (), rfl, rfl, by rw [ht]; exact hP, hD⟩, hS.F ht⟩) hS.2.2 dX7_letterAt_18

noncomputable def st_X7_next (mmany : Int) (mText : Nat → Int) : (Nat × Int × Int × Int × Int × Int) → Option ((Nat × Int × Int × Int × Int × Int) ⊕ (Int × Int × Int × Int)) := fun v => match v with
  | (0, x1, mcur, mst, mtok, mval) =>
  (f_X7_letterAt mcur mmany mText).bind fun r5 =>
  gd (zR r5 ∧ zR 32) <|
  if r5 = 32 then
    some (.inl (0, 0, (mcur + 1), mst, mtok, mval))
  else
    (f_X7_letterAt mcur mmany mText).bind fun r39 =>
    gd (zR r39) <|
    if r39 < 0 then
      gd (zR r39) <|
      (f_X7_in r39 48 57).bind fun r69 =>
      gd (zR r69) <|
      if r69 = 0 then
        gd (zR r39) <|
        if r39 < 0 then
          some (.inr ((mcur + 0), mcur, 0, mval))
        else
          gd (zR r39 ∧ zR 98) <|
          if r39 = 98 then
            some (.inr ((mcur + 0), mcur, 1, mval))
          else
            gd (zR r39 ∧ zR 116) <|
            if r39 = 116 then
              some (.inr ((mcur + 0), mcur, 2, mval))
            else
              gd (zR r39 ∧ zR 59) <|
              if r39 = 59 then
                some (.inr ((mcur + 0), mcur, 4, mval))
              else
                some (.inr ((mcur + 0), mcur, 5, mval))
      else
        some (.inl (1, r39, (mcur + 0), mcur, 3, (r39 - 48)))
    else
      gd (zR r39) <|
      (f_X7_in r39 48 57).bind fun r69 =>
      gd (zR r69) <|
      if r69 = 0 then
        gd (zR r39) <|
        if r39 < 0 then
          some (.inr ((mcur + 1), mcur, 0, mval))
        else
          gd (zR r39 ∧ zR 98) <|
          if r39 = 98 then
            some (.inr ((mcur + 1), mcur, 1, mval))
          else
            gd (zR r39 ∧ zR 116) <|
            if r39 = 116 then
              some (.inr ((mcur + 1), mcur, 2, mval))
            else
              gd (zR r39 ∧ zR 59) <|
              if r39 = 59 then
                some (.inr ((mcur + 1), mcur, 4, mval))
              else
                some (.inr ((mcur + 1), mcur, 5, mval))
      else
        some (.inl (1, r39, (mcur + 1), mcur, 3, (r39 - 48)))
  | (1, x1, mcur, mst, mtok, mval) =>
  (f_X7_letterAt mcur mmany mText).bind fun r93 =>
  gd (zR r93) <|
  (f_X7_in r93 48 57).bind fun r103 =>
  gd (zR r103) <|
  if r103 = 0 then
    gd (zR mval ∧ zR 9999) <|
    if mval ≤ 9999 then
      gd (zR x1 ∧ zR 48) <|
      if x1 = 48 then
        gd (zR mcur ∧ zR (mst + 1)) <|
        if mcur ≤ (mst + 1) then
          some (.inr (mcur, mst, mtok, mval))
        else
          some (.inr (mcur, mst, 5, mval))
      else
        some (.inr (mcur, mst, mtok, mval))
    else
      some (.inr (mcur, mst, 5, mval))
  else
    gd (zR mval ∧ zR 9999) <|
    if mval ≤ 9999 then
      (f_X7_letterAt mcur mmany mText).bind fun r139 =>
      some (.inl (1, x1, (mcur + 1), mst, mtok, (((10 * mval) + r139) - 48)))
    else
      some (.inl (1, x1, (mcur + 1), mst, mtok, mval))
  | _ => none
noncomputable def f_X7_next (mmany : Int) (mcur : Int) (mst : Int) (mtok : Int) (mval : Int) (mText : Nat → Int) : Option (Int × Int × Int × Int) :=
  (f_X7_letterAt mcur mmany mText).bind fun r5 =>
  gd (zR r5 ∧ zR 32) <|
  if r5 = 32 then
    zev (st_X7_next mmany mText) (0, 0, (mcur + 1), mst, mtok, mval)
  else
    (f_X7_letterAt mcur mmany mText).bind fun r39 =>
    gd (zR r39) <|
    if r39 < 0 then
      gd (zR r39) <|
      (f_X7_in r39 48 57).bind fun r69 =>
      gd (zR r69) <|
      if r69 = 0 then
        gd (zR r39) <|
        if r39 < 0 then
          some ((mcur + 0), mcur, 0, mval)
        else
          gd (zR r39 ∧ zR 98) <|
          if r39 = 98 then
            some ((mcur + 0), mcur, 1, mval)
          else
            gd (zR r39 ∧ zR 116) <|
            if r39 = 116 then
              some ((mcur + 0), mcur, 2, mval)
            else
              gd (zR r39 ∧ zR 59) <|
              if r39 = 59 then
                some ((mcur + 0), mcur, 4, mval)
              else
                some ((mcur + 0), mcur, 5, mval)
      else
        zev (st_X7_next mmany mText) (1, r39, (mcur + 0), mcur, 3, (r39 - 48))
    else
      gd (zR r39) <|
      (f_X7_in r39 48 57).bind fun r69 =>
      gd (zR r69) <|
      if r69 = 0 then
        gd (zR r39) <|
        if r39 < 0 then
          some ((mcur + 1), mcur, 0, mval)
        else
          gd (zR r39 ∧ zR 98) <|
          if r39 = 98 then
            some ((mcur + 1), mcur, 1, mval)
          else
            gd (zR r39 ∧ zR 116) <|
            if r39 = 116 then
              some ((mcur + 1), mcur, 2, mval)
            else
              gd (zR r39 ∧ zR 59) <|
              if r39 = 59 then
                some ((mcur + 1), mcur, 4, mval)
              else
                some ((mcur + 1), mcur, 5, mval)
      else
        zev (st_X7_next mmany mText) (1, r39, (mcur + 1), mcur, 3, (r39 - 48))
theorem m_X7_next_1 : (.fieldLink RX7 20 "PulseTurnsModel" "cursor" "I" : Cond) ∈ wsX7_next := List.mem_of_getElem? (i := 1) rfl
theorem m_X7_next_2 : (.fieldLink RX7 27 "PulseTurnsModel" "start" "I" : Cond) ∈ wsX7_next := List.mem_of_getElem? (i := 2) rfl
theorem m_X7_next_3 : (.constantLong RX7 30 (48) : Cond) ∈ wsX7_next := List.mem_of_getElem? (i := 3) rfl
theorem m_X7_next_4 : (.constantLong RX7 32 (57) : Cond) ∈ wsX7_next := List.mem_of_getElem? (i := 4) rfl
theorem m_X7_next_5 : (.fieldLink RX7 34 "PulseTurnsModel" "token" "I" : Cond) ∈ wsX7_next := List.mem_of_getElem? (i := 5) rfl
theorem m_X7_next_6 : (.fieldLink RX7 37 "PulseTurnsModel" "value" "I" : Cond) ∈ wsX7_next := List.mem_of_getElem? (i := 6) rfl
theorem u_X7_next_X7 : ∀ w ∈ wsX70, w ∈ wsX7_next := fun w h => List.mem_cons_of_mem _ (List.mem_append_right _ h)
set_option maxRecDepth 100000 in
set_option maxHeartbeats 4000000 in
theorem c_X7_next (l : Launch) (D : va_G) (cy : Nat → ClassId) (mO mQtext mQnow mQfresh mQwas mQisKept mQkept mQheard mQnumber mQlowUp mQlowDown mQhighUp mQhighDown mQseen mQfirst : Nat) (sz : Nat) (mth : Int) (mmany : Int) (mcur : Int) (mst : Int) (mtok : Int) (mval : Int) (macts : Int) (mlev : Int) (memp : Int) (mText : Nat → Int) {mcur' : Int} {mst' : Int} {mtok' : Int} {mval' : Int} (hf : f_X7_next mmany mcur mst mtok mval mText = some (mcur', mst', mtok', mval')) : zMv l yX7_next wsX7_next ({ frames := 1, cells := 0, slots := 0, locals := 25 }) D cy sz [.ref mO] [eO mO 6 [.int (zI mth), .ref mQtext, .int (zI mmany), .int (zI mcur), .int (zI mst), .int (zI mtok), .int (zI mval), .ref mQnow, .ref mQfresh, .ref mQwas, .int (zI macts), .ref mQisKept, .ref mQkept, .ref mQheard, .ref mQnumber, .ref mQlowUp, .ref mQlowDown, .ref mQhighUp, .ref mQhighDown, .int (zI mlev), .ref mQseen, .int (zI memp), .ref mQfirst], eA mQtext (cy 0) 100 mText] [eO mO 6 [.int (zI mth), .ref mQtext, .int (zI mmany), .int (zI mcur'), .int (zI mst'), .int (zI mtok'), .int (zI mval'), .ref mQnow, .ref mQfresh, .ref mQwas, .int (zI macts), .ref mQisKept, .ref mQkept, .ref mQheard, .ref mQnumber, .ref mQlowUp, .ref mQlowDown, .ref mQhighUp, .ref mQhighDown, .int (zI mlev), .ref mQseen, .int (zI memp), .ref mQfirst], eA mQtext (cy 0) 100 mText] := by
  refine Met.ofW (cc := cX7_next) (maxL := 2) (ret := none) (by decide) rfl ?_
  intro p e s m args below meth c s₁ B hml hv
  obtain ⟨rfl, hsz, hP, hK, hD0⟩ := hv
  have hx := B.exec
  have hb := B.bytes
  have hr := B.returns
  have hts := atoms_spec (ws := wsX7_next) B.pre
  have hown : s.vm.findClass RX7 = some m.cls := findClass_of_methodNamed B.named
  have hlocks := B.notSynchronized
  subst hsz
  have hD := hD0.self (sz := s.heap.size)
  generalize hAe : va_A [eO mO 6 [.int (zI mth), .ref mQtext, .int (zI mmany), .int (zI mcur), .int (zI mst), .int (zI mtok), .int (zI mval), .ref mQnow, .ref mQfresh, .ref mQwas, .int (zI macts), .ref mQisKept, .ref mQkept, .ref mQheard, .ref mQnumber, .ref mQlowUp, .ref mQlowDown, .ref mQhighUp, .ref mQhighDown, .int (zI mlev), .ref mQseen, .int (zI memp), .ref mQfirst], eA mQtext (cy 0) 100 mText] s.heap.size = A at hD ⊢
  have hA : ∀ q : Nat, s.heap.size ≤ q → A q := fun q h => by rw [← hAe]; exact Or.inr h
  have hS : va_S A s.heap s.heap [] := va_S.rf
  have hl := lv_entry ([.ref mO]) (n := 2) (Nat.le_of_ble_eq_true rfl)
  rw [lg_entry_eq]
  generalize (lg_sl ([.ref mO]) ++ List.replicate (2 - (lg_sl ([.ref mO])).length) Slot.unset).toArray = ls at hl ⊢
  have hl : lv_has ls 2 [(0, .ref mO)] := hl
  have hf := zq_of hf
  have key := zloop (st := st_X7_next mmany mText) (res := (mcur', mst', mtok', mval')) (K := fun v => match v with
    | (0, x1, mcur, mst, mtok, mval) => ∀ (H : Heap) (locs : List Loc) (ls : Array Slot), va_P D vwCl [eO mO 6 [.int (zI mth), .ref mQtext, .int (zI mmany), .int (zI mcur), .int (zI mst), .int (zI mtok), .int (zI mval), .ref mQnow, .ref mQfresh, .ref mQwas, .int (zI macts), .ref mQisKept, .ref mQkept, .ref mQheard, .ref mQnumber, .ref mQlowUp, .ref mQlowDown, .ref mQhighUp, .ref mQhighDown, .int (zI mlev), .ref mQseen, .int (zI memp), .ref mQfirst], eA mQtext (cy 0) 100 mText] H → va_D A [eO mO 6 [.int (zI mth), .ref mQtext, .int (zI mmany), .int (zI mcur), .int (zI mst), .int (zI mtok), .int (zI mval), .ref mQnow, .ref mQfresh, .ref mQwas, .int (zI macts), .ref mQisKept, .ref mQkept, .ref mQheard, .ref mQnumber, .ref mQlowUp, .ref mQlowDown, .ref mQhighUp, .ref mQhighDown, .int (zI mlev), .ref mQseen, .int (zI memp), .ref mQfirst], eA mQtext (cy 0) 100 mText] → va_S A s.heap H locs → lv_has ls 2 [(0, .ref mO)] → zGv p l e wsX7_next ({ frames := 1, cells := 0, slots := 0, locals := 25 }) s m [.ref mO] below meth c A D [eO mO 6 [.int (zI mth), .ref mQtext, .int (zI mmany), .int (zI mcur'), .int (zI mst'), .int (zI mtok'), .int (zI mval'), .ref mQnow, .ref mQfresh, .ref mQwas, .int (zI macts), .ref mQisKept, .ref mQkept, .ref mQheard, .ref mQnumber, .ref mQlowUp, .ref mQlowDown, .ref mQhighUp, .ref mQhighDown, .int (zI mlev), .ref mQseen, .int (zI memp), .ref mQfirst], eA mQtext (cy 0) 100 mText] H locs (F0 m 0 ls [])
    | (1, x1, mcur, mst, mtok, mval) => ∀ (H : Heap) (locs : List Loc) (ls : Array Slot), va_P D vwCl [eO mO 6 [.int (zI mth), .ref mQtext, .int (zI mmany), .int (zI mcur), .int (zI mst), .int (zI mtok), .int (zI mval), .ref mQnow, .ref mQfresh, .ref mQwas, .int (zI macts), .ref mQisKept, .ref mQkept, .ref mQheard, .ref mQnumber, .ref mQlowUp, .ref mQlowDown, .ref mQhighUp, .ref mQhighDown, .int (zI mlev), .ref mQseen, .int (zI memp), .ref mQfirst], eA mQtext (cy 0) 100 mText] H → va_D A [eO mO 6 [.int (zI mth), .ref mQtext, .int (zI mmany), .int (zI mcur), .int (zI mst), .int (zI mtok), .int (zI mval), .ref mQnow, .ref mQfresh, .ref mQwas, .int (zI macts), .ref mQisKept, .ref mQkept, .ref mQheard, .ref mQnumber, .ref mQlowUp, .ref mQlowDown, .ref mQhighUp, .ref mQhighDown, .int (zI mlev), .ref mQseen, .int (zI memp), .ref mQfirst], eA mQtext (cy 0) 100 mText] → va_S A s.heap H locs → lv_has ls 2 [(0, .ref mO), (1, .int (zI x1))] → zGv p l e wsX7_next ({ frames := 1, cells := 0, slots := 0, locals := 25 }) s m [.ref mO] below meth c A D [eO mO 6 [.int (zI mth), .ref mQtext, .int (zI mmany), .int (zI mcur'), .int (zI mst'), .int (zI mtok'), .int (zI mval'), .ref mQnow, .ref mQfresh, .ref mQwas, .int (zI macts), .ref mQisKept, .ref mQkept, .ref mQheard, .ref mQnumber, .ref mQlowUp, .ref mQlowDown, .ref mQhighUp, .ref mQhighDown, .int (zI mlev), .ref mQseen, .int (zI memp), .ref mQfirst], eA mQtext (cy 0) 100 mText] H locs (F0 m 88 ls [])
    | _ => True) (by
    rintro ⟨k, x1, mcur, mst, mtok, mval⟩ hf
    match k, hf with
    | 0, hf =>
      intro H locs ls hP hD hS hl
      unfold st_X7_next at hf
      try dsimp only at hf
      refine lv_aload_n hx hb dX7_next_0 rfl (lv_at hl 0 rfl) ?_
      refine lv_aload_n hx hb dX7_next_1 rfl (lv_at hl 0 rfl) ?_
      refine va_get (D := D) (ci := 6) (v := .int (zI mcur)) (C := RX7) (T := TX7) (N := 23) hx hb hts u_X7_next_X7 hown hK.1 hP 0 rfl rfl 3 (by decide) (hts _ m_X7_next_1) (fun _ h9 => h9) rfl dX7_next_2 ?_
      obtain ⟨r5, hc5, hf⟩ := zq_bind hf
      refine zcallVi (wr := []) (rest := []) ⟨hx, hb, hml, hown, hts⟩ (c_X7_letterAt l D cy mO mQtext mQnow mQfresh mQwas mQisKept mQkept mQheard mQnumber mQlowUp mQlowDown mQhighUp mQhighDown mQseen mQfirst H.size mcur mth mmany mcur mst mtok mval macts mlev memp mText hc5) (cwV 1 hts gX7_next_X7_letterAt rfl rfl rfl (by decide +kernel) ⟨Nat.le_of_ble_eq_true rfl, Nat.le_of_ble_eq_true rfl⟩) hK hP hD hS hA [0, 1] [] rfl rfl rfl rfl (by decide) (va_recv hK.1 hP (ci := 6) (q0 := 0) rfl rfl) rfl hl.1 rfl (Nat.le_of_ble_eq_true rfl) dX7_next_5 ⟨Nat.zero_le _, Nat.zero_le _⟩ (fun H locs hP hD hS => ?_)
      have hP : va_P D vwCl [eO mO 6 [.int (zI mth), .ref mQtext, .int (zI mmany), .int (zI mcur), .int (zI mst), .int (zI mtok), .int (zI mval), .ref mQnow, .ref mQfresh, .ref mQwas, .int (zI macts), .ref mQisKept, .ref mQkept, .ref mQheard, .ref mQnumber, .ref mQlowUp, .ref mQlowDown, .ref mQhighUp, .ref mQhighDown, .int (zI mlev), .ref mQseen, .int (zI memp), .ref mQfirst], eA mQtext (cy 0) 100 mText] H := hP.sub [0, 1] rfl
      have hD : va_D A [eO mO 6 [.int (zI mth), .ref mQtext, .int (zI mmany), .int (zI mcur), .int (zI mst), .int (zI mtok), .int (zI mval), .ref mQnow, .ref mQfresh, .ref mQwas, .int (zI macts), .ref mQisKept, .ref mQkept, .ref mQheard, .ref mQnumber, .ref mQlowUp, .ref mQlowDown, .ref mQhighUp, .ref mQhighDown, .int (zI mlev), .ref mQseen, .int (zI memp), .ref mQfirst], eA mQtext (cy 0) 100 mText] := hD.sub [0, 1] rfl rfl
      refine lv_bipush (v := zI 32) hx hb dX7_next_8 (by decide) ?_
      refine zz_icmp_ne (tgt := 26) hx hb dX7_next_10 (by decide) hf (fun hc hf => ?_) (fun hc hf => ?_)
      · refine lv_aload_n hx hb dX7_next_13 rfl (lv_at hl 0 rfl) ?_
        refine lv_dup hx hb dX7_next_14 rfl ?_
        refine va_get (D := D) (ci := 6) (v := .int (zI mcur)) (C := RX7) (T := TX7) (N := 23) hx hb hts u_X7_next_X7 hown hK.1 hP 0 rfl rfl 3 (by decide) (hts _ m_X7_next_1) (fun _ h9 => h9) rfl dX7_next_15 ?_
        refine lv_iconst (v := zI 1) hx hb dX7_next_18 rfl ?_
        refine zz_iadd hx hb dX7_next_19 ?_
        refine va_put (D := D) (ci := 6) (v := .int (zI (mcur + 1))) (ty := .int) (C := RX7) (T := TX7) (N := 23) hx hb hts u_X7_next_X7 tyX7 tyX7_ok nmX7 hown hK.1 hP hD hS 0 rfl rfl 3 (by decide) (hts _ m_X7_next_1) (fun _ h9 => h9) rfl (tyX7_ok 3 (by decide)) rfl rfl (Nat.le_of_ble_eq_true rfl) dX7_next_20 (fun H locs hP hD hS => ?_)
        have hP : va_P D vwCl [eO mO 6 [.int (zI mth), .ref mQtext, .int (zI mmany), .int (zI (mcur + 1)), .int (zI mst), .int (zI mtok), .int (zI mval), .ref mQnow, .ref mQfresh, .ref mQwas, .int (zI macts), .ref mQisKept, .ref mQkept, .ref mQheard, .ref mQnumber, .ref mQlowUp, .ref mQlowDown, .ref mQhighUp, .ref mQhighDown, .int (zI mlev), .ref mQseen, .int (zI memp), .ref mQfirst], eA mQtext (cy 0) 100 mText] H := hP
        have hD : va_D A [eO mO 6 [.int (zI mth), .ref mQtext, .int (zI mmany), .int (zI (mcur + 1)), .int (zI mst), .int (zI mtok), .int (zI mval), .ref mQnow, .ref mQfresh, .ref mQwas, .int (zI macts), .ref mQisKept, .ref mQkept, .ref mQheard, .ref mQnumber, .ref mQlowUp, .ref mQlowDown, .ref mQhighUp, .ref mQhighDown, .int (zI mlev), .ref mQseen, .int (zI memp), .ref mQfirst], eA mQtext (cy 0) 100 mText] := hD
        refine lv_goto (tgt := 0) hx hb dX7_next_23 (by decide) ?_
        have hf := zq_some hf
        exact hf _ _ _ hP hD hS (lv_sub hl [0] rfl)
      · refine lv_aload_n hx hb dX7_next_26 rfl (lv_at hl 0 rfl) ?_
        refine lv_aload_n hx hb dX7_next_27 rfl (lv_at hl 0 rfl) ?_
        refine va_get (D := D) (ci := 6) (v := .int (zI mcur)) (C := RX7) (T := TX7) (N := 23) hx hb hts u_X7_next_X7 hown hK.1 hP 0 rfl rfl 3 (by decide) (hts _ m_X7_next_1) (fun _ h9 => h9) rfl dX7_next_28 ?_
        refine va_put (D := D) (ci := 6) (v := .int (zI mcur)) (ty := .int) (C := RX7) (T := TX7) (N := 23) hx hb hts u_X7_next_X7 tyX7 tyX7_ok nmX7 hown hK.1 hP hD hS 0 rfl rfl 4 (by decide) (hts _ m_X7_next_2) (fun _ h9 => h9) rfl (tyX7_ok 4 (by decide)) rfl rfl (Nat.le_of_ble_eq_true rfl) dX7_next_31 (fun H locs hP hD hS => ?_)
        have hP : va_P D vwCl [eO mO 6 [.int (zI mth), .ref mQtext, .int (zI mmany), .int (zI mcur), .int (zI mcur), .int (zI mtok), .int (zI mval), .ref mQnow, .ref mQfresh, .ref mQwas, .int (zI macts), .ref mQisKept, .ref mQkept, .ref mQheard, .ref mQnumber, .ref mQlowUp, .ref mQlowDown, .ref mQhighUp, .ref mQhighDown, .int (zI mlev), .ref mQseen, .int (zI memp), .ref mQfirst], eA mQtext (cy 0) 100 mText] H := hP
        have hD : va_D A [eO mO 6 [.int (zI mth), .ref mQtext, .int (zI mmany), .int (zI mcur), .int (zI mcur), .int (zI mtok), .int (zI mval), .ref mQnow, .ref mQfresh, .ref mQwas, .int (zI macts), .ref mQisKept, .ref mQkept, .ref mQheard, .ref mQnumber, .ref mQlowUp, .ref mQlowDown, .ref mQhighUp, .ref mQhighDown, .int (zI mlev), .ref mQseen, .int (zI memp), .ref mQfirst], eA mQtext (cy 0) 100 mText] := hD
        refine lv_aload_n hx hb dX7_next_34 rfl (lv_at hl 0 rfl) ?_
        refine lv_aload_n hx hb dX7_next_35 rfl (lv_at hl 0 rfl) ?_
        refine va_get (D := D) (ci := 6) (v := .int (zI mcur)) (C := RX7) (T := TX7) (N := 23) hx hb hts u_X7_next_X7 hown hK.1 hP 0 rfl rfl 3 (by decide) (hts _ m_X7_next_1) (fun _ h9 => h9) rfl dX7_next_36 ?_
        obtain ⟨r39, hc39, hf⟩ := zq_bind hf
        refine zcallVi (wr := []) (rest := []) ⟨hx, hb, hml, hown, hts⟩ (c_X7_letterAt l D cy mO mQtext mQnow mQfresh mQwas mQisKept mQkept mQheard mQnumber mQlowUp mQlowDown mQhighUp mQhighDown mQseen mQfirst H.size mcur mth mmany mcur mcur mtok mval macts mlev memp mText hc39) (cwV 1 hts gX7_next_X7_letterAt rfl rfl rfl (by decide +kernel) ⟨Nat.le_of_ble_eq_true rfl, Nat.le_of_ble_eq_true rfl⟩) hK hP hD hS hA [0, 1] [] rfl rfl rfl rfl (by decide) (va_recv hK.1 hP (ci := 6) (q0 := 0) rfl rfl) rfl hl.1 rfl (Nat.le_of_ble_eq_true rfl) dX7_next_39 ⟨Nat.zero_le _, Nat.zero_le _⟩ (fun H locs hP hD hS => ?_)
        have hP : va_P D vwCl [eO mO 6 [.int (zI mth), .ref mQtext, .int (zI mmany), .int (zI mcur), .int (zI mcur), .int (zI mtok), .int (zI mval), .ref mQnow, .ref mQfresh, .ref mQwas, .int (zI macts), .ref mQisKept, .ref mQkept, .ref mQheard, .ref mQnumber, .ref mQlowUp, .ref mQlowDown, .ref mQhighUp, .ref mQhighDown, .int (zI mlev), .ref mQseen, .int (zI memp), .ref mQfirst], eA mQtext (cy 0) 100 mText] H := hP.sub [0, 1] rfl
        have hD : va_D A [eO mO 6 [.int (zI mth), .ref mQtext, .int (zI mmany), .int (zI mcur), .int (zI mcur), .int (zI mtok), .int (zI mval), .ref mQnow, .ref mQfresh, .ref mQwas, .int (zI macts), .ref mQisKept, .ref mQkept, .ref mQheard, .ref mQnumber, .ref mQlowUp, .ref mQlowDown, .ref mQhighUp, .ref mQhighDown, .int (zI mlev), .ref mQseen, .int (zI memp), .ref mQfirst], eA mQtext (cy 0) 100 mText] := hD.sub [0, 1] rfl rfl
        refine lv_istore_n (lv' := [(1, .int (zI r39)), (0, .ref mO)]) hx hb dX7_next_42 rfl hl (by decide) rfl (fun ls hl => ?_)
        refine lv_aload_n hx hb dX7_next_43 rfl (lv_at hl 1 rfl) ?_
        refine lv_dup hx hb dX7_next_44 rfl ?_
        refine va_get (D := D) (ci := 6) (v := .int (zI mcur)) (C := RX7) (T := TX7) (N := 23) hx hb hts u_X7_next_X7 hown hK.1 hP 0 rfl rfl 3 (by decide) (hts _ m_X7_next_1) (fun _ h9 => h9) rfl dX7_next_45 ?_
        refine lv_iload_n hx hb dX7_next_48 rfl (lv_at hl 0 rfl) ?_
        refine zz_if_ge (tgt := 56) hx hb dX7_next_49 (by decide) hf (fun hc hf => ?_) (fun hc hf => ?_)
        · refine lv_iconst (v := zI 0) hx hb dX7_next_52 rfl ?_
          refine lv_goto (tgt := 57) hx hb dX7_next_53 (by decide) ?_
          refine zz_iadd hx hb dX7_next_57 ?_
          refine va_put (D := D) (ci := 6) (v := .int (zI (mcur + 0))) (ty := .int) (C := RX7) (T := TX7) (N := 23) hx hb hts u_X7_next_X7 tyX7 tyX7_ok nmX7 hown hK.1 hP hD hS 0 rfl rfl 3 (by decide) (hts _ m_X7_next_1) (fun _ h9 => h9) rfl (tyX7_ok 3 (by decide)) rfl rfl (Nat.le_of_ble_eq_true rfl) dX7_next_58 (fun H locs hP hD hS => ?_)
          have hP : va_P D vwCl [eO mO 6 [.int (zI mth), .ref mQtext, .int (zI mmany), .int (zI (mcur + 0)), .int (zI mcur), .int (zI mtok), .int (zI mval), .ref mQnow, .ref mQfresh, .ref mQwas, .int (zI macts), .ref mQisKept, .ref mQkept, .ref mQheard, .ref mQnumber, .ref mQlowUp, .ref mQlowDown, .ref mQhighUp, .ref mQhighDown, .int (zI mlev), .ref mQseen, .int (zI memp), .ref mQfirst], eA mQtext (cy 0) 100 mText] H := hP
          have hD : va_D A [eO mO 6 [.int (zI mth), .ref mQtext, .int (zI mmany), .int (zI (mcur + 0)), .int (zI mcur), .int (zI mtok), .int (zI mval), .ref mQnow, .ref mQfresh, .ref mQwas, .int (zI macts), .ref mQisKept, .ref mQkept, .ref mQheard, .ref mQnumber, .ref mQlowUp, .ref mQlowDown, .ref mQhighUp, .ref mQhighDown, .int (zI mlev), .ref mQseen, .int (zI memp), .ref mQfirst], eA mQtext (cy 0) 100 mText] := hD
          refine lv_iload_n hx hb dX7_next_61 rfl (lv_at hl 0 rfl) ?_
          obtain ⟨hg, hf⟩ := zq_gd hf
          refine lv_i2l (v := zL r39) hx hb dX7_next_62 (zL_i hg) ?_
          refine lv_ldc2 (v := zL 48) hx hb hown (hts _ m_X7_next_3) dX7_next_63 ?_
          refine lv_ldc2 (v := zL 57) hx hb hown (hts _ m_X7_next_4) dX7_next_66 ?_
          obtain ⟨r69, hc69, hf⟩ := zq_bind hf
          refine zcallSi (wr := [eO mO 6 [.int (zI mth), .ref mQtext, .int (zI mmany), .int (zI (mcur + 0)), .int (zI mcur), .int (zI mtok), .int (zI mval), .ref mQnow, .ref mQfresh, .ref mQwas, .int (zI macts), .ref mQisKept, .ref mQkept, .ref mQheard, .ref mQnumber, .ref mQlowUp, .ref mQlowDown, .ref mQhighUp, .ref mQhighDown, .int (zI mlev), .ref mQseen, .int (zI memp), .ref mQfirst], eA mQtext (cy 0) 100 mText]) (rest := []) ⟨hx, hb, hml, hown, hts⟩ (c_X7_in l D cy H.size r39 48 57 hc69) (va_cwS 3 hts gX7_next_X7_in rfl rfl rfl (by decide +kernel) ⟨Nat.le_of_ble_eq_true rfl, Nat.le_of_ble_eq_true rfl⟩) hK hP hD hS hA [] [0, 1] rfl rfl rfl rfl (by decide) rfl hl.1 rfl (Nat.le_of_ble_eq_true rfl) dX7_next_69 ⟨Nat.zero_le _, Nat.zero_le _⟩ (fun H locs hP hD hS => ?_)
          have hP : va_P D vwCl [eO mO 6 [.int (zI mth), .ref mQtext, .int (zI mmany), .int (zI (mcur + 0)), .int (zI mcur), .int (zI mtok), .int (zI mval), .ref mQnow, .ref mQfresh, .ref mQwas, .int (zI macts), .ref mQisKept, .ref mQkept, .ref mQheard, .ref mQnumber, .ref mQlowUp, .ref mQlowDown, .ref mQhighUp, .ref mQhighDown, .int (zI mlev), .ref mQseen, .int (zI memp), .ref mQfirst], eA mQtext (cy 0) 100 mText] H := hP.sub [0, 1] rfl
          have hD : va_D A [eO mO 6 [.int (zI mth), .ref mQtext, .int (zI mmany), .int (zI (mcur + 0)), .int (zI mcur), .int (zI mtok), .int (zI mval), .ref mQnow, .ref mQfresh, .ref mQwas, .int (zI macts), .ref mQisKept, .ref mQkept, .ref mQheard, .ref mQnumber, .ref mQlowUp, .ref mQlowDown, .ref mQhighUp, .ref mQhighDown, .int (zI mlev), .ref mQseen, .int (zI memp), .ref mQfirst], eA mQtext (cy 0) 100 mText] := hD.sub [0, 1] rfl rfl
          refine zz_if_eq (tgt := 199) hx hb dX7_next_72 (by decide) hf (fun hc hf => ?_) (fun hc hf => ?_)
          · refine lv_aload_n hx hb dX7_next_199 rfl (lv_at hl 1 rfl) ?_
            refine lv_iload_n hx hb dX7_next_200 rfl (lv_at hl 0 rfl) ?_
            refine zz_if_ge (tgt := 208) hx hb dX7_next_201 (by decide) hf (fun hc hf => ?_) (fun hc hf => ?_)
            · refine lv_iconst (v := zI 0) hx hb dX7_next_204 rfl ?_
              refine lv_goto (tgt := 239) hx hb dX7_next_205 (by decide) ?_
              refine va_put (D := D) (ci := 6) (v := .int (zI 0)) (ty := .int) (C := RX7) (T := TX7) (N := 23) hx hb hts u_X7_next_X7 tyX7 tyX7_ok nmX7 hown hK.1 hP hD hS 0 rfl rfl 5 (by decide) (hts _ m_X7_next_5) (fun _ h9 => h9) rfl (tyX7_ok 5 (by decide)) rfl rfl (Nat.le_of_ble_eq_true rfl) dX7_next_239 (fun H locs hP hD hS => ?_)
              have hP : va_P D vwCl [eO mO 6 [.int (zI mth), .ref mQtext, .int (zI mmany), .int (zI (mcur + 0)), .int (zI mcur), .int (zI 0), .int (zI mval), .ref mQnow, .ref mQfresh, .ref mQwas, .int (zI macts), .ref mQisKept, .ref mQkept, .ref mQheard, .ref mQnumber, .ref mQlowUp, .ref mQlowDown, .ref mQhighUp, .ref mQhighDown, .int (zI mlev), .ref mQseen, .int (zI memp), .ref mQfirst], eA mQtext (cy 0) 100 mText] H := hP
              have hD : va_D A [eO mO 6 [.int (zI mth), .ref mQtext, .int (zI mmany), .int (zI (mcur + 0)), .int (zI mcur), .int (zI 0), .int (zI mval), .ref mQnow, .ref mQfresh, .ref mQwas, .int (zI macts), .ref mQisKept, .ref mQkept, .ref mQheard, .ref mQnumber, .ref mQlowUp, .ref mQlowDown, .ref mQhighUp, .ref mQhighDown, .int (zI mlev), .ref mQseen, .int (zI memp), .ref mQfirst], eA mQtext (cy 0) 100 mText] := hD
              have hf := zq_some hf
              cases hf
              exact W.vret hx hb hr (fun t ht hW => ⟨⟨(), rfl, trivial, by rw [ht]; exact hP, hD⟩, hS.F ht⟩) hS.2.2 dX7_next_242
            · refine lv_iload_n hx hb dX7_next_208 rfl (lv_at hl 0 rfl) ?_
              refine lv_bipush (v := zI 98) hx hb dX7_next_209 (by decide) ?_
              refine zz_icmp_ne (tgt := 218) hx hb dX7_next_211 (by decide) hf (fun hc hf => ?_) (fun hc hf => ?_)
              · refine lv_iconst (v := zI 1) hx hb dX7_next_214 rfl ?_
                refine lv_goto (tgt := 239) hx hb dX7_next_215 (by decide) ?_
                refine va_put (D := D) (ci := 6) (v := .int (zI 1)) (ty := .int) (C := RX7) (T := TX7) (N := 23) hx hb hts u_X7_next_X7 tyX7 tyX7_ok nmX7 hown hK.1 hP hD hS 0 rfl rfl 5 (by decide) (hts _ m_X7_next_5) (fun _ h9 => h9) rfl (tyX7_ok 5 (by decide)) rfl rfl (Nat.le_of_ble_eq_true rfl) dX7_next_239 (fun H locs hP hD hS => ?_)
                have hP : va_P D vwCl [eO mO 6 [.int (zI mth), .ref mQtext, .int (zI mmany), .int (zI (mcur + 0)), .int (zI mcur), .int (zI 1), .int (zI mval), .ref mQnow, .ref mQfresh, .ref mQwas, .int (zI macts), .ref mQisKept, .ref mQkept, .ref mQheard, .ref mQnumber, .ref mQlowUp, .ref mQlowDown, .ref mQhighUp, .ref mQhighDown, .int (zI mlev), .ref mQseen, .int (zI memp), .ref mQfirst], eA mQtext (cy 0) 100 mText] H := hP
                have hD : va_D A [eO mO 6 [.int (zI mth), .ref mQtext, .int (zI mmany), .int (zI (mcur + 0)), .int (zI mcur), .int (zI 1), .int (zI mval), .ref mQnow, .ref mQfresh, .ref mQwas, .int (zI macts), .ref mQisKept, .ref mQkept, .ref mQheard, .ref mQnumber, .ref mQlowUp, .ref mQlowDown, .ref mQhighUp, .ref mQhighDown, .int (zI mlev), .ref mQseen, .int (zI memp), .ref mQfirst], eA mQtext (cy 0) 100 mText] := hD
                have hf := zq_some hf
                cases hf
                exact W.vret hx hb hr (fun t ht hW => ⟨⟨(), rfl, trivial, by rw [ht]; exact hP, hD⟩, hS.F ht⟩) hS.2.2 dX7_next_242
              · refine lv_iload_n hx hb dX7_next_218 rfl (lv_at hl 0 rfl) ?_
                refine lv_bipush (v := zI 116) hx hb dX7_next_219 (by decide) ?_
                refine zz_icmp_ne (tgt := 228) hx hb dX7_next_221 (by decide) hf (fun hc hf => ?_) (fun hc hf => ?_)
                · refine lv_iconst (v := zI 2) hx hb dX7_next_224 rfl ?_
                  refine lv_goto (tgt := 239) hx hb dX7_next_225 (by decide) ?_
                  refine va_put (D := D) (ci := 6) (v := .int (zI 2)) (ty := .int) (C := RX7) (T := TX7) (N := 23) hx hb hts u_X7_next_X7 tyX7 tyX7_ok nmX7 hown hK.1 hP hD hS 0 rfl rfl 5 (by decide) (hts _ m_X7_next_5) (fun _ h9 => h9) rfl (tyX7_ok 5 (by decide)) rfl rfl (Nat.le_of_ble_eq_true rfl) dX7_next_239 (fun H locs hP hD hS => ?_)
                  have hP : va_P D vwCl [eO mO 6 [.int (zI mth), .ref mQtext, .int (zI mmany), .int (zI (mcur + 0)), .int (zI mcur), .int (zI 2), .int (zI mval), .ref mQnow, .ref mQfresh, .ref mQwas, .int (zI macts), .ref mQisKept, .ref mQkept, .ref mQheard, .ref mQnumber, .ref mQlowUp, .ref mQlowDown, .ref mQhighUp, .ref mQhighDown, .int (zI mlev), .ref mQseen, .int (zI memp), .ref mQfirst], eA mQtext (cy 0) 100 mText] H := hP
                  have hD : va_D A [eO mO 6 [.int (zI mth), .ref mQtext, .int (zI mmany), .int (zI (mcur + 0)), .int (zI mcur), .int (zI 2), .int (zI mval), .ref mQnow, .ref mQfresh, .ref mQwas, .int (zI macts), .ref mQisKept, .ref mQkept, .ref mQheard, .ref mQnumber, .ref mQlowUp, .ref mQlowDown, .ref mQhighUp, .ref mQhighDown, .int (zI mlev), .ref mQseen, .int (zI memp), .ref mQfirst], eA mQtext (cy 0) 100 mText] := hD
                  have hf := zq_some hf
                  cases hf
                  exact W.vret hx hb hr (fun t ht hW => ⟨⟨(), rfl, trivial, by rw [ht]; exact hP, hD⟩, hS.F ht⟩) hS.2.2 dX7_next_242
                · refine lv_iload_n hx hb dX7_next_228 rfl (lv_at hl 0 rfl) ?_
                  refine lv_bipush (v := zI 59) hx hb dX7_next_229 (by decide) ?_
                  refine zz_icmp_ne (tgt := 238) hx hb dX7_next_231 (by decide) hf (fun hc hf => ?_) (fun hc hf => ?_)
                  · refine lv_iconst (v := zI 4) hx hb dX7_next_234 rfl ?_
                    refine lv_goto (tgt := 239) hx hb dX7_next_235 (by decide) ?_
                    refine va_put (D := D) (ci := 6) (v := .int (zI 4)) (ty := .int) (C := RX7) (T := TX7) (N := 23) hx hb hts u_X7_next_X7 tyX7 tyX7_ok nmX7 hown hK.1 hP hD hS 0 rfl rfl 5 (by decide) (hts _ m_X7_next_5) (fun _ h9 => h9) rfl (tyX7_ok 5 (by decide)) rfl rfl (Nat.le_of_ble_eq_true rfl) dX7_next_239 (fun H locs hP hD hS => ?_)
                    have hP : va_P D vwCl [eO mO 6 [.int (zI mth), .ref mQtext, .int (zI mmany), .int (zI (mcur + 0)), .int (zI mcur), .int (zI 4), .int (zI mval), .ref mQnow, .ref mQfresh, .ref mQwas, .int (zI macts), .ref mQisKept, .ref mQkept, .ref mQheard, .ref mQnumber, .ref mQlowUp, .ref mQlowDown, .ref mQhighUp, .ref mQhighDown, .int (zI mlev), .ref mQseen, .int (zI memp), .ref mQfirst], eA mQtext (cy 0) 100 mText] H := hP
                    have hD : va_D A [eO mO 6 [.int (zI mth), .ref mQtext, .int (zI mmany), .int (zI (mcur + 0)), .int (zI mcur), .int (zI 4), .int (zI mval), .ref mQnow, .ref mQfresh, .ref mQwas, .int (zI macts), .ref mQisKept, .ref mQkept, .ref mQheard, .ref mQnumber, .ref mQlowUp, .ref mQlowDown, .ref mQhighUp, .ref mQhighDown, .int (zI mlev), .ref mQseen, .int (zI memp), .ref mQfirst], eA mQtext (cy 0) 100 mText] := hD
                    have hf := zq_some hf
                    cases hf
                    exact W.vret hx hb hr (fun t ht hW => ⟨⟨(), rfl, trivial, by rw [ht]; exact hP, hD⟩, hS.F ht⟩) hS.2.2 dX7_next_242
                  · refine lv_iconst (v := zI 5) hx hb dX7_next_238 rfl ?_
                    refine va_put (D := D) (ci := 6) (v := .int (zI 5)) (ty := .int) (C := RX7) (T := TX7) (N := 23) hx hb hts u_X7_next_X7 tyX7 tyX7_ok nmX7 hown hK.1 hP hD hS 0 rfl rfl 5 (by decide) (hts _ m_X7_next_5) (fun _ h9 => h9) rfl (tyX7_ok 5 (by decide)) rfl rfl (Nat.le_of_ble_eq_true rfl) dX7_next_239 (fun H locs hP hD hS => ?_)
                    have hP : va_P D vwCl [eO mO 6 [.int (zI mth), .ref mQtext, .int (zI mmany), .int (zI (mcur + 0)), .int (zI mcur), .int (zI 5), .int (zI mval), .ref mQnow, .ref mQfresh, .ref mQwas, .int (zI macts), .ref mQisKept, .ref mQkept, .ref mQheard, .ref mQnumber, .ref mQlowUp, .ref mQlowDown, .ref mQhighUp, .ref mQhighDown, .int (zI mlev), .ref mQseen, .int (zI memp), .ref mQfirst], eA mQtext (cy 0) 100 mText] H := hP
                    have hD : va_D A [eO mO 6 [.int (zI mth), .ref mQtext, .int (zI mmany), .int (zI (mcur + 0)), .int (zI mcur), .int (zI 5), .int (zI mval), .ref mQnow, .ref mQfresh, .ref mQwas, .int (zI macts), .ref mQisKept, .ref mQkept, .ref mQheard, .ref mQnumber, .ref mQlowUp, .ref mQlowDown, .ref mQhighUp, .ref mQhighDown, .int (zI mlev), .ref mQseen, .int (zI memp), .ref mQfirst], eA mQtext (cy 0) 100 mText] := hD
                    have hf := zq_some hf
                    cases hf
                    exact W.vret hx hb hr (fun t ht hW => ⟨⟨(), rfl, trivial, by rw [ht]; exact hP, hD⟩, hS.F ht⟩) hS.2.2 dX7_next_242
          · refine lv_aload_n hx hb dX7_next_75 rfl (lv_at hl 1 rfl) ?_
            refine lv_iconst (v := zI 3) hx hb dX7_next_76 rfl ?_
            refine va_put (D := D) (ci := 6) (v := .int (zI 3)) (ty := .int) (C := RX7) (T := TX7) (N := 23) hx hb hts u_X7_next_X7 tyX7 tyX7_ok nmX7 hown hK.1 hP hD hS 0 rfl rfl 5 (by decide) (hts _ m_X7_next_5) (fun _ h9 => h9) rfl (tyX7_ok 5 (by decide)) rfl rfl (Nat.le_of_ble_eq_true rfl) dX7_next_77 (fun H locs hP hD hS => ?_)
            have hP : va_P D vwCl [eO mO 6 [.int (zI mth), .ref mQtext, .int (zI mmany), .int (zI (mcur + 0)), .int (zI mcur), .int (zI 3), .int (zI mval), .ref mQnow, .ref mQfresh, .ref mQwas, .int (zI macts), .ref mQisKept, .ref mQkept, .ref mQheard, .ref mQnumber, .ref mQlowUp, .ref mQlowDown, .ref mQhighUp, .ref mQhighDown, .int (zI mlev), .ref mQseen, .int (zI memp), .ref mQfirst], eA mQtext (cy 0) 100 mText] H := hP
            have hD : va_D A [eO mO 6 [.int (zI mth), .ref mQtext, .int (zI mmany), .int (zI (mcur + 0)), .int (zI mcur), .int (zI 3), .int (zI mval), .ref mQnow, .ref mQfresh, .ref mQwas, .int (zI macts), .ref mQisKept, .ref mQkept, .ref mQheard, .ref mQnumber, .ref mQlowUp, .ref mQlowDown, .ref mQhighUp, .ref mQhighDown, .int (zI mlev), .ref mQseen, .int (zI memp), .ref mQfirst], eA mQtext (cy 0) 100 mText] := hD
            refine lv_aload_n hx hb dX7_next_80 rfl (lv_at hl 1 rfl) ?_
            refine lv_iload_n hx hb dX7_next_81 rfl (lv_at hl 0 rfl) ?_
            refine lv_bipush (v := zI 48) hx hb dX7_next_82 (by decide) ?_
            refine zz_isub hx hb dX7_next_84 ?_
            refine va_put (D := D) (ci := 6) (v := .int (zI (r39 - 48))) (ty := .int) (C := RX7) (T := TX7) (N := 23) hx hb hts u_X7_next_X7 tyX7 tyX7_ok nmX7 hown hK.1 hP hD hS 0 rfl rfl 6 (by decide) (hts _ m_X7_next_6) (fun _ h9 => h9) rfl (tyX7_ok 6 (by decide)) rfl rfl (Nat.le_of_ble_eq_true rfl) dX7_next_85 (fun H locs hP hD hS => ?_)
            have hP : va_P D vwCl [eO mO 6 [.int (zI mth), .ref mQtext, .int (zI mmany), .int (zI (mcur + 0)), .int (zI mcur), .int (zI 3), .int (zI (r39 - 48)), .ref mQnow, .ref mQfresh, .ref mQwas, .int (zI macts), .ref mQisKept, .ref mQkept, .ref mQheard, .ref mQnumber, .ref mQlowUp, .ref mQlowDown, .ref mQhighUp, .ref mQhighDown, .int (zI mlev), .ref mQseen, .int (zI memp), .ref mQfirst], eA mQtext (cy 0) 100 mText] H := hP
            have hD : va_D A [eO mO 6 [.int (zI mth), .ref mQtext, .int (zI mmany), .int (zI (mcur + 0)), .int (zI mcur), .int (zI 3), .int (zI (r39 - 48)), .ref mQnow, .ref mQfresh, .ref mQwas, .int (zI macts), .ref mQisKept, .ref mQkept, .ref mQheard, .ref mQnumber, .ref mQlowUp, .ref mQlowDown, .ref mQhighUp, .ref mQhighDown, .int (zI mlev), .ref mQseen, .int (zI memp), .ref mQfirst], eA mQtext (cy 0) 100 mText] := hD
            have hf := zq_some hf
            exact hf _ _ _ hP hD hS (lv_sub hl [1, 0] rfl)
        · refine lv_iconst (v := zI 1) hx hb dX7_next_56 rfl ?_
          refine zz_iadd hx hb dX7_next_57 ?_
          refine va_put (D := D) (ci := 6) (v := .int (zI (mcur + 1))) (ty := .int) (C := RX7) (T := TX7) (N := 23) hx hb hts u_X7_next_X7 tyX7 tyX7_ok nmX7 hown hK.1 hP hD hS 0 rfl rfl 3 (by decide) (hts _ m_X7_next_1) (fun _ h9 => h9) rfl (tyX7_ok 3 (by decide)) rfl rfl (Nat.le_of_ble_eq_true rfl) dX7_next_58 (fun H locs hP hD hS => ?_)
          have hP : va_P D vwCl [eO mO 6 [.int (zI mth), .ref mQtext, .int (zI mmany), .int (zI (mcur + 1)), .int (zI mcur), .int (zI mtok), .int (zI mval), .ref mQnow, .ref mQfresh, .ref mQwas, .int (zI macts), .ref mQisKept, .ref mQkept, .ref mQheard, .ref mQnumber, .ref mQlowUp, .ref mQlowDown, .ref mQhighUp, .ref mQhighDown, .int (zI mlev), .ref mQseen, .int (zI memp), .ref mQfirst], eA mQtext (cy 0) 100 mText] H := hP
          have hD : va_D A [eO mO 6 [.int (zI mth), .ref mQtext, .int (zI mmany), .int (zI (mcur + 1)), .int (zI mcur), .int (zI mtok), .int (zI mval), .ref mQnow, .ref mQfresh, .ref mQwas, .int (zI macts), .ref mQisKept, .ref mQkept, .ref mQheard, .ref mQnumber, .ref mQlowUp, .ref mQlowDown, .ref mQhighUp, .ref mQhighDown, .int (zI mlev), .ref mQseen, .int (zI memp), .ref mQfirst], eA mQtext (cy 0) 100 mText] := hD
          refine lv_iload_n hx hb dX7_next_61 rfl (lv_at hl 0 rfl) ?_
          obtain ⟨hg, hf⟩ := zq_gd hf
          refine lv_i2l (v := zL r39) hx hb dX7_next_62 (zL_i hg) ?_
          refine lv_ldc2 (v := zL 48) hx hb hown (hts _ m_X7_next_3) dX7_next_63 ?_
          refine lv_ldc2 (v := zL 57) hx hb hown (hts _ m_X7_next_4) dX7_next_66 ?_
          obtain ⟨r69, hc69, hf⟩ := zq_bind hf
          refine zcallSi (wr := [eO mO 6 [.int (zI mth), .ref mQtext, .int (zI mmany), .int (zI (mcur + 1)), .int (zI mcur), .int (zI mtok), .int (zI mval), .ref mQnow, .ref mQfresh, .ref mQwas, .int (zI macts), .ref mQisKept, .ref mQkept, .ref mQheard, .ref mQnumber, .ref mQlowUp, .ref mQlowDown, .ref mQhighUp, .ref mQhighDown, .int (zI mlev), .ref mQseen, .int (zI memp), .ref mQfirst], eA mQtext (cy 0) 100 mText]) (rest := []) ⟨hx, hb, hml, hown, hts⟩ (c_X7_in l D cy H.size r39 48 57 hc69) (va_cwS 3 hts gX7_next_X7_in rfl rfl rfl (by decide +kernel) ⟨Nat.le_of_ble_eq_true rfl, Nat.le_of_ble_eq_true rfl⟩) hK hP hD hS hA [] [0, 1] rfl rfl rfl rfl (by decide) rfl hl.1 rfl (Nat.le_of_ble_eq_true rfl) dX7_next_69 ⟨Nat.zero_le _, Nat.zero_le _⟩ (fun H locs hP hD hS => ?_)
          have hP : va_P D vwCl [eO mO 6 [.int (zI mth), .ref mQtext, .int (zI mmany), .int (zI (mcur + 1)), .int (zI mcur), .int (zI mtok), .int (zI mval), .ref mQnow, .ref mQfresh, .ref mQwas, .int (zI macts), .ref mQisKept, .ref mQkept, .ref mQheard, .ref mQnumber, .ref mQlowUp, .ref mQlowDown, .ref mQhighUp, .ref mQhighDown, .int (zI mlev), .ref mQseen, .int (zI memp), .ref mQfirst], eA mQtext (cy 0) 100 mText] H := hP.sub [0, 1] rfl
          have hD : va_D A [eO mO 6 [.int (zI mth), .ref mQtext, .int (zI mmany), .int (zI (mcur + 1)), .int (zI mcur), .int (zI mtok), .int (zI mval), .ref mQnow, .ref mQfresh, .ref mQwas, .int (zI macts), .ref mQisKept, .ref mQkept, .ref mQheard, .ref mQnumber, .ref mQlowUp, .ref mQlowDown, .ref mQhighUp, .ref mQhighDown, .int (zI mlev), .ref mQseen, .int (zI memp), .ref mQfirst], eA mQtext (cy 0) 100 mText] := hD.sub [0, 1] rfl rfl
          refine zz_if_eq (tgt := 199) hx hb dX7_next_72 (by decide) hf (fun hc hf => ?_) (fun hc hf => ?_)
          · refine lv_aload_n hx hb dX7_next_199 rfl (lv_at hl 1 rfl) ?_
            refine lv_iload_n hx hb dX7_next_200 rfl (lv_at hl 0 rfl) ?_
            refine zz_if_ge (tgt := 208) hx hb dX7_next_201 (by decide) hf (fun hc hf => ?_) (fun hc hf => ?_)
            · refine lv_iconst (v := zI 0) hx hb dX7_next_204 rfl ?_
              refine lv_goto (tgt := 239) hx hb dX7_next_205 (by decide) ?_
              refine va_put (D := D) (ci := 6) (v := .int (zI 0)) (ty := .int) (C := RX7) (T := TX7) (N := 23) hx hb hts u_X7_next_X7 tyX7 tyX7_ok nmX7 hown hK.1 hP hD hS 0 rfl rfl 5 (by decide) (hts _ m_X7_next_5) (fun _ h9 => h9) rfl (tyX7_ok 5 (by decide)) rfl rfl (Nat.le_of_ble_eq_true rfl) dX7_next_239 (fun H locs hP hD hS => ?_)
              have hP : va_P D vwCl [eO mO 6 [.int (zI mth), .ref mQtext, .int (zI mmany), .int (zI (mcur + 1)), .int (zI mcur), .int (zI 0), .int (zI mval), .ref mQnow, .ref mQfresh, .ref mQwas, .int (zI macts), .ref mQisKept, .ref mQkept, .ref mQheard, .ref mQnumber, .ref mQlowUp, .ref mQlowDown, .ref mQhighUp, .ref mQhighDown, .int (zI mlev), .ref mQseen, .int (zI memp), .ref mQfirst], eA mQtext (cy 0) 100 mText] H := hP
              have hD : va_D A [eO mO 6 [.int (zI mth), .ref mQtext, .int (zI mmany), .int (zI (mcur + 1)), .int (zI mcur), .int (zI 0), .int (zI mval), .ref mQnow, .ref mQfresh, .ref mQwas, .int (zI macts), .ref mQisKept, .ref mQkept, .ref mQheard, .ref mQnumber, .ref mQlowUp, .ref mQlowDown, .ref mQhighUp, .ref mQhighDown, .int (zI mlev), .ref mQseen, .int (zI memp), .ref mQfirst], eA mQtext (cy 0) 100 mText] := hD
              have hf := zq_some hf
              cases hf
              exact W.vret hx hb hr (fun t ht hW => ⟨⟨(), rfl, trivial, by rw [ht]; exact hP, hD⟩, hS.F ht⟩) hS.2.2 dX7_next_242
            · refine lv_iload_n hx hb dX7_next_208 rfl (lv_at hl 0 rfl) ?_
              refine lv_bipush (v := zI 98) hx hb dX7_next_209 (by decide) ?_
              refine zz_icmp_ne (tgt := 218) hx hb dX7_next_211 (by decide) hf (fun hc hf => ?_) (fun hc hf => ?_)
              · refine lv_iconst (v := zI 1) hx hb dX7_next_214 rfl ?_
                refine lv_goto (tgt := 239) hx hb dX7_next_215 (by decide) ?_
                refine va_put (D := D) (ci := 6) (v := .int (zI 1)) (ty := .int) (C := RX7) (T := TX7) (N := 23) hx hb hts u_X7_next_X7 tyX7 tyX7_ok nmX7 hown hK.1 hP hD hS 0 rfl rfl 5 (by decide) (hts _ m_X7_next_5) (fun _ h9 => h9) rfl (tyX7_ok 5 (by decide)) rfl rfl (Nat.le_of_ble_eq_true rfl) dX7_next_239 (fun H locs hP hD hS => ?_)
                have hP : va_P D vwCl [eO mO 6 [.int (zI mth), .ref mQtext, .int (zI mmany), .int (zI (mcur + 1)), .int (zI mcur), .int (zI 1), .int (zI mval), .ref mQnow, .ref mQfresh, .ref mQwas, .int (zI macts), .ref mQisKept, .ref mQkept, .ref mQheard, .ref mQnumber, .ref mQlowUp, .ref mQlowDown, .ref mQhighUp, .ref mQhighDown, .int (zI mlev), .ref mQseen, .int (zI memp), .ref mQfirst], eA mQtext (cy 0) 100 mText] H := hP
                have hD : va_D A [eO mO 6 [.int (zI mth), .ref mQtext, .int (zI mmany), .int (zI (mcur + 1)), .int (zI mcur), .int (zI 1), .int (zI mval), .ref mQnow, .ref mQfresh, .ref mQwas, .int (zI macts), .ref mQisKept, .ref mQkept, .ref mQheard, .ref mQnumber, .ref mQlowUp, .ref mQlowDown, .ref mQhighUp, .ref mQhighDown, .int (zI mlev), .ref mQseen, .int (zI memp), .ref mQfirst], eA mQtext (cy 0) 100 mText] := hD
                have hf := zq_some hf
                cases hf
                exact W.vret hx hb hr (fun t ht hW => ⟨⟨(), rfl, trivial, by rw [ht]; exact hP, hD⟩, hS.F ht⟩) hS.2.2 dX7_next_242
              · refine lv_iload_n hx hb dX7_next_218 rfl (lv_at hl 0 rfl) ?_
                refine lv_bipush (v := zI 116) hx hb dX7_next_219 (by decide) ?_
                refine zz_icmp_ne (tgt := 228) hx hb dX7_next_221 (by decide) hf (fun hc hf => ?_) (fun hc hf => ?_)
                · refine lv_iconst (v := zI 2) hx hb dX7_next_224 rfl ?_
                  refine lv_goto (tgt := 239) hx hb dX7_next_225 (by decide) ?_
                  refine va_put (D := D) (ci := 6) (v := .int (zI 2)) (ty := .int) (C := RX7) (T := TX7) (N := 23) hx hb hts u_X7_next_X7 tyX7 tyX7_ok nmX7 hown hK.1 hP hD hS 0 rfl rfl 5 (by decide) (hts _ m_X7_next_5) (fun _ h9 => h9) rfl (tyX7_ok 5 (by decide)) rfl rfl (Nat.le_of_ble_eq_true rfl) dX7_next_239 (fun H locs hP hD hS => ?_)
                  have hP : va_P D vwCl [eO mO 6 [.int (zI mth), .ref mQtext, .int (zI mmany), .int (zI (mcur + 1)), .int (zI mcur), .int (zI 2), .int (zI mval), .ref mQnow, .ref mQfresh, .ref mQwas, .int (zI macts), .ref mQisKept, .ref mQkept, .ref mQheard, .ref mQnumber, .ref mQlowUp, .ref mQlowDown, .ref mQhighUp, .ref mQhighDown, .int (zI mlev), .ref mQseen, .int (zI memp), .ref mQfirst], eA mQtext (cy 0) 100 mText] H := hP
                  have hD : va_D A [eO mO 6 [.int (zI mth), .ref mQtext, .int (zI mmany), .int (zI (mcur + 1)), .int (zI mcur), .int (zI 2), .int (zI mval), .ref mQnow, .ref mQfresh, .ref mQwas, .int (zI macts), .ref mQisKept, .ref mQkept, .ref mQheard, .ref mQnumber, .ref mQlowUp, .ref mQlowDown, .ref mQhighUp, .ref mQhighDown, .int (zI mlev), .ref mQseen, .int (zI memp), .ref mQfirst], eA mQtext (cy 0) 100 mText] := hD
                  have hf := zq_some hf
                  cases hf
                  exact W.vret hx hb hr (fun t ht hW => ⟨⟨(), rfl, trivial, by rw [ht]; exact hP, hD⟩, hS.F ht⟩) hS.2.2 dX7_next_242
                · refine lv_iload_n hx hb dX7_next_228 rfl (lv_at hl 0 rfl) ?_
                  refine lv_bipush (v := zI 59) hx hb dX7_next_229 (by decide) ?_
                  refine zz_icmp_ne (tgt := 238) hx hb dX7_next_231 (by decide) hf (fun hc hf => ?_) (fun hc hf => ?_)
                  · refine lv_iconst (v := zI 4) hx hb dX7_next_234 rfl ?_
                    refine lv_goto (tgt := 239) hx hb dX7_next_235 (by decide) ?_
                    refine va_put (D := D) (ci := 6) (v := .int (zI 4)) (ty := .int) (C := RX7) (T := TX7) (N := 23) hx hb hts u_X7_next_X7 tyX7 tyX7_ok nmX7 hown hK.1 hP hD hS 0 rfl rfl 5 (by decide) (hts _ m_X7_next_5) (fun _ h9 => h9) rfl (tyX7_ok 5 (by decide)) rfl rfl (Nat.le_of_ble_eq_true rfl) dX7_next_239 (fun H locs hP hD hS => ?_)
                    have hP : va_P D vwCl [eO mO 6 [.int (zI mth), .ref mQtext, .int (zI mmany), .int (zI (mcur + 1)), .int (zI mcur), .int (zI 4), .int (zI mval), .ref mQnow, .ref mQfresh, .ref mQwas, .int (zI macts), .ref mQisKept, .ref mQkept, .ref mQheard, .ref mQnumber, .ref mQlowUp, .ref mQlowDown, .ref mQhighUp, .ref mQhighDown, .int (zI mlev), .ref mQseen, .int (zI memp), .ref mQfirst], eA mQtext (cy 0) 100 mText] H := hP
                    have hD : va_D A [eO mO 6 [.int (zI mth), .ref mQtext, .int (zI mmany), .int (zI (mcur + 1)), .int (zI mcur), .int (zI 4), .int (zI mval), .ref mQnow, .ref mQfresh, .ref mQwas, .int (zI macts), .ref mQisKept, .ref mQkept, .ref mQheard, .ref mQnumber, .ref mQlowUp, .ref mQlowDown, .ref mQhighUp, .ref mQhighDown, .int (zI mlev), .ref mQseen, .int (zI memp), .ref mQfirst], eA mQtext (cy 0) 100 mText] := hD
                    have hf := zq_some hf
                    cases hf
                    exact W.vret hx hb hr (fun t ht hW => ⟨⟨(), rfl, trivial, by rw [ht]; exact hP, hD⟩, hS.F ht⟩) hS.2.2 dX7_next_242
                  · refine lv_iconst (v := zI 5) hx hb dX7_next_238 rfl ?_
                    refine va_put (D := D) (ci := 6) (v := .int (zI 5)) (ty := .int) (C := RX7) (T := TX7) (N := 23) hx hb hts u_X7_next_X7 tyX7 tyX7_ok nmX7 hown hK.1 hP hD hS 0 rfl rfl 5 (by decide) (hts _ m_X7_next_5) (fun _ h9 => h9) rfl (tyX7_ok 5 (by decide)) rfl rfl (Nat.le_of_ble_eq_true rfl) dX7_next_239 (fun H locs hP hD hS => ?_)
                    have hP : va_P D vwCl [eO mO 6 [.int (zI mth), .ref mQtext, .int (zI mmany), .int (zI (mcur + 1)), .int (zI mcur), .int (zI 5), .int (zI mval), .ref mQnow, .ref mQfresh, .ref mQwas, .int (zI macts), .ref mQisKept, .ref mQkept, .ref mQheard, .ref mQnumber, .ref mQlowUp, .ref mQlowDown, .ref mQhighUp, .ref mQhighDown, .int (zI mlev), .ref mQseen, .int (zI memp), .ref mQfirst], eA mQtext (cy 0) 100 mText] H := hP
                    have hD : va_D A [eO mO 6 [.int (zI mth), .ref mQtext, .int (zI mmany), .int (zI (mcur + 1)), .int (zI mcur), .int (zI 5), .int (zI mval), .ref mQnow, .ref mQfresh, .ref mQwas, .int (zI macts), .ref mQisKept, .ref mQkept, .ref mQheard, .ref mQnumber, .ref mQlowUp, .ref mQlowDown, .ref mQhighUp, .ref mQhighDown, .int (zI mlev), .ref mQseen, .int (zI memp), .ref mQfirst], eA mQtext (cy 0) 100 mText] := hD
                    have hf := zq_some hf
                    cases hf
                    exact W.vret hx hb hr (fun t ht hW => ⟨⟨(), rfl, trivial, by rw [ht]; exact hP, hD⟩, hS.F ht⟩) hS.2.2 dX7_next_242
          · refine lv_aload_n hx hb dX7_next_75 rfl (lv_at hl 1 rfl) ?_
            refine lv_iconst (v := zI 3) hx hb dX7_next_76 rfl ?_
            refine va_put (D := D) (ci := 6) (v := .int (zI 3)) (ty := .int) (C := RX7) (T := TX7) (N := 23) hx hb hts u_X7_next_X7 tyX7 tyX7_ok nmX7 hown hK.1 hP hD hS 0 rfl rfl 5 (by decide) (hts _ m_X7_next_5) (fun _ h9 => h9) rfl (tyX7_ok 5 (by decide)) rfl rfl (Nat.le_of_ble_eq_true rfl) dX7_next_77 (fun H locs hP hD hS => ?_)
            have hP : va_P D vwCl [eO mO 6 [.int (zI mth), .ref mQtext, .int (zI mmany), .int (zI (mcur + 1)), .int (zI mcur), .int (zI 3), .int (zI mval), .ref mQnow, .ref mQfresh, .ref mQwas, .int (zI macts), .ref mQisKept, .ref mQkept, .ref mQheard, .ref mQnumber, .ref mQlowUp, .ref mQlowDown, .ref mQhighUp, .ref mQhighDown, .int (zI mlev), .ref mQseen, .int (zI memp), .ref mQfirst], eA mQtext (cy 0) 100 mText] H := hP
            have hD : va_D A [eO mO 6 [.int (zI mth), .ref mQtext, .int (zI mmany), .int (zI (mcur + 1)), .int (zI mcur), .int (zI 3), .int (zI mval), .ref mQnow, .ref mQfresh, .ref mQwas, .int (zI macts), .ref mQisKept, .ref mQkept, .ref mQheard, .ref mQnumber, .ref mQlowUp, .ref mQlowDown, .ref mQhighUp, .ref mQhighDown, .int (zI mlev), .ref mQseen, .int (zI memp), .ref mQfirst], eA mQtext (cy 0) 100 mText] := hD
            refine lv_aload_n hx hb dX7_next_80 rfl (lv_at hl 1 rfl) ?_
            refine lv_iload_n hx hb dX7_next_81 rfl (lv_at hl 0 rfl) ?_
            refine lv_bipush (v := zI 48) hx hb dX7_next_82 (by decide) ?_
            refine zz_isub hx hb dX7_next_84 ?_
            refine va_put (D := D) (ci := 6) (v := .int (zI (r39 - 48))) (ty := .int) (C := RX7) (T := TX7) (N := 23) hx hb hts u_X7_next_X7 tyX7 tyX7_ok nmX7 hown hK.1 hP hD hS 0 rfl rfl 6 (by decide) (hts _ m_X7_next_6) (fun _ h9 => h9) rfl (tyX7_ok 6 (by decide)) rfl rfl (Nat.le_of_ble_eq_true rfl) dX7_next_85 (fun H locs hP hD hS => ?_)
            have hP : va_P D vwCl [eO mO 6 [.int (zI mth), .ref mQtext, .int (zI mmany), .int (zI (mcur + 1)), .int (zI mcur), .int (zI 3), .int (zI (r39 - 48)), .ref mQnow, .ref mQfresh, .ref mQwas, .int (zI macts), .ref mQisKept, .ref mQkept, .ref mQheard, .ref mQnumber, .ref mQlowUp, .ref mQlowDown, .ref mQhighUp, .ref mQhighDown, .int (zI mlev), .ref mQseen, .int (zI memp), .ref mQfirst], eA mQtext (cy 0) 100 mText] H := hP
            have hD : va_D A [eO mO 6 [.int (zI mth), .ref mQtext, .int (zI mmany), .int (zI (mcur + 1)), .int (zI mcur), .int (zI 3), .int (zI (r39 - 48)), .ref mQnow, .ref mQfresh, .ref mQwas, .int (zI macts), .ref mQisKept, .ref mQkept, .ref mQheard, .ref mQnumber, .ref mQlowUp, .ref mQlowDown, .ref mQhighUp, .ref mQhighDown, .int (zI mlev), .ref mQseen, .int (zI memp), .ref mQfirst], eA mQtext (cy 0) 100 mText] := hD
            have hf := zq_some hf
            exact hf _ _ _ hP hD hS (lv_sub hl [1, 0] rfl)
    | 1, hf =>
      intro H locs ls hP hD hS hl
      unfold st_X7_next at hf
      try dsimp only at hf
      refine lv_aload_n hx hb dX7_next_88 rfl (lv_at hl 0 rfl) ?_
      refine lv_aload_n hx hb dX7_next_89 rfl (lv_at hl 0 rfl) ?_
      refine va_get (D := D) (ci := 6) (v := .int (zI mcur)) (C := RX7) (T := TX7) (N := 23) hx hb hts u_X7_next_X7 hown hK.1 hP 0 rfl rfl 3 (by decide) (hts _ m_X7_next_1) (fun _ h9 => h9) rfl dX7_next_90 ?_
      obtain ⟨r93, hc93, hf⟩ := zq_bind hf
      refine zcallVi (wr := []) (rest := []) ⟨hx, hb, hml, hown, hts⟩ (c_X7_letterAt l D cy mO mQtext mQnow mQfresh mQwas mQisKept mQkept mQheard mQnumber mQlowUp mQlowDown mQhighUp mQhighDown mQseen mQfirst H.size mcur mth mmany mcur mst mtok mval macts mlev memp mText hc93) (cwV 1 hts gX7_next_X7_letterAt rfl rfl rfl (by decide +kernel) ⟨Nat.le_of_ble_eq_true rfl, Nat.le_of_ble_eq_true rfl⟩) hK hP hD hS hA [0, 1] [] rfl rfl rfl rfl (by decide) (va_recv hK.1 hP (ci := 6) (q0 := 0) rfl rfl) rfl hl.1 rfl (Nat.le_of_ble_eq_true rfl) dX7_next_93 ⟨Nat.zero_le _, Nat.zero_le _⟩ (fun H locs hP hD hS => ?_)
      have hP : va_P D vwCl [eO mO 6 [.int (zI mth), .ref mQtext, .int (zI mmany), .int (zI mcur), .int (zI mst), .int (zI mtok), .int (zI mval), .ref mQnow, .ref mQfresh, .ref mQwas, .int (zI macts), .ref mQisKept, .ref mQkept, .ref mQheard, .ref mQnumber, .ref mQlowUp, .ref mQlowDown, .ref mQhighUp, .ref mQhighDown, .int (zI mlev), .ref mQseen, .int (zI memp), .ref mQfirst], eA mQtext (cy 0) 100 mText] H := hP.sub [0, 1] rfl
      have hD : va_D A [eO mO 6 [.int (zI mth), .ref mQtext, .int (zI mmany), .int (zI mcur), .int (zI mst), .int (zI mtok), .int (zI mval), .ref mQnow, .ref mQfresh, .ref mQwas, .int (zI macts), .ref mQisKept, .ref mQkept, .ref mQheard, .ref mQnumber, .ref mQlowUp, .ref mQlowDown, .ref mQhighUp, .ref mQhighDown, .int (zI mlev), .ref mQseen, .int (zI memp), .ref mQfirst], eA mQtext (cy 0) 100 mText] := hD.sub [0, 1] rfl rfl
      obtain ⟨hg, hf⟩ := zq_gd hf
      refine lv_i2l (v := zL r93) hx hb dX7_next_96 (zL_i hg) ?_
      refine lv_ldc2 (v := zL 48) hx hb hown (hts _ m_X7_next_3) dX7_next_97 ?_
      refine lv_ldc2 (v := zL 57) hx hb hown (hts _ m_X7_next_4) dX7_next_100 ?_
      obtain ⟨r103, hc103, hf⟩ := zq_bind hf
      refine zcallSi (wr := [eO mO 6 [.int (zI mth), .ref mQtext, .int (zI mmany), .int (zI mcur), .int (zI mst), .int (zI mtok), .int (zI mval), .ref mQnow, .ref mQfresh, .ref mQwas, .int (zI macts), .ref mQisKept, .ref mQkept, .ref mQheard, .ref mQnumber, .ref mQlowUp, .ref mQlowDown, .ref mQhighUp, .ref mQhighDown, .int (zI mlev), .ref mQseen, .int (zI memp), .ref mQfirst], eA mQtext (cy 0) 100 mText]) (rest := []) ⟨hx, hb, hml, hown, hts⟩ (c_X7_in l D cy H.size r93 48 57 hc103) (va_cwS 3 hts gX7_next_X7_in rfl rfl rfl (by decide +kernel) ⟨Nat.le_of_ble_eq_true rfl, Nat.le_of_ble_eq_true rfl⟩) hK hP hD hS hA [] [0, 1] rfl rfl rfl rfl (by decide) rfl hl.1 rfl (Nat.le_of_ble_eq_true rfl) dX7_next_103 ⟨Nat.zero_le _, Nat.zero_le _⟩ (fun H locs hP hD hS => ?_)
      have hP : va_P D vwCl [eO mO 6 [.int (zI mth), .ref mQtext, .int (zI mmany), .int (zI mcur), .int (zI mst), .int (zI mtok), .int (zI mval), .ref mQnow, .ref mQfresh, .ref mQwas, .int (zI macts), .ref mQisKept, .ref mQkept, .ref mQheard, .ref mQnumber, .ref mQlowUp, .ref mQlowDown, .ref mQhighUp, .ref mQhighDown, .int (zI mlev), .ref mQseen, .int (zI memp), .ref mQfirst], eA mQtext (cy 0) 100 mText] H := hP.sub [0, 1] rfl
      have hD : va_D A [eO mO 6 [.int (zI mth), .ref mQtext, .int (zI mmany), .int (zI mcur), .int (zI mst), .int (zI mtok), .int (zI mval), .ref mQnow, .ref mQfresh, .ref mQwas, .int (zI macts), .ref mQisKept, .ref mQkept, .ref mQheard, .ref mQnumber, .ref mQlowUp, .ref mQlowDown, .ref mQhighUp, .ref mQhighDown, .int (zI mlev), .ref mQseen, .int (zI memp), .ref mQfirst], eA mQtext (cy 0) 100 mText] := hD.sub [0, 1] rfl rfl
      refine zz_if_eq (tgt := 162) hx hb dX7_next_106 (by decide) hf (fun hc hf => ?_) (fun hc hf => ?_)
      · refine lv_aload_n hx hb dX7_next_162 rfl (lv_at hl 0 rfl) ?_
        refine va_get (D := D) (ci := 6) (v := .int (zI mval)) (C := RX7) (T := TX7) (N := 23) hx hb hts u_X7_next_X7 hown hK.1 hP 0 rfl rfl 6 (by decide) (hts _ m_X7_next_6) (fun _ h9 => h9) rfl dX7_next_163 ?_
        refine lv_sipush (v := zI 9999) hx hb dX7_next_166 (by decide) ?_
        refine zz_icmp_gt (tgt := 191) hx hb dX7_next_169 (by decide) hf (fun hc hf => ?_) (fun hc hf => ?_)
        · refine lv_iload_n hx hb dX7_next_172 rfl (lv_at hl 1 rfl) ?_
          refine lv_bipush (v := zI 48) hx hb dX7_next_173 (by decide) ?_
          refine zz_icmp_ne (tgt := 242) hx hb dX7_next_175 (by decide) hf (fun hc hf => ?_) (fun hc hf => ?_)
          · refine lv_aload_n hx hb dX7_next_178 rfl (lv_at hl 0 rfl) ?_
            refine va_get (D := D) (ci := 6) (v := .int (zI mcur)) (C := RX7) (T := TX7) (N := 23) hx hb hts u_X7_next_X7 hown hK.1 hP 0 rfl rfl 3 (by decide) (hts _ m_X7_next_1) (fun _ h9 => h9) rfl dX7_next_179 ?_
            refine lv_aload_n hx hb dX7_next_182 rfl (lv_at hl 0 rfl) ?_
            refine va_get (D := D) (ci := 6) (v := .int (zI mst)) (C := RX7) (T := TX7) (N := 23) hx hb hts u_X7_next_X7 hown hK.1 hP 0 rfl rfl 4 (by decide) (hts _ m_X7_next_2) (fun _ h9 => h9) rfl dX7_next_183 ?_
            refine lv_iconst (v := zI 1) hx hb dX7_next_186 rfl ?_
            refine zz_iadd hx hb dX7_next_187 ?_
            refine zz_icmp_le (tgt := 242) hx hb dX7_next_188 (by decide) hf (fun hc hf => ?_) (fun hc hf => ?_)
            · have hf := zq_some hf
              cases hf
              exact W.vret hx hb hr (fun t ht hW => ⟨⟨(), rfl, trivial, by rw [ht]; exact hP, hD⟩, hS.F ht⟩) hS.2.2 dX7_next_242
            · refine lv_aload_n hx hb dX7_next_191 rfl (lv_at hl 0 rfl) ?_
              refine lv_iconst (v := zI 5) hx hb dX7_next_192 rfl ?_
              refine va_put (D := D) (ci := 6) (v := .int (zI 5)) (ty := .int) (C := RX7) (T := TX7) (N := 23) hx hb hts u_X7_next_X7 tyX7 tyX7_ok nmX7 hown hK.1 hP hD hS 0 rfl rfl 5 (by decide) (hts _ m_X7_next_5) (fun _ h9 => h9) rfl (tyX7_ok 5 (by decide)) rfl rfl (Nat.le_of_ble_eq_true rfl) dX7_next_193 (fun H locs hP hD hS => ?_)
              have hP : va_P D vwCl [eO mO 6 [.int (zI mth), .ref mQtext, .int (zI mmany), .int (zI mcur), .int (zI mst), .int (zI 5), .int (zI mval), .ref mQnow, .ref mQfresh, .ref mQwas, .int (zI macts), .ref mQisKept, .ref mQkept, .ref mQheard, .ref mQnumber, .ref mQlowUp, .ref mQlowDown, .ref mQhighUp, .ref mQhighDown, .int (zI mlev), .ref mQseen, .int (zI memp), .ref mQfirst], eA mQtext (cy 0) 100 mText] H := hP
              have hD : va_D A [eO mO 6 [.int (zI mth), .ref mQtext, .int (zI mmany), .int (zI mcur), .int (zI mst), .int (zI 5), .int (zI mval), .ref mQnow, .ref mQfresh, .ref mQwas, .int (zI macts), .ref mQisKept, .ref mQkept, .ref mQheard, .ref mQnumber, .ref mQlowUp, .ref mQlowDown, .ref mQhighUp, .ref mQhighDown, .int (zI mlev), .ref mQseen, .int (zI memp), .ref mQfirst], eA mQtext (cy 0) 100 mText] := hD
              refine lv_goto (tgt := 242) hx hb dX7_next_196 (by decide) ?_
              have hf := zq_some hf
              cases hf
              exact W.vret hx hb hr (fun t ht hW => ⟨⟨(), rfl, trivial, by rw [ht]; exact hP, hD⟩, hS.F ht⟩) hS.2.2 dX7_next_242
          · have hf := zq_some hf
            cases hf
            exact W.vret hx hb hr (fun t ht hW => ⟨⟨(), rfl, trivial, by rw [ht]; exact hP, hD⟩, hS.F ht⟩) hS.2.2 dX7_next_242
        · refine lv_aload_n hx hb dX7_next_191 rfl (lv_at hl 0 rfl) ?_
          refine lv_iconst (v := zI 5) hx hb dX7_next_192 rfl ?_
          refine va_put (D := D) (ci := 6) (v := .int (zI 5)) (ty := .int) (C := RX7) (T := TX7) (N := 23) hx hb hts u_X7_next_X7 tyX7 tyX7_ok nmX7 hown hK.1 hP hD hS 0 rfl rfl 5 (by decide) (hts _ m_X7_next_5) (fun _ h9 => h9) rfl (tyX7_ok 5 (by decide)) rfl rfl (Nat.le_of_ble_eq_true rfl) dX7_next_193 (fun H locs hP hD hS => ?_)
          have hP : va_P D vwCl [eO mO 6 [.int (zI mth), .ref mQtext, .int (zI mmany), .int (zI mcur), .int (zI mst), .int (zI 5), .int (zI mval), .ref mQnow, .ref mQfresh, .ref mQwas, .int (zI macts), .ref mQisKept, .ref mQkept, .ref mQheard, .ref mQnumber, .ref mQlowUp, .ref mQlowDown, .ref mQhighUp, .ref mQhighDown, .int (zI mlev), .ref mQseen, .int (zI memp), .ref mQfirst], eA mQtext (cy 0) 100 mText] H := hP
          have hD : va_D A [eO mO 6 [.int (zI mth), .ref mQtext, .int (zI mmany), .int (zI mcur), .int (zI mst), .int (zI 5), .int (zI mval), .ref mQnow, .ref mQfresh, .ref mQwas, .int (zI macts), .ref mQisKept, .ref mQkept, .ref mQheard, .ref mQnumber, .ref mQlowUp, .ref mQlowDown, .ref mQhighUp, .ref mQhighDown, .int (zI mlev), .ref mQseen, .int (zI memp), .ref mQfirst], eA mQtext (cy 0) 100 mText] := hD
          refine lv_goto (tgt := 242) hx hb dX7_next_196 (by decide) ?_
          have hf := zq_some hf
          cases hf
          exact W.vret hx hb hr (fun t ht hW => ⟨⟨(), rfl, trivial, by rw [ht]; exact hP, hD⟩, hS.F ht⟩) hS.2.2 dX7_next_242
      · refine lv_aload_n hx hb dX7_next_109 rfl (lv_at hl 0 rfl) ?_
        refine lv_aload_n hx hb dX7_next_110 rfl (lv_at hl 0 rfl) ?_
        refine va_get (D := D) (ci := 6) (v := .int (zI mval)) (C := RX7) (T := TX7) (N := 23) hx hb hts u_X7_next_X7 hown hK.1 hP 0 rfl rfl 6 (by decide) (hts _ m_X7_next_6) (fun _ h9 => h9) rfl dX7_next_111 ?_
        refine lv_sipush (v := zI 9999) hx hb dX7_next_114 (by decide) ?_
        refine zz_icmp_le (tgt := 127) hx hb dX7_next_117 (by decide) hf (fun hc hf => ?_) (fun hc hf => ?_)
        · refine lv_bipush (v := zI 10) hx hb dX7_next_127 (by decide) ?_
          refine lv_aload_n hx hb dX7_next_129 rfl (lv_at hl 0 rfl) ?_
          refine va_get (D := D) (ci := 6) (v := .int (zI mval)) (C := RX7) (T := TX7) (N := 23) hx hb hts u_X7_next_X7 hown hK.1 hP 0 rfl rfl 6 (by decide) (hts _ m_X7_next_6) (fun _ h9 => h9) rfl dX7_next_130 ?_
          refine zz_imul hx hb dX7_next_133 ?_
          refine lv_aload_n hx hb dX7_next_134 rfl (lv_at hl 0 rfl) ?_
          refine lv_aload_n hx hb dX7_next_135 rfl (lv_at hl 0 rfl) ?_
          refine va_get (D := D) (ci := 6) (v := .int (zI mcur)) (C := RX7) (T := TX7) (N := 23) hx hb hts u_X7_next_X7 hown hK.1 hP 0 rfl rfl 3 (by decide) (hts _ m_X7_next_1) (fun _ h9 => h9) rfl dX7_next_136 ?_
          obtain ⟨r139, hc139, hf⟩ := zq_bind hf
          refine zcallVi (wr := []) (rest := [.int (zI (10 * mval)), .ref mO]) ⟨hx, hb, hml, hown, hts⟩ (c_X7_letterAt l D cy mO mQtext mQnow mQfresh mQwas mQisKept mQkept mQheard mQnumber mQlowUp mQlowDown mQhighUp mQhighDown mQseen mQfirst H.size mcur mth mmany mcur mst mtok mval macts mlev memp mText hc139) (cwV 1 hts gX7_next_X7_letterAt rfl rfl rfl (by decide +kernel) ⟨Nat.le_of_ble_eq_true rfl, Nat.le_of_ble_eq_true rfl⟩) hK hP hD hS hA [0, 1] [] rfl rfl rfl rfl (by decide) (va_recv hK.1 hP (ci := 6) (q0 := 0) rfl rfl) rfl hl.1 rfl (Nat.le_of_ble_eq_true rfl) dX7_next_139 ⟨Nat.zero_le _, Nat.zero_le _⟩ (fun H locs hP hD hS => ?_)
          have hP : va_P D vwCl [eO mO 6 [.int (zI mth), .ref mQtext, .int (zI mmany), .int (zI mcur), .int (zI mst), .int (zI mtok), .int (zI mval), .ref mQnow, .ref mQfresh, .ref mQwas, .int (zI macts), .ref mQisKept, .ref mQkept, .ref mQheard, .ref mQnumber, .ref mQlowUp, .ref mQlowDown, .ref mQhighUp, .ref mQhighDown, .int (zI mlev), .ref mQseen, .int (zI memp), .ref mQfirst], eA mQtext (cy 0) 100 mText] H := hP.sub [0, 1] rfl
          have hD : va_D A [eO mO 6 [.int (zI mth), .ref mQtext, .int (zI mmany), .int (zI mcur), .int (zI mst), .int (zI mtok), .int (zI mval), .ref mQnow, .ref mQfresh, .ref mQwas, .int (zI macts), .ref mQisKept, .ref mQkept, .ref mQheard, .ref mQnumber, .ref mQlowUp, .ref mQlowDown, .ref mQhighUp, .ref mQhighDown, .int (zI mlev), .ref mQseen, .int (zI memp), .ref mQfirst], eA mQtext (cy 0) 100 mText] := hD.sub [0, 1] rfl rfl
          refine zz_iadd hx hb dX7_next_142 ?_
          refine lv_bipush (v := zI 48) hx hb dX7_next_143 (by decide) ?_
          refine zz_isub hx hb dX7_next_145 ?_
          refine va_put (D := D) (ci := 6) (v := .int (zI (((10 * mval) + r139) - 48))) (ty := .int) (C := RX7) (T := TX7) (N := 23) hx hb hts u_X7_next_X7 tyX7 tyX7_ok nmX7 hown hK.1 hP hD hS 0 rfl rfl 6 (by decide) (hts _ m_X7_next_6) (fun _ h9 => h9) rfl (tyX7_ok 6 (by decide)) rfl rfl (Nat.le_of_ble_eq_true rfl) dX7_next_146 (fun H locs hP hD hS => ?_)
          have hP : va_P D vwCl [eO mO 6 [.int (zI mth), .ref mQtext, .int (zI mmany), .int (zI mcur), .int (zI mst), .int (zI mtok), .int (zI (((10 * mval) + r139) - 48)), .ref mQnow, .ref mQfresh, .ref mQwas, .int (zI macts), .ref mQisKept, .ref mQkept, .ref mQheard, .ref mQnumber, .ref mQlowUp, .ref mQlowDown, .ref mQhighUp, .ref mQhighDown, .int (zI mlev), .ref mQseen, .int (zI memp), .ref mQfirst], eA mQtext (cy 0) 100 mText] H := hP
          have hD : va_D A [eO mO 6 [.int (zI mth), .ref mQtext, .int (zI mmany), .int (zI mcur), .int (zI mst), .int (zI mtok), .int (zI (((10 * mval) + r139) - 48)), .ref mQnow, .ref mQfresh, .ref mQwas, .int (zI macts), .ref mQisKept, .ref mQkept, .ref mQheard, .ref mQnumber, .ref mQlowUp, .ref mQlowDown, .ref mQhighUp, .ref mQhighDown, .int (zI mlev), .ref mQseen, .int (zI memp), .ref mQfirst], eA mQtext (cy 0) 100 mText] := hD
          refine lv_aload_n hx hb dX7_next_149 rfl (lv_at hl 0 rfl) ?_
          refine lv_dup hx hb dX7_next_150 rfl ?_
          refine va_get (D := D) (ci := 6) (v := .int (zI mcur)) (C := RX7) (T := TX7) (N := 23) hx hb hts u_X7_next_X7 hown hK.1 hP 0 rfl rfl 3 (by decide) (hts _ m_X7_next_1) (fun _ h9 => h9) rfl dX7_next_151 ?_
          refine lv_iconst (v := zI 1) hx hb dX7_next_154 rfl ?_
          refine zz_iadd hx hb dX7_next_155 ?_
          refine va_put (D := D) (ci := 6) (v := .int (zI (mcur + 1))) (ty := .int) (C := RX7) (T := TX7) (N := 23) hx hb hts u_X7_next_X7 tyX7 tyX7_ok nmX7 hown hK.1 hP hD hS 0 rfl rfl 3 (by decide) (hts _ m_X7_next_1) (fun _ h9 => h9) rfl (tyX7_ok 3 (by decide)) rfl rfl (Nat.le_of_ble_eq_true rfl) dX7_next_156 (fun H locs hP hD hS => ?_)
          have hP : va_P D vwCl [eO mO 6 [.int (zI mth), .ref mQtext, .int (zI mmany), .int (zI (mcur + 1)), .int (zI mst), .int (zI mtok), .int (zI (((10 * mval) + r139) - 48)), .ref mQnow, .ref mQfresh, .ref mQwas, .int (zI macts), .ref mQisKept, .ref mQkept, .ref mQheard, .ref mQnumber, .ref mQlowUp, .ref mQlowDown, .ref mQhighUp, .ref mQhighDown, .int (zI mlev), .ref mQseen, .int (zI memp), .ref mQfirst], eA mQtext (cy 0) 100 mText] H := hP
          have hD : va_D A [eO mO 6 [.int (zI mth), .ref mQtext, .int (zI mmany), .int (zI (mcur + 1)), .int (zI mst), .int (zI mtok), .int (zI (((10 * mval) + r139) - 48)), .ref mQnow, .ref mQfresh, .ref mQwas, .int (zI macts), .ref mQisKept, .ref mQkept, .ref mQheard, .ref mQnumber, .ref mQlowUp, .ref mQlowDown, .ref mQhighUp, .ref mQhighDown, .int (zI mlev), .ref mQseen, .int (zI memp), .ref mQfirst], eA mQtext (cy 0) 100 mText] := hD
          refine lv_goto (tgt := 88) hx hb dX7_next_159 (by decide) ?_
          have hf := zq_some hf
          exact hf _ _ _ hP hD hS (lv_sub hl [0, 1] rfl)
        · refine lv_aload_n hx hb dX7_next_120 rfl (lv_at hl 0 rfl) ?_
          refine va_get (D := D) (ci := 6) (v := .int (zI mval)) (C := RX7) (T := TX7) (N := 23) hx hb hts u_X7_next_X7 hown hK.1 hP 0 rfl rfl 6 (by decide) (hts _ m_X7_next_6) (fun _ h9 => h9) rfl dX7_next_121 ?_
          refine lv_goto (tgt := 146) hx hb dX7_next_124 (by decide) ?_
          refine va_put (D := D) (ci := 6) (v := .int (zI mval)) (ty := .int) (C := RX7) (T := TX7) (N := 23) hx hb hts u_X7_next_X7 tyX7 tyX7_ok nmX7 hown hK.1 hP hD hS 0 rfl rfl 6 (by decide) (hts _ m_X7_next_6) (fun _ h9 => h9) rfl (tyX7_ok 6 (by decide)) rfl rfl (Nat.le_of_ble_eq_true rfl) dX7_next_146 (fun H locs hP hD hS => ?_)
          have hP : va_P D vwCl [eO mO 6 [.int (zI mth), .ref mQtext, .int (zI mmany), .int (zI mcur), .int (zI mst), .int (zI mtok), .int (zI mval), .ref mQnow, .ref mQfresh, .ref mQwas, .int (zI macts), .ref mQisKept, .ref mQkept, .ref mQheard, .ref mQnumber, .ref mQlowUp, .ref mQlowDown, .ref mQhighUp, .ref mQhighDown, .int (zI mlev), .ref mQseen, .int (zI memp), .ref mQfirst], eA mQtext (cy 0) 100 mText] H := hP
          have hD : va_D A [eO mO 6 [.int (zI mth), .ref mQtext, .int (zI mmany), .int (zI mcur), .int (zI mst), .int (zI mtok), .int (zI mval), .ref mQnow, .ref mQfresh, .ref mQwas, .int (zI macts), .ref mQisKept, .ref mQkept, .ref mQheard, .ref mQnumber, .ref mQlowUp, .ref mQlowDown, .ref mQhighUp, .ref mQhighDown, .int (zI mlev), .ref mQseen, .int (zI memp), .ref mQfirst], eA mQtext (cy 0) 100 mText] := hD
          refine lv_aload_n hx hb dX7_next_149 rfl (lv_at hl 0 rfl) ?_
          refine lv_dup hx hb dX7_next_150 rfl ?_
          refine va_get (D := D) (ci := 6) (v := .int (zI mcur)) (C := RX7) (T := TX7) (N := 23) hx hb hts u_X7_next_X7 hown hK.1 hP 0 rfl rfl 3 (by decide) (hts _ m_X7_next_1) (fun _ h9 => h9) rfl dX7_next_151 ?_
          refine lv_iconst (v := zI 1) hx hb dX7_next_154 rfl ?_
          refine zz_iadd hx hb dX7_next_155 ?_
          refine va_put (D := D) (ci := 6) (v := .int (zI (mcur + 1))) (ty := .int) (C := RX7) (T := TX7) (N := 23) hx hb hts u_X7_next_X7 tyX7 tyX7_ok nmX7 hown hK.1 hP hD hS 0 rfl rfl 3 (by decide) (hts _ m_X7_next_1) (fun _ h9 => h9) rfl (tyX7_ok 3 (by decide)) rfl rfl (Nat.le_of_ble_eq_true rfl) dX7_next_156 (fun H locs hP hD hS => ?_)
          have hP : va_P D vwCl [eO mO 6 [.int (zI mth), .ref mQtext, .int (zI mmany), .int (zI (mcur + 1)), .int (zI mst), .int (zI mtok), .int (zI mval), .ref mQnow, .ref mQfresh, .ref mQwas, .int (zI macts), .ref mQisKept, .ref mQkept, .ref mQheard, .ref mQnumber, .ref mQlowUp, .ref mQlowDown, .ref mQhighUp, .ref mQhighDown, .int (zI mlev), .ref mQseen, .int (zI memp), .ref mQfirst], eA mQtext (cy 0) 100 mText] H := hP
          have hD : va_D A [eO mO 6 [.int (zI mth), .ref mQtext, .int (zI mmany), .int (zI (mcur + 1)), .int (zI mst), .int (zI mtok), .int (zI mval), .ref mQnow, .ref mQfresh, .ref mQwas, .int (zI macts), .ref mQisKept, .ref mQkept, .ref mQheard, .ref mQnumber, .ref mQlowUp, .ref mQlowDown, .ref mQhighUp, .ref mQhighDown, .int (zI mlev), .ref mQseen, .int (zI memp), .ref mQfirst], eA mQtext (cy 0) 100 mText] := hD
          refine lv_goto (tgt := 88) hx hb dX7_next_159 (by decide) ?_
          have hf := zq_some hf
          exact hf _ _ _ hP hD hS (lv_sub hl [0, 1] rfl)
    | n + 2, hf => exact hf.elim)
  unfold f_X7_next at hf
  refine lv_aload_n hx hb dX7_next_0 rfl (lv_at hl 0 rfl) ?_
  refine lv_aload_n hx hb dX7_next_1 rfl (lv_at hl 0 rfl) ?_
  refine va_get (D := D) (ci := 6) (v := .int (zI mcur)) (C := RX7) (T := TX7) (N := 23) hx hb hts u_X7_next_X7 hown hK.1 hP 0 rfl rfl 3 (by decide) (hts _ m_X7_next_1) (fun _ h9 => h9) rfl dX7_next_2 ?_
  obtain ⟨r5, hc5, hf⟩ := zq_bind hf
  refine zcallVi (wr := []) (rest := []) ⟨hx, hb, hml, hown, hts⟩ (c_X7_letterAt l D cy mO mQtext mQnow mQfresh mQwas mQisKept mQkept mQheard mQnumber mQlowUp mQlowDown mQhighUp mQhighDown mQseen mQfirst s.heap.size mcur mth mmany mcur mst mtok mval macts mlev memp mText hc5) (cwV 1 hts gX7_next_X7_letterAt rfl rfl rfl (by decide +kernel) ⟨Nat.le_of_ble_eq_true rfl, Nat.le_of_ble_eq_true rfl⟩) hK hP hD hS hA [0, 1] [] rfl rfl rfl rfl (by decide) (va_recv hK.1 hP (ci := 6) (q0 := 0) rfl rfl) rfl hl.1 rfl (Nat.le_of_ble_eq_true rfl) dX7_next_5 ⟨Nat.zero_le _, Nat.zero_le _⟩ (fun H locs hP hD hS => ?_)
  have hP : va_P D vwCl [eO mO 6 [.int (zI mth), .ref mQtext, .int (zI mmany), .int (zI mcur), .int (zI mst), .int (zI mtok), .int (zI mval), .ref mQnow, .ref mQfresh, .ref mQwas, .int (zI macts), .ref mQisKept, .ref mQkept, .ref mQheard, .ref mQnumber, .ref mQlowUp, .ref mQlowDown, .ref mQhighUp, .ref mQhighDown, .int (zI mlev), .ref mQseen, .int (zI memp), .ref mQfirst], eA mQtext (cy 0) 100 mText] H := hP.sub [0, 1] rfl
  have hD : va_D A [eO mO 6 [.int (zI mth), .ref mQtext, .int (zI mmany), .int (zI mcur), .int (zI mst), .int (zI mtok), .int (zI mval), .ref mQnow, .ref mQfresh, .ref mQwas, .int (zI macts), .ref mQisKept, .ref mQkept, .ref mQheard, .ref mQnumber, .ref mQlowUp, .ref mQlowDown, .ref mQhighUp, .ref mQhighDown, .int (zI mlev), .ref mQseen, .int (zI memp), .ref mQfirst], eA mQtext (cy 0) 100 mText] := hD.sub [0, 1] rfl rfl
  refine lv_bipush (v := zI 32) hx hb dX7_next_8 (by decide) ?_
  refine zz_icmp_ne (tgt := 26) hx hb dX7_next_10 (by decide) hf (fun hc hf => ?_) (fun hc hf => ?_)
  · refine lv_aload_n hx hb dX7_next_13 rfl (lv_at hl 0 rfl) ?_
    refine lv_dup hx hb dX7_next_14 rfl ?_
    refine va_get (D := D) (ci := 6) (v := .int (zI mcur)) (C := RX7) (T := TX7) (N := 23) hx hb hts u_X7_next_X7 hown hK.1 hP 0 rfl rfl 3 (by decide) (hts _ m_X7_next_1) (fun _ h9 => h9) rfl dX7_next_15 ?_
    refine lv_iconst (v := zI 1) hx hb dX7_next_18 rfl ?_
    refine zz_iadd hx hb dX7_next_19 ?_
    refine va_put (D := D) (ci := 6) (v := .int (zI (mcur + 1))) (ty := .int) (C := RX7) (T := TX7) (N := 23) hx hb hts u_X7_next_X7 tyX7 tyX7_ok nmX7 hown hK.1 hP hD hS 0 rfl rfl 3 (by decide) (hts _ m_X7_next_1) (fun _ h9 => h9) rfl (tyX7_ok 3 (by decide)) rfl rfl (Nat.le_of_ble_eq_true rfl) dX7_next_20 (fun H locs hP hD hS => ?_)
    have hP : va_P D vwCl [eO mO 6 [.int (zI mth), .ref mQtext, .int (zI mmany), .int (zI (mcur + 1)), .int (zI mst), .int (zI mtok), .int (zI mval), .ref mQnow, .ref mQfresh, .ref mQwas, .int (zI macts), .ref mQisKept, .ref mQkept, .ref mQheard, .ref mQnumber, .ref mQlowUp, .ref mQlowDown, .ref mQhighUp, .ref mQhighDown, .int (zI mlev), .ref mQseen, .int (zI memp), .ref mQfirst], eA mQtext (cy 0) 100 mText] H := hP
    have hD : va_D A [eO mO 6 [.int (zI mth), .ref mQtext, .int (zI mmany), .int (zI (mcur + 1)), .int (zI mst), .int (zI mtok), .int (zI mval), .ref mQnow, .ref mQfresh, .ref mQwas, .int (zI macts), .ref mQisKept, .ref mQkept, .ref mQheard, .ref mQnumber, .ref mQlowUp, .ref mQlowDown, .ref mQhighUp, .ref mQhighDown, .int (zI mlev), .ref mQseen, .int (zI memp), .ref mQfirst], eA mQtext (cy 0) 100 mText] := hD
    refine lv_goto (tgt := 0) hx hb dX7_next_23 (by decide) ?_
    exact key _ (zq_eq hf) _ _ _ hP hD hS (lv_sub hl [0] rfl)
  · refine lv_aload_n hx hb dX7_next_26 rfl (lv_at hl 0 rfl) ?_
    refine lv_aload_n hx hb dX7_next_27 rfl (lv_at hl 0 rfl) ?_
    refine va_get (D := D) (ci := 6) (v := .int (zI mcur)) (C := RX7) (T := TX7) (N := 23) hx hb hts u_X7_next_X7 hown hK.1 hP 0 rfl rfl 3 (by decide) (hts _ m_X7_next_1) (fun _ h9 => h9) rfl dX7_next_28 ?_
    refine va_put (D := D) (ci := 6) (v := .int (zI mcur)) (ty := .int) (C := RX7) (T := TX7) (N := 23) hx hb hts u_X7_next_X7 tyX7 tyX7_ok nmX7 hown hK.1 hP hD hS 0 rfl rfl 4 (by decide) (hts _ m_X7_next_2) (fun _ h9 => h9) rfl (tyX7_ok 4 (by decide)) rfl rfl (Nat.le_of_ble_eq_true rfl) dX7_next_31 (fun H locs hP hD hS => ?_)
    have hP : va_P D vwCl [eO mO 6 [.int (zI mth), .ref mQtext, .int (zI mmany), .int (zI mcur), .int (zI mcur), .int (zI mtok), .int (zI mval), .ref mQnow, .ref mQfresh, .ref mQwas, .int (zI macts), .ref mQisKept, .ref mQkept, .ref mQheard, .ref mQnumber, .ref mQlowUp, .ref mQlowDown, .ref mQhighUp, .ref mQhighDown, .int (zI mlev), .ref mQseen, .int (zI memp), .ref mQfirst], eA mQtext (cy 0) 100 mText] H := hP
    have hD : va_D A [eO mO 6 [.int (zI mth), .ref mQtext, .int (zI mmany), .int (zI mcur), .int (zI mcur), .int (zI mtok), .int (zI mval), .ref mQnow, .ref mQfresh, .ref mQwas, .int (zI macts), .ref mQisKept, .ref mQkept, .ref mQheard, .ref mQnumber, .ref mQlowUp, .ref mQlowDown, .ref mQhighUp, .ref mQhighDown, .int (zI mlev), .ref mQseen, .int (zI memp), .ref mQfirst], eA mQtext (cy 0) 100 mText] := hD
    refine lv_aload_n hx hb dX7_next_34 rfl (lv_at hl 0 rfl) ?_
    refine lv_aload_n hx hb dX7_next_35 rfl (lv_at hl 0 rfl) ?_
    refine va_get (D := D) (ci := 6) (v := .int (zI mcur)) (C := RX7) (T := TX7) (N := 23) hx hb hts u_X7_next_X7 hown hK.1 hP 0 rfl rfl 3 (by decide) (hts _ m_X7_next_1) (fun _ h9 => h9) rfl dX7_next_36 ?_
    obtain ⟨r39, hc39, hf⟩ := zq_bind hf
    refine zcallVi (wr := []) (rest := []) ⟨hx, hb, hml, hown, hts⟩ (c_X7_letterAt l D cy mO mQtext mQnow mQfresh mQwas mQisKept mQkept mQheard mQnumber mQlowUp mQlowDown mQhighUp mQhighDown mQseen mQfirst H.size mcur mth mmany mcur mcur mtok mval macts mlev memp mText hc39) (cwV 1 hts gX7_next_X7_letterAt rfl rfl rfl (by decide +kernel) ⟨Nat.le_of_ble_eq_true rfl, Nat.le_of_ble_eq_true rfl⟩) hK hP hD hS hA [0, 1] [] rfl rfl rfl rfl (by decide) (va_recv hK.1 hP (ci := 6) (q0 := 0) rfl rfl) rfl hl.1 rfl (Nat.le_of_ble_eq_true rfl) dX7_next_39 ⟨Nat.zero_le _, Nat.zero_le _⟩ (fun H locs hP hD hS => ?_)
    have hP : va_P D vwCl [eO mO 6 [.int (zI mth), .ref mQtext, .int (zI mmany), .int (zI mcur), .int (zI mcur), .int (zI mtok), .int (zI mval), .ref mQnow, .ref mQfresh, .ref mQwas, .int (zI macts), .ref mQisKept, .ref mQkept, .ref mQheard, .ref mQnumber, .ref mQlowUp, .ref mQlowDown, .ref mQhighUp, .ref mQhighDown, .int (zI mlev), .ref mQseen, .int (zI memp), .ref mQfirst], eA mQtext (cy 0) 100 mText] H := hP.sub [0, 1] rfl
    have hD : va_D A [eO mO 6 [.int (zI mth), .ref mQtext, .int (zI mmany), .int (zI mcur), .int (zI mcur), .int (zI mtok), .int (zI mval), .ref mQnow, .ref mQfresh, .ref mQwas, .int (zI macts), .ref mQisKept, .ref mQkept, .ref mQheard, .ref mQnumber, .ref mQlowUp, .ref mQlowDown, .ref mQhighUp, .ref mQhighDown, .int (zI mlev), .ref mQseen, .int (zI memp), .ref mQfirst], eA mQtext (cy 0) 100 mText] := hD.sub [0, 1] rfl rfl
    refine lv_istore_n (lv' := [(1, .int (zI r39)), (0, .ref mO)]) hx hb dX7_next_42 rfl hl (by decide) rfl (fun ls hl => ?_)
    refine lv_aload_n hx hb dX7_next_43 rfl (lv_at hl 1 rfl) ?_
    refine lv_dup hx hb dX7_next_44 rfl ?_
    refine va_get (D := D) (ci := 6) (v := .int (zI mcur)) (C := RX7) (T := TX7) (N := 23) hx hb hts u_X7_next_X7 hown hK.1 hP 0 rfl rfl 3 (by decide) (hts _ m_X7_next_1) (fun _ h9 => h9) rfl dX7_next_45 ?_
    refine lv_iload_n hx hb dX7_next_48 rfl (lv_at hl 0 rfl) ?_
    refine zz_if_ge (tgt := 56) hx hb dX7_next_49 (by decide) hf (fun hc hf => ?_) (fun hc hf => ?_)
    · refine lv_iconst (v := zI 0) hx hb dX7_next_52 rfl ?_
      refine lv_goto (tgt := 57) hx hb dX7_next_53 (by decide) ?_
      refine zz_iadd hx hb dX7_next_57 ?_
      refine va_put (D := D) (ci := 6) (v := .int (zI (mcur + 0))) (ty := .int) (C := RX7) (T := TX7) (N := 23) hx hb hts u_X7_next_X7 tyX7 tyX7_ok nmX7 hown hK.1 hP hD hS 0 rfl rfl 3 (by decide) (hts _ m_X7_next_1) (fun _ h9 => h9) rfl (tyX7_ok 3 (by decide)) rfl rfl (Nat.le_of_ble_eq_true rfl) dX7_next_58 (fun H locs hP hD hS => ?_)
      have hP : va_P D vwCl [eO mO 6 [.int (zI mth), .ref mQtext, .int (zI mmany), .int (zI (mcur + 0)), .int (zI mcur), .int (zI mtok), .int (zI mval), .ref mQnow, .ref mQfresh, .ref mQwas, .int (zI macts), .ref mQisKept, .ref mQkept, .ref mQheard, .ref mQnumber, .ref mQlowUp, .ref mQlowDown, .ref mQhighUp, .ref mQhighDown, .int (zI mlev), .ref mQseen, .int (zI memp), .ref mQfirst], eA mQtext (cy 0) 100 mText] H := hP
      have hD : va_D A [eO mO 6 [.int (zI mth), .ref mQtext, .int (zI mmany), .int (zI (mcur + 0)), .int (zI mcur), .int (zI mtok), .int (zI mval), .ref mQnow, .ref mQfresh, .ref mQwas, .int (zI macts), .ref mQisKept, .ref mQkept, .ref mQheard, .ref mQnumber, .ref mQlowUp, .ref mQlowDown, .ref mQhighUp, .ref mQhighDown, .int (zI mlev), .ref mQseen, .int (zI memp), .ref mQfirst], eA mQtext (cy 0) 100 mText] := hD
      refine lv_iload_n hx hb dX7_next_61 rfl (lv_at hl 0 rfl) ?_
      obtain ⟨hg, hf⟩ := zq_gd hf
      refine lv_i2l (v := zL r39) hx hb dX7_next_62 (zL_i hg) ?_
      refine lv_ldc2 (v := zL 48) hx hb hown (hts _ m_X7_next_3) dX7_next_63 ?_
      refine lv_ldc2 (v := zL 57) hx hb hown (hts _ m_X7_next_4) dX7_next_66 ?_
      obtain ⟨r69, hc69, hf⟩ := zq_bind hf
      refine zcallSi (wr := [eO mO 6 [.int (zI mth), .ref mQtext, .int (zI mmany), .int (zI (mcur + 0)), .int (zI mcur), .int (zI mtok), .int (zI mval), .ref mQnow, .ref mQfresh, .ref mQwas, .int (zI macts), .ref mQisKept, .ref mQkept, .ref mQheard, .ref mQnumber, .ref mQlowUp, .ref mQlowDown, .ref mQhighUp, .ref mQhighDown, .int (zI mlev), .ref mQseen, .int (zI memp), .ref mQfirst], eA mQtext (cy 0) 100 mText]) (rest := []) ⟨hx, hb, hml, hown, hts⟩ (c_X7_in l D cy H.size r39 48 57 hc69) (va_cwS 3 hts gX7_next_X7_in rfl rfl rfl (by decide +kernel) ⟨Nat.le_of_ble_eq_true rfl, Nat.le_of_ble_eq_true rfl⟩) hK hP hD hS hA [] [0, 1] rfl rfl rfl rfl (by decide) rfl hl.1 rfl (Nat.le_of_ble_eq_true rfl) dX7_next_69 ⟨Nat.zero_le _, Nat.zero_le _⟩ (fun H locs hP hD hS => ?_)
      have hP : va_P D vwCl [eO mO 6 [.int (zI mth), .ref mQtext, .int (zI mmany), .int (zI (mcur + 0)), .int (zI mcur), .int (zI mtok), .int (zI mval), .ref mQnow, .ref mQfresh, .ref mQwas, .int (zI macts), .ref mQisKept, .ref mQkept, .ref mQheard, .ref mQnumber, .ref mQlowUp, .ref mQlowDown, .ref mQhighUp, .ref mQhighDown, .int (zI mlev), .ref mQseen, .int (zI memp), .ref mQfirst], eA mQtext (cy 0) 100 mText] H := hP.sub [0, 1] rfl
      have hD : va_D A [eO mO 6 [.int (zI mth), .ref mQtext, .int (zI mmany), .int (zI (mcur + 0)), .int (zI mcur), .int (zI mtok), .int (zI mval), .ref mQnow, .ref mQfresh, .ref mQwas, .int (zI macts), .ref mQisKept, .ref mQkept, .ref mQheard, .ref mQnumber, .ref mQlowUp, .ref mQlowDown, .ref mQhighUp, .ref mQhighDown, .int (zI mlev), .ref mQseen, .int (zI memp), .ref mQfirst], eA mQtext (cy 0) 100 mText] := hD.sub [0, 1] rfl rfl
      refine zz_if_eq (tgt := 199) hx hb dX7_next_72 (by decide) hf (fun hc hf => ?_) (fun hc hf => ?_)
      · refine lv_aload_n hx hb dX7_next_199 rfl (lv_at hl 1 rfl) ?_
        refine lv_iload_n hx hb dX7_next_200 rfl (lv_at hl 0 rfl) ?_
        refine zz_if_ge (tgt := 208) hx hb dX7_next_201 (by decide) hf (fun hc hf => ?_) (fun hc hf => ?_)
        · refine lv_iconst (v := zI 0) hx hb dX7_next_204 rfl ?_
          refine lv_goto (tgt := 239) hx hb dX7_next_205 (by decide) ?_
          refine va_put (D := D) (ci := 6) (v := .int (zI 0)) (ty := .int) (C := RX7) (T := TX7) (N := 23) hx hb hts u_X7_next_X7 tyX7 tyX7_ok nmX7 hown hK.1 hP hD hS 0 rfl rfl 5 (by decide) (hts _ m_X7_next_5) (fun _ h9 => h9) rfl (tyX7_ok 5 (by decide)) rfl rfl (Nat.le_of_ble_eq_true rfl) dX7_next_239 (fun H locs hP hD hS => ?_)
          have hP : va_P D vwCl [eO mO 6 [.int (zI mth), .ref mQtext, .int (zI mmany), .int (zI (mcur + 0)), .int (zI mcur), .int (zI 0), .int (zI mval), .ref mQnow, .ref mQfresh, .ref mQwas, .int (zI macts), .ref mQisKept, .ref mQkept, .ref mQheard, .ref mQnumber, .ref mQlowUp, .ref mQlowDown, .ref mQhighUp, .ref mQhighDown, .int (zI mlev), .ref mQseen, .int (zI memp), .ref mQfirst], eA mQtext (cy 0) 100 mText] H := hP
          have hD : va_D A [eO mO 6 [.int (zI mth), .ref mQtext, .int (zI mmany), .int (zI (mcur + 0)), .int (zI mcur), .int (zI 0), .int (zI mval), .ref mQnow, .ref mQfresh, .ref mQwas, .int (zI macts), .ref mQisKept, .ref mQkept, .ref mQheard, .ref mQnumber, .ref mQlowUp, .ref mQlowDown, .ref mQhighUp, .ref mQhighDown, .int (zI mlev), .ref mQseen, .int (zI memp), .ref mQfirst], eA mQtext (cy 0) 100 mText] := hD
          have hf := zq_some hf
          cases hf
          exact W.vret hx hb hr (fun t ht hW => ⟨⟨(), rfl, trivial, by rw [ht]; exact hP, hD⟩, hS.F ht⟩) hS.2.2 dX7_next_242
        · refine lv_iload_n hx hb dX7_next_208 rfl (lv_at hl 0 rfl) ?_
          refine lv_bipush (v := zI 98) hx hb dX7_next_209 (by decide) ?_
          refine zz_icmp_ne (tgt := 218) hx hb dX7_next_211 (by decide) hf (fun hc hf => ?_) (fun hc hf => ?_)
          · refine lv_iconst (v := zI 1) hx hb dX7_next_214 rfl ?_
            refine lv_goto (tgt := 239) hx hb dX7_next_215 (by decide) ?_
            refine va_put (D := D) (ci := 6) (v := .int (zI 1)) (ty := .int) (C := RX7) (T := TX7) (N := 23) hx hb hts u_X7_next_X7 tyX7 tyX7_ok nmX7 hown hK.1 hP hD hS 0 rfl rfl 5 (by decide) (hts _ m_X7_next_5) (fun _ h9 => h9) rfl (tyX7_ok 5 (by decide)) rfl rfl (Nat.le_of_ble_eq_true rfl) dX7_next_239 (fun H locs hP hD hS => ?_)
            have hP : va_P D vwCl [eO mO 6 [.int (zI mth), .ref mQtext, .int (zI mmany), .int (zI (mcur + 0)), .int (zI mcur), .int (zI 1), .int (zI mval), .ref mQnow, .ref mQfresh, .ref mQwas, .int (zI macts), .ref mQisKept, .ref mQkept, .ref mQheard, .ref mQnumber, .ref mQlowUp, .ref mQlowDown, .ref mQhighUp, .ref mQhighDown, .int (zI mlev), .ref mQseen, .int (zI memp), .ref mQfirst], eA mQtext (cy 0) 100 mText] H := hP
            have hD : va_D A [eO mO 6 [.int (zI mth), .ref mQtext, .int (zI mmany), .int (zI (mcur + 0)), .int (zI mcur), .int (zI 1), .int (zI mval), .ref mQnow, .ref mQfresh, .ref mQwas, .int (zI macts), .ref mQisKept, .ref mQkept, .ref mQheard, .ref mQnumber, .ref mQlowUp, .ref mQlowDown, .ref mQhighUp, .ref mQhighDown, .int (zI mlev), .ref mQseen, .int (zI memp), .ref mQfirst], eA mQtext (cy 0) 100 mText] := hD
            have hf := zq_some hf
            cases hf
            exact W.vret hx hb hr (fun t ht hW => ⟨⟨(), rfl, trivial, by rw [ht]; exact hP, hD⟩, hS.F ht⟩) hS.2.2 dX7_next_242
          · refine lv_iload_n hx hb dX7_next_218 rfl (lv_at hl 0 rfl) ?_
            refine lv_bipush (v := zI 116) hx hb dX7_next_219 (by decide) ?_
            refine zz_icmp_ne (tgt := 228) hx hb dX7_next_221 (by decide) hf (fun hc hf => ?_) (fun hc hf => ?_)
            · refine lv_iconst (v := zI 2) hx hb dX7_next_224 rfl ?_
              refine lv_goto (tgt := 239) hx hb dX7_next_225 (by decide) ?_
              refine va_put (D := D) (ci := 6) (v := .int (zI 2)) (ty := .int) (C := RX7) (T := TX7) (N := 23) hx hb hts u_X7_next_X7 tyX7 tyX7_ok nmX7 hown hK.1 hP hD hS 0 rfl rfl 5 (by decide) (hts _ m_X7_next_5) (fun _ h9 => h9) rfl (tyX7_ok 5 (by decide)) rfl rfl (Nat.le_of_ble_eq_true rfl) dX7_next_239 (fun H locs hP hD hS => ?_)
              have hP : va_P D vwCl [eO mO 6 [.int (zI mth), .ref mQtext, .int (zI mmany), .int (zI (mcur + 0)), .int (zI mcur), .int (zI 2), .int (zI mval), .ref mQnow, .ref mQfresh, .ref mQwas, .int (zI macts), .ref mQisKept, .ref mQkept, .ref mQheard, .ref mQnumber, .ref mQlowUp, .ref mQlowDown, .ref mQhighUp, .ref mQhighDown, .int (zI mlev), .ref mQseen, .int (zI memp), .ref mQfirst], eA mQtext (cy 0) 100 mText] H := hP
              have hD : va_D A [eO mO 6 [.int (zI mth), .ref mQtext, .int (zI mmany), .int (zI (mcur + 0)), .int (zI mcur), .int (zI 2), .int (zI mval), .ref mQnow, .ref mQfresh, .ref mQwas, .int (zI macts), .ref mQisKept, .ref mQkept, .ref mQheard, .ref mQnumber, .ref mQlowUp, .ref mQlowDown, .ref mQhighUp, .ref mQhighDown, .int (zI mlev), .ref mQseen, .int (zI memp), .ref mQfirst], eA mQtext (cy 0) 100 mText] := hD
              have hf := zq_some hf
              cases hf
              exact W.vret hx hb hr (fun t ht hW => ⟨⟨(), rfl, trivial, by rw [ht]; exact hP, hD⟩, hS.F ht⟩) hS.2.2 dX7_next_242
            · refine lv_iload_n hx hb dX7_next_228 rfl (lv_at hl 0 rfl) ?_
              refine lv_bipush (v := zI 59) hx hb dX7_next_229 (by decide) ?_
              refine zz_icmp_ne (tgt := 238) hx hb dX7_next_231 (by decide) hf (fun hc hf => ?_) (fun hc hf => ?_)
              · refine lv_iconst (v := zI 4) hx hb dX7_next_234 rfl ?_
                refine lv_goto (tgt := 239) hx hb dX7_next_235 (by decide) ?_
                refine va_put (D := D) (ci := 6) (v := .int (zI 4)) (ty := .int) (C := RX7) (T := TX7) (N := 23) hx hb hts u_X7_next_X7 tyX7 tyX7_ok nmX7 hown hK.1 hP hD hS 0 rfl rfl 5 (by decide) (hts _ m_X7_next_5) (fun _ h9 => h9) rfl (tyX7_ok 5 (by decide)) rfl rfl (Nat.le_of_ble_eq_true rfl) dX7_next_239 (fun H locs hP hD hS => ?_)
                have hP : va_P D vwCl [eO mO 6 [.int (zI mth), .ref mQtext, .int (zI mmany), .int (zI (mcur + 0)), .int (zI mcur), .int (zI 4), .int (zI mval), .ref mQnow, .ref mQfresh, .ref mQwas, .int (zI macts), .ref mQisKept, .ref mQkept, .ref mQheard, .ref mQnumber, .ref mQlowUp, .ref mQlowDown, .ref mQhighUp, .ref mQhighDown, .int (zI mlev), .ref mQseen, .int (zI memp), .ref mQfirst], eA mQtext (cy 0) 100 mText] H := hP
                have hD : va_D A [eO mO 6 [.int (zI mth), .ref mQtext, .int (zI mmany), .int (zI (mcur + 0)), .int (zI mcur), .int (zI 4), .int (zI mval), .ref mQnow, .ref mQfresh, .ref mQwas, .int (zI macts), .ref mQisKept, .ref mQkept, .ref mQheard, .ref mQnumber, .ref mQlowUp, .ref mQlowDown, .ref mQhighUp, .ref mQhighDown, .int (zI mlev), .ref mQseen, .int (zI memp), .ref mQfirst], eA mQtext (cy 0) 100 mText] := hD
                have hf := zq_some hf
                cases hf
                exact W.vret hx hb hr (fun t ht hW => ⟨⟨(), rfl, trivial, by rw [ht]; exact hP, hD⟩, hS.F ht⟩) hS.2.2 dX7_next_242
              · refine lv_iconst (v := zI 5) hx hb dX7_next_238 rfl ?_
                refine va_put (D := D) (ci := 6) (v := .int (zI 5)) (ty := .int) (C := RX7) (T := TX7) (N := 23) hx hb hts u_X7_next_X7 tyX7 tyX7_ok nmX7 hown hK.1 hP hD hS 0 rfl rfl 5 (by decide) (hts _ m_X7_next_5) (fun _ h9 => h9) rfl (tyX7_ok 5 (by decide)) rfl rfl (Nat.le_of_ble_eq_true rfl) dX7_next_239 (fun H locs hP hD hS => ?_)
                have hP : va_P D vwCl [eO mO 6 [.int (zI mth), .ref mQtext, .int (zI mmany), .int (zI (mcur + 0)), .int (zI mcur), .int (zI 5), .int (zI mval), .ref mQnow, .ref mQfresh, .ref mQwas, .int (zI macts), .ref mQisKept, .ref mQkept, .ref mQheard, .ref mQnumber, .ref mQlowUp, .ref mQlowDown, .ref mQhighUp, .ref mQhighDown, .int (zI mlev), .ref mQseen, .int (zI memp), .ref mQfirst], eA mQtext (cy 0) 100 mText] H := hP
                have hD : va_D A [eO mO 6 [.int (zI mth), .ref mQtext, .int (zI mmany), .int (zI (mcur + 0)), .int (zI mcur), .int (zI 5), .int (zI mval), .ref mQnow, .ref mQfresh, .ref mQwas, .int (zI macts), .ref mQisKept, .ref mQkept, .ref mQheard, .ref mQnumber, .ref mQlowUp, .ref mQlowDown, .ref mQhighUp, .ref mQhighDown, .int (zI mlev), .ref mQseen, .int (zI memp), .ref mQfirst], eA mQtext (cy 0) 100 mText] := hD
                have hf := zq_some hf
                cases hf
                exact W.vret hx hb hr (fun t ht hW => ⟨⟨(), rfl, trivial, by rw [ht]; exact hP, hD⟩, hS.F ht⟩) hS.2.2 dX7_next_242
      · refine lv_aload_n hx hb dX7_next_75 rfl (lv_at hl 1 rfl) ?_
        refine lv_iconst (v := zI 3) hx hb dX7_next_76 rfl ?_
        refine va_put (D := D) (ci := 6) (v := .int (zI 3)) (ty := .int) (C := RX7) (T := TX7) (N := 23) hx hb hts u_X7_next_X7 tyX7 tyX7_ok nmX7 hown hK.1 hP hD hS 0 rfl rfl 5 (by decide) (hts _ m_X7_next_5) (fun _ h9 => h9) rfl (tyX7_ok 5 (by decide)) rfl rfl (Nat.le_of_ble_eq_true rfl) dX7_next_77 (fun H locs hP hD hS => ?_)
        have hP : va_P D vwCl [eO mO 6 [.int (zI mth), .ref mQtext, .int (zI mmany), .int (zI (mcur + 0)), .int (zI mcur), .int (zI 3), .int (zI mval), .ref mQnow, .ref mQfresh, .ref mQwas, .int (zI macts), .ref mQisKept, .ref mQkept, .ref mQheard, .ref mQnumber, .ref mQlowUp, .ref mQlowDown, .ref mQhighUp, .ref mQhighDown, .int (zI mlev), .ref mQseen, .int (zI memp), .ref mQfirst], eA mQtext (cy 0) 100 mText] H := hP
        have hD : va_D A [eO mO 6 [.int (zI mth), .ref mQtext, .int (zI mmany), .int (zI (mcur + 0)), .int (zI mcur), .int (zI 3), .int (zI mval), .ref mQnow, .ref mQfresh, .ref mQwas, .int (zI macts), .ref mQisKept, .ref mQkept, .ref mQheard, .ref mQnumber, .ref mQlowUp, .ref mQlowDown, .ref mQhighUp, .ref mQhighDown, .int (zI mlev), .ref mQseen, .int (zI memp), .ref mQfirst], eA mQtext (cy 0) 100 mText] := hD
        refine lv_aload_n hx hb dX7_next_80 rfl (lv_at hl 1 rfl) ?_
        refine lv_iload_n hx hb dX7_next_81 rfl (lv_at hl 0 rfl) ?_
        refine lv_bipush (v := zI 48) hx hb dX7_next_82 (by decide) ?_
        refine zz_isub hx hb dX7_next_84 ?_
        refine va_put (D := D) (ci := 6) (v := .int (zI (r39 - 48))) (ty := .int) (C := RX7) (T := TX7) (N := 23) hx hb hts u_X7_next_X7 tyX7 tyX7_ok nmX7 hown hK.1 hP hD hS 0 rfl rfl 6 (by decide) (hts _ m_X7_next_6) (fun _ h9 => h9) rfl (tyX7_ok 6 (by decide)) rfl rfl (Nat.le_of_ble_eq_true rfl) dX7_next_85 (fun H locs hP hD hS => ?_)
        have hP : va_P D vwCl [eO mO 6 [.int (zI mth), .ref mQtext, .int (zI mmany), .int (zI (mcur + 0)), .int (zI mcur), .int (zI 3), .int (zI (r39 - 48)), .ref mQnow, .ref mQfresh, .ref mQwas, .int (zI macts), .ref mQisKept, .ref mQkept, .ref mQheard, .ref mQnumber, .ref mQlowUp, .ref mQlowDown, .ref mQhighUp, .ref mQhighDown, .int (zI mlev), .ref mQseen, .int (zI memp), .ref mQfirst], eA mQtext (cy 0) 100 mText] H := hP
        have hD : va_D A [eO mO 6 [.int (zI mth), .ref mQtext, .int (zI mmany), .int (zI (mcur + 0)), .int (zI mcur), .int (zI 3), .int (zI (r39 - 48)), .ref mQnow, .ref mQfresh, .ref mQwas, .int (zI macts), .ref mQisKept, .ref mQkept, .ref mQheard, .ref mQnumber, .ref mQlowUp, .ref mQlowDown, .ref mQhighUp, .ref mQhighDown, .int (zI mlev), .ref mQseen, .int (zI memp), .ref mQfirst], eA mQtext (cy 0) 100 mText] := hD
        exact key _ (zq_eq hf) _ _ _ hP hD hS (lv_sub hl [1, 0] rfl)
    · refine lv_iconst (v := zI 1) hx hb dX7_next_56 rfl ?_
      refine zz_iadd hx hb dX7_next_57 ?_
      refine va_put (D := D) (ci := 6) (v := .int (zI (mcur + 1))) (ty := .int) (C := RX7) (T := TX7) (N := 23) hx hb hts u_X7_next_X7 tyX7 tyX7_ok nmX7 hown hK.1 hP hD hS 0 rfl rfl 3 (by decide) (hts _ m_X7_next_1) (fun _ h9 => h9) rfl (tyX7_ok 3 (by decide)) rfl rfl (Nat.le_of_ble_eq_true rfl) dX7_next_58 (fun H locs hP hD hS => ?_)
      have hP : va_P D vwCl [eO mO 6 [.int (zI mth), .ref mQtext, .int (zI mmany), .int (zI (mcur + 1)), .int (zI mcur), .int (zI mtok), .int (zI mval), .ref mQnow, .ref mQfresh, .ref mQwas, .int (zI macts), .ref mQisKept, .ref mQkept, .ref mQheard, .ref mQnumber, .ref mQlowUp, .ref mQlowDown, .ref mQhighUp, .ref mQhighDown, .int (zI mlev), .ref mQseen, .int (zI memp), .ref mQfirst], eA mQtext (cy 0) 100 mText] H := hP
      have hD : va_D A [eO mO 6 [.int (zI mth), .ref mQtext, .int (zI mmany), .int (zI (mcur + 1)), .int (zI mcur), .int (zI mtok), .int (zI mval), .ref mQnow, .ref mQfresh, .ref mQwas, .int (zI macts), .ref mQisKept, .ref mQkept, .ref mQheard, .ref mQnumber, .ref mQlowUp, .ref mQlowDown, .ref mQhighUp, .ref mQhighDown, .int (zI mlev), .ref mQseen, .int (zI memp), .ref mQfirst], eA mQtext (cy 0) 100 mText] := hD
      refine lv_iload_n hx hb dX7_next_61 rfl (lv_at hl 0 rfl) ?_
      obtain ⟨hg, hf⟩ := zq_gd hf
      refine lv_i2l (v := zL r39) hx hb dX7_next_62 (zL_i hg) ?_
      refine lv_ldc2 (v := zL 48) hx hb hown (hts _ m_X7_next_3) dX7_next_63 ?_
      refine lv_ldc2 (v := zL 57) hx hb hown (hts _ m_X7_next_4) dX7_next_66 ?_
      obtain ⟨r69, hc69, hf⟩ := zq_bind hf
      refine zcallSi (wr := [eO mO 6 [.int (zI mth), .ref mQtext, .int (zI mmany), .int (zI (mcur + 1)), .int (zI mcur), .int (zI mtok), .int (zI mval), .ref mQnow, .ref mQfresh, .ref mQwas, .int (zI macts), .ref mQisKept, .ref mQkept, .ref mQheard, .ref mQnumber, .ref mQlowUp, .ref mQlowDown, .ref mQhighUp, .ref mQhighDown, .int (zI mlev), .ref mQseen, .int (zI memp), .ref mQfirst], eA mQtext (cy 0) 100 mText]) (rest := []) ⟨hx, hb, hml, hown, hts⟩ (c_X7_in l D cy H.size r39 48 57 hc69) (va_cwS 3 hts gX7_next_X7_in rfl rfl rfl (by decide +kernel) ⟨Nat.le_of_ble_eq_true rfl, Nat.le_of_ble_eq_true rfl⟩) hK hP hD hS hA [] [0, 1] rfl rfl rfl rfl (by decide) rfl hl.1 rfl (Nat.le_of_ble_eq_true rfl) dX7_next_69 ⟨Nat.zero_le _, Nat.zero_le _⟩ (fun H locs hP hD hS => ?_)
      have hP : va_P D vwCl [eO mO 6 [.int (zI mth), .ref mQtext, .int (zI mmany), .int (zI (mcur + 1)), .int (zI mcur), .int (zI mtok), .int (zI mval), .ref mQnow, .ref mQfresh, .ref mQwas, .int (zI macts), .ref mQisKept, .ref mQkept, .ref mQheard, .ref mQnumber, .ref mQlowUp, .ref mQlowDown, .ref mQhighUp, .ref mQhighDown, .int (zI mlev), .ref mQseen, .int (zI memp), .ref mQfirst], eA mQtext (cy 0) 100 mText] H := hP.sub [0, 1] rfl
      have hD : va_D A [eO mO 6 [.int (zI mth), .ref mQtext, .int (zI mmany), .int (zI (mcur + 1)), .int (zI mcur), .int (zI mtok), .int (zI mval), .ref mQnow, .ref mQfresh, .ref mQwas, .int (zI macts), .ref mQisKept, .ref mQkept, .ref mQheard, .ref mQnumber, .ref mQlowUp, .ref mQlowDown, .ref mQhighUp, .ref mQhighDown, .int (zI mlev), .ref mQseen, .int (zI memp), .ref mQfirst], eA mQtext (cy 0) 100 mText] := hD.sub [0, 1] rfl rfl
      refine zz_if_eq (tgt := 199) hx hb dX7_next_72 (by decide) hf (fun hc hf => ?_) (fun hc hf => ?_)
      · refine lv_aload_n hx hb dX7_next_199 rfl (lv_at hl 1 rfl) ?_
        refine lv_iload_n hx hb dX7_next_200 rfl (lv_at hl 0 rfl) ?_
        refine zz_if_ge (tgt := 208) hx hb dX7_next_201 (by decide) hf (fun hc hf => ?_) (fun hc hf => ?_)
        · refine lv_iconst (v := zI 0) hx hb dX7_next_204 rfl ?_
          refine lv_goto (tgt := 239) hx hb dX7_next_205 (by decide) ?_
          refine va_put (D := D) (ci := 6) (v := .int (zI 0)) (ty := .int) (C := RX7) (T := TX7) (N := 23) hx hb hts u_X7_next_X7 tyX7 tyX7_ok nmX7 hown hK.1 hP hD hS 0 rfl rfl 5 (by decide) (hts _ m_X7_next_5) (fun _ h9 => h9) rfl (tyX7_ok 5 (by decide)) rfl rfl (Nat.le_of_ble_eq_true rfl) dX7_next_239 (fun H locs hP hD hS => ?_)
          have hP : va_P D vwCl [eO mO 6 [.int (zI mth), .ref mQtext, .int (zI mmany), .int (zI (mcur + 1)), .int (zI mcur), .int (zI 0), .int (zI mval), .ref mQnow, .ref mQfresh, .ref mQwas, .int (zI macts), .ref mQisKept, .ref mQkept, .ref mQheard, .ref mQnumber, .ref mQlowUp, .ref mQlowDown, .ref mQhighUp, .ref mQhighDown, .int (zI mlev), .ref mQseen, .int (zI memp), .ref mQfirst], eA mQtext (cy 0) 100 mText] H := hP
          have hD : va_D A [eO mO 6 [.int (zI mth), .ref mQtext, .int (zI mmany), .int (zI (mcur + 1)), .int (zI mcur), .int (zI 0), .int (zI mval), .ref mQnow, .ref mQfresh, .ref mQwas, .int (zI macts), .ref mQisKept, .ref mQkept, .ref mQheard, .ref mQnumber, .ref mQlowUp, .ref mQlowDown, .ref mQhighUp, .ref mQhighDown, .int (zI mlev), .ref mQseen, .int (zI memp), .ref mQfirst], eA mQtext (cy 0) 100 mText] := hD
          have hf := zq_some hf
          cases hf
          exact W.vret hx hb hr (fun t ht hW => ⟨⟨(), rfl, trivial, by rw [ht]; exact hP, hD⟩, hS.F ht⟩) hS.2.2 dX7_next_242
        · refine lv_iload_n hx hb dX7_next_208 rfl (lv_at hl 0 rfl) ?_
          refine lv_bipush (v := zI 98) hx hb dX7_next_209 (by decide) ?_
          refine zz_icmp_ne (tgt := 218) hx hb dX7_next_211 (by decide) hf (fun hc hf => ?_) (fun hc hf => ?_)
          · refine lv_iconst (v := zI 1) hx hb dX7_next_214 rfl ?_
            refine lv_goto (tgt := 239) hx hb dX7_next_215 (by decide) ?_
            refine va_put (D := D) (ci := 6) (v := .int (zI 1)) (ty := .int) (C := RX7) (T := TX7) (N := 23) hx hb hts u_X7_next_X7 tyX7 tyX7_ok nmX7 hown hK.1 hP hD hS 0 rfl rfl 5 (by decide) (hts _ m_X7_next_5) (fun _ h9 => h9) rfl (tyX7_ok 5 (by decide)) rfl rfl (Nat.le_of_ble_eq_true rfl) dX7_next_239 (fun H locs hP hD hS => ?_)
            have hP : va_P D vwCl [eO mO 6 [.int (zI mth), .ref mQtext, .int (zI mmany), .int (zI (mcur + 1)), .int (zI mcur), .int (zI 1), .int (zI mval), .ref mQnow, .ref mQfresh, .ref mQwas, .int (zI macts), .ref mQisKept, .ref mQkept, .ref mQheard, .ref mQnumber, .ref mQlowUp, .ref mQlowDown, .ref mQhighUp, .ref mQhighDown, .int (zI mlev), .ref mQseen, .int (zI memp), .ref mQfirst], eA mQtext (cy 0) 100 mText] H := hP
            have hD : va_D A [eO mO 6 [.int (zI mth), .ref mQtext, .int (zI mmany), .int (zI (mcur + 1)), .int (zI mcur), .int (zI 1), .int (zI mval), .ref mQnow, .ref mQfresh, .ref mQwas, .int (zI macts), .ref mQisKept, .ref mQkept, .ref mQheard, .ref mQnumber, .ref mQlowUp, .ref mQlowDown, .ref mQhighUp, .ref mQhighDown, .int (zI mlev), .ref mQseen, .int (zI memp), .ref mQfirst], eA mQtext (cy 0) 100 mText] := hD
            have hf := zq_some hf
            cases hf
            exact W.vret hx hb hr (fun t ht hW => ⟨⟨(), rfl, trivial, by rw [ht]; exact hP, hD⟩, hS.F ht⟩) hS.2.2 dX7_next_242
          · refine lv_iload_n hx hb dX7_next_218 rfl (lv_at hl 0 rfl) ?_
            refine lv_bipush (v := zI 116) hx hb dX7_next_219 (by decide) ?_
            refine zz_icmp_ne (tgt := 228) hx hb dX7_next_221 (by decide) hf (fun hc hf => ?_) (fun hc hf => ?_)
            · refine lv_iconst (v := zI 2) hx hb dX7_next_224 rfl ?_
              refine lv_goto (tgt := 239) hx hb dX7_next_225 (by decide) ?_
              refine va_put (D := D) (ci := 6) (v := .int (zI 2)) (ty := .int) (C := RX7) (T := TX7) (N := 23) hx hb hts u_X7_next_X7 tyX7 tyX7_ok nmX7 hown hK.1 hP hD hS 0 rfl rfl 5 (by decide) (hts _ m_X7_next_5) (fun _ h9 => h9) rfl (tyX7_ok 5 (by decide)) rfl rfl (Nat.le_of_ble_eq_true rfl) dX7_next_239 (fun H locs hP hD hS => ?_)
              have hP : va_P D vwCl [eO mO 6 [.int (zI mth), .ref mQtext, .int (zI mmany), .int (zI (mcur + 1)), .int (zI mcur), .int (zI 2), .int (zI mval), .ref mQnow, .ref mQfresh, .ref mQwas, .int (zI macts), .ref mQisKept, .ref mQkept, .ref mQheard, .ref mQnumber, .ref mQlowUp, .ref mQlowDown, .ref mQhighUp, .ref mQhighDown, .int (zI mlev), .ref mQseen, .int (zI memp), .ref mQfirst], eA mQtext (cy 0) 100 mText] H := hP
              have hD : va_D A [eO mO 6 [.int (zI mth), .ref mQtext, .int (zI mmany), .int (zI (mcur + 1)), .int (zI mcur), .int (zI 2), .int (zI mval), .ref mQnow, .ref mQfresh, .ref mQwas, .int (zI macts), .ref mQisKept, .ref mQkept, .ref mQheard, .ref mQnumber, .ref mQlowUp, .ref mQlowDown, .ref mQhighUp, .ref mQhighDown, .int (zI mlev), .ref mQseen, .int (zI memp), .ref mQfirst], eA mQtext (cy 0) 100 mText] := hD
              have hf := zq_some hf
              cases hf
              exact W.vret hx hb hr (fun t ht hW => ⟨⟨(), rfl, trivial, by rw [ht]; exact hP, hD⟩, hS.F ht⟩) hS.2.2 dX7_next_242
            · refine lv_iload_n hx hb dX7_next_228 rfl (lv_at hl 0 rfl) ?_
              refine lv_bipush (v := zI 59) hx hb dX7_next_229 (by decide) ?_
              refine zz_icmp_ne (tgt := 238) hx hb dX7_next_231 (by decide) hf (fun hc hf => ?_) (fun hc hf => ?_)
              · refine lv_iconst (v := zI 4) hx hb dX7_next_234 rfl ?_
                refine lv_goto (tgt := 239) hx hb dX7_next_235 (by decide) ?_
                refine va_put (D := D) (ci := 6) (v := .int (zI 4)) (ty := .int) (C := RX7) (T := TX7) (N := 23) hx hb hts u_X7_next_X7 tyX7 tyX7_ok nmX7 hown hK.1 hP hD hS 0 rfl rfl 5 (by decide) (hts _ m_X7_next_5) (fun _ h9 => h9) rfl (tyX7_ok 5 (by decide)) rfl rfl (Nat.le_of_ble_eq_true rfl) dX7_next_239 (fun H locs hP hD hS => ?_)
                have hP : va_P D vwCl [eO mO 6 [.int (zI mth), .ref mQtext, .int (zI mmany), .int (zI (mcur + 1)), .int (zI mcur), .int (zI 4), .int (zI mval), .ref mQnow, .ref mQfresh, .ref mQwas, .int (zI macts), .ref mQisKept, .ref mQkept, .ref mQheard, .ref mQnumber, .ref mQlowUp, .ref mQlowDown, .ref mQhighUp, .ref mQhighDown, .int (zI mlev), .ref mQseen, .int (zI memp), .ref mQfirst], eA mQtext (cy 0) 100 mText] H := hP
                have hD : va_D A [eO mO 6 [.int (zI mth), .ref mQtext, .int (zI mmany), .int (zI (mcur + 1)), .int (zI mcur), .int (zI 4), .int (zI mval), .ref mQnow, .ref mQfresh, .ref mQwas, .int (zI macts), .ref mQisKept, .ref mQkept, .ref mQheard, .ref mQnumber, .ref mQlowUp, .ref mQlowDown, .ref mQhighUp, .ref mQhighDown, .int (zI mlev), .ref mQseen, .int (zI memp), .ref mQfirst], eA mQtext (cy 0) 100 mText] := hD
                have hf := zq_some hf
                cases hf
                exact W.vret hx hb hr (fun t ht hW => ⟨⟨(), rfl, trivial, by rw [ht]; exact hP, hD⟩, hS.F ht⟩) hS.2.2 dX7_next_242
              · refine lv_iconst (v := zI 5) hx hb dX7_next_238 rfl ?_
                refine va_put (D := D) (ci := 6) (v := .int (zI 5)) (ty := .int) (C := RX7) (T := TX7) (N := 23) hx hb hts u_X7_next_X7 tyX7 tyX7_ok nmX7 hown hK.1 hP hD hS 0 rfl rfl 5 (by decide) (hts _ m_X7_next_5) (fun _ h9 => h9) rfl (tyX7_ok 5 (by decide)) rfl rfl (Nat.le_of_ble_eq_true rfl) dX7_next_239 (fun H locs hP hD hS => ?_)
                have hP : va_P D vwCl [eO mO 6 [.int (zI mth), .ref mQtext, .int (zI mmany), .int (zI (mcur + 1)), .int (zI mcur), .int (zI 5), .int (zI mval), .ref mQnow, .ref mQfresh, .ref mQwas, .int (zI macts), .ref mQisKept, .ref mQkept, .ref mQheard, .ref mQnumber, .ref mQlowUp, .ref mQlowDown, .ref mQhighUp, .ref mQhighDown, .int (zI mlev), .ref mQseen, .int (zI memp), .ref mQfirst], eA mQtext (cy 0) 100 mText] H := hP
                have hD : va_D A [eO mO 6 [.int (zI mth), .ref mQtext, .int (zI mmany), .int (zI (mcur + 1)), .int (zI mcur), .int (zI 5), .int (zI mval), .ref mQnow, .ref mQfresh, .ref mQwas, .int (zI macts), .ref mQisKept, .ref mQkept, .ref mQheard, .ref mQnumber, .ref mQlowUp, .ref mQlowDown, .ref mQhighUp, .ref mQhighDown, .int (zI mlev), .ref mQseen, .int (zI memp), .ref mQfirst], eA mQtext (cy 0) 100 mText] := hD
                have hf := zq_some hf
                cases hf
                exact W.vret hx hb hr (fun t ht hW => ⟨⟨(), rfl, trivial, by rw [ht]; exact hP, hD⟩, hS.F ht⟩) hS.2.2 dX7_next_242
      · refine lv_aload_n hx hb dX7_next_75 rfl (lv_at hl 1 rfl) ?_
        refine lv_iconst (v := zI 3) hx hb dX7_next_76 rfl ?_
        refine va_put (D := D) (ci := 6) (v := .int (zI 3)) (ty := .int) (C := RX7) (T := TX7) (N := 23) hx hb hts u_X7_next_X7 tyX7 tyX7_ok nmX7 hown hK.1 hP hD hS 0 rfl rfl 5 (by decide) (hts _ m_X7_next_5) (fun _ h9 => h9) rfl (tyX7_ok 5 (by decide)) rfl rfl (Nat.le_of_ble_eq_true rfl) dX7_next_77 (fun H locs hP hD hS => ?_)
        have hP : va_P D vwCl [eO mO 6 [.int (zI mth), .ref mQtext, .int (zI mmany), .int (zI (mcur + 1)), .int (zI mcur), .int (zI 3), .int (zI mval), .ref mQnow, .ref mQfresh, .ref mQwas, .int (zI macts), .ref mQisKept, .ref mQkept, .ref mQheard, .ref mQnumber, .ref mQlowUp, .ref mQlowDown, .ref mQhighUp, .ref mQhighDown, .int (zI mlev), .ref mQseen, .int (zI memp), .ref mQfirst], eA mQtext (cy 0) 100 mText] H := hP
        have hD : va_D A [eO mO 6 [.int (zI mth), .ref mQtext, .int (zI mmany), .int (zI (mcur + 1)), .int (zI mcur), .int (zI 3), .int (zI mval), .ref mQnow, .ref mQfresh, .ref mQwas, .int (zI macts), .ref mQisKept, .ref mQkept, .ref mQheard, .ref mQnumber, .ref mQlowUp, .ref mQlowDown, .ref mQhighUp, .ref mQhighDown, .int (zI mlev), .ref mQseen, .int (zI memp), .ref mQfirst], eA mQtext (cy 0) 100 mText] := hD
        refine lv_aload_n hx hb dX7_next_80 rfl (lv_at hl 1 rfl) ?_
        refine lv_iload_n hx hb dX7_next_81 rfl (lv_at hl 0 rfl) ?_
        refine lv_bipush (v := zI 48) hx hb dX7_next_82 (by decide) ?_
        refine zz_isub hx hb dX7_next_84 ?_
        refine va_put (D := D) (ci := 6) (v := .int (zI (r39 - 48))) (ty := .int) (C := RX7) (T := TX7) (N := 23) hx hb hts u_X7_next_X7 tyX7 tyX7_ok nmX7 hown hK.1 hP hD hS 0 rfl rfl 6 (by decide) (hts _ m_X7_next_6) (fun _ h9 => h9) rfl (tyX7_ok 6 (by decide)) rfl rfl (Nat.le_of_ble_eq_true rfl) dX7_next_85 (fun H locs hP hD hS => ?_)
        have hP : va_P D vwCl [eO mO 6 [.int (zI mth), .ref mQtext, .int (zI mmany), .int (zI (mcur + 1)), .int (zI mcur), .int (zI 3), .int (zI (r39 - 48)), .ref mQnow, .ref mQfresh, .ref mQwas, .int (zI macts), .ref mQisKept, .ref mQkept, .ref mQheard, .ref mQnumber, .ref mQlowUp, .ref mQlowDown, .ref mQhighUp, .ref mQhighDown, .int (zI mlev), .ref mQseen, .int (zI memp), .ref mQfirst], eA mQtext (cy 0) 100 mText] H := hP
        have hD : va_D A [eO mO 6 [.int (zI mth), .ref mQtext, .int (zI mmany), .int (zI (mcur + 1)), .int (zI mcur), .int (zI 3), .int (zI (r39 - 48)), .ref mQnow, .ref mQfresh, .ref mQwas, .int (zI macts), .ref mQisKept, .ref mQkept, .ref mQheard, .ref mQnumber, .ref mQlowUp, .ref mQlowDown, .ref mQhighUp, .ref mQhighDown, .int (zI mlev), .ref mQseen, .int (zI memp), .ref mQfirst], eA mQtext (cy 0) 100 mText] := hD
        exact key _ (zq_eq hf) _ _ _ hP hD hS (lv_sub hl [1, 0] rfl)

noncomputable def f_X7_isNumber (p1 : Int) (p2 : Int) (mtok : Int) (mval : Int) : Option (Int) :=
  gd (zR mtok ∧ zR 3) <|
  if mtok = 3 then
    gd (zR mval) <|
    gd (zR p1) <|
    gd (zR p2) <|
    (f_X7_in mval p1 p2).bind fun r17 =>
    gd (zR r17) <|
    if r17 = 0 then
      some 0
    else
      some 1
  else
    some 0
theorem m_X7_isNumber_1 : (.fieldLink RX7 34 "PulseTurnsModel" "token" "I" : Cond) ∈ wsX7_isNumber := List.mem_of_getElem? (i := 1) rfl
theorem m_X7_isNumber_2 : (.fieldLink RX7 37 "PulseTurnsModel" "value" "I" : Cond) ∈ wsX7_isNumber := List.mem_of_getElem? (i := 2) rfl
theorem u_X7_isNumber_X7 : ∀ w ∈ wsX70, w ∈ wsX7_isNumber := fun w h => List.mem_cons_of_mem _ (List.mem_append_right _ h)
set_option maxRecDepth 100000 in
set_option maxHeartbeats 4000000 in
theorem c_X7_isNumber (l : Launch) (D : va_G) (cy : Nat → ClassId) (mO mQtext mQnow mQfresh mQwas mQisKept mQkept mQheard mQnumber mQlowUp mQlowDown mQhighUp mQhighDown mQseen mQfirst : Nat) (sz : Nat) (p1 : Int) (p2 : Int) (mth : Int) (mmany : Int) (mcur : Int) (mst : Int) (mtok : Int) (mval : Int) (macts : Int) (mlev : Int) (memp : Int) {r : Int} (hf : f_X7_isNumber p1 p2 mtok mval = some r) : zMi l yX7_isNumber wsX7_isNumber ({ frames := 1, cells := 0, slots := 0, locals := 25 }) D cy sz [.ref mO, .int (zI p1), .int (zI p2)] [eO mO 6 [.int (zI mth), .ref mQtext, .int (zI mmany), .int (zI mcur), .int (zI mst), .int (zI mtok), .int (zI mval), .ref mQnow, .ref mQfresh, .ref mQwas, .int (zI macts), .ref mQisKept, .ref mQkept, .ref mQheard, .ref mQnumber, .ref mQlowUp, .ref mQlowDown, .ref mQhighUp, .ref mQhighDown, .int (zI mlev), .ref mQseen, .int (zI memp), .ref mQfirst]] [eO mO 6 [.int (zI mth), .ref mQtext, .int (zI mmany), .int (zI mcur), .int (zI mst), .int (zI mtok), .int (zI mval), .ref mQnow, .ref mQfresh, .ref mQwas, .int (zI macts), .ref mQisKept, .ref mQkept, .ref mQheard, .ref mQnumber, .ref mQlowUp, .ref mQlowDown, .ref mQhighUp, .ref mQhighDown, .int (zI mlev), .ref mQseen, .int (zI memp), .ref mQfirst]] (zI r) := by
  refine Met.ofW (cc := cX7_isNumber) (maxL := 3) (ret := (some .boolean)) (by decide) rfl ?_
  intro p e s m args below meth c s₁ B hml hv
  obtain ⟨rfl, hsz, hP, hK, hD0⟩ := hv
  have hx := B.exec
  have hb := B.bytes
  have hr := B.returns
  have hts := atoms_spec (ws := wsX7_isNumber) B.pre
  have hown : s.vm.findClass RX7 = some m.cls := findClass_of_methodNamed B.named
  have hlocks := B.notSynchronized
  subst hsz
  have hD := hD0.self (sz := s.heap.size)
  generalize hAe : va_A [eO mO 6 [.int (zI mth), .ref mQtext, .int (zI mmany), .int (zI mcur), .int (zI mst), .int (zI mtok), .int (zI mval), .ref mQnow, .ref mQfresh, .ref mQwas, .int (zI macts), .ref mQisKept, .ref mQkept, .ref mQheard, .ref mQnumber, .ref mQlowUp, .ref mQlowDown, .ref mQhighUp, .ref mQhighDown, .int (zI mlev), .ref mQseen, .int (zI memp), .ref mQfirst]] s.heap.size = A at hD ⊢
  have hA : ∀ q : Nat, s.heap.size ≤ q → A q := fun q h => by rw [← hAe]; exact Or.inr h
  have hS : va_S A s.heap s.heap [] := va_S.rf
  have hl := lv_entry ([.ref mO, .int (zI p1), .int (zI p2)]) (n := 3) (Nat.le_of_ble_eq_true rfl)
  rw [lg_entry_eq]
  generalize (lg_sl ([.ref mO, .int (zI p1), .int (zI p2)]) ++ List.replicate (3 - (lg_sl ([.ref mO, .int (zI p1), .int (zI p2)])).length) Slot.unset).toArray = ls at hl ⊢
  have hl : lv_has ls 3 [(0, .ref mO), (1, .int (zI p1)), (2, .int (zI p2))] := hl
  have hf := zq_of hf
  unfold f_X7_isNumber at hf
  refine lv_aload_n hx hb dX7_isNumber_0 rfl (lv_at hl 0 rfl) ?_
  refine va_get (D := D) (ci := 6) (v := .int (zI mtok)) (C := RX7) (T := TX7) (N := 23) hx hb hts u_X7_isNumber_X7 hown hK.1 hP 0 rfl rfl 5 (by decide) (hts _ m_X7_isNumber_1) (fun _ h9 => h9) rfl dX7_isNumber_1 ?_
  refine lv_iconst (v := zI 3) hx hb dX7_isNumber_4 rfl ?_
  refine zz_icmp_ne (tgt := 27) hx hb dX7_isNumber_5 (by decide) hf (fun hc hf => ?_) (fun hc hf => ?_)
  · refine lv_aload_n hx hb dX7_isNumber_8 rfl (lv_at hl 0 rfl) ?_
    refine va_get (D := D) (ci := 6) (v := .int (zI mval)) (C := RX7) (T := TX7) (N := 23) hx hb hts u_X7_isNumber_X7 hown hK.1 hP 0 rfl rfl 6 (by decide) (hts _ m_X7_isNumber_2) (fun _ h9 => h9) rfl dX7_isNumber_9 ?_
    obtain ⟨hg, hf⟩ := zq_gd hf
    refine lv_i2l (v := zL mval) hx hb dX7_isNumber_12 (zL_i hg) ?_
    refine lv_iload_n hx hb dX7_isNumber_13 rfl (lv_at hl 1 rfl) ?_
    obtain ⟨hg, hf⟩ := zq_gd hf
    refine lv_i2l (v := zL p1) hx hb dX7_isNumber_14 (zL_i hg) ?_
    refine lv_iload_n hx hb dX7_isNumber_15 rfl (lv_at hl 2 rfl) ?_
    obtain ⟨hg, hf⟩ := zq_gd hf
    refine lv_i2l (v := zL p2) hx hb dX7_isNumber_16 (zL_i hg) ?_
    obtain ⟨r17, hc17, hf⟩ := zq_bind hf
    refine zcallSi (wr := [eO mO 6 [.int (zI mth), .ref mQtext, .int (zI mmany), .int (zI mcur), .int (zI mst), .int (zI mtok), .int (zI mval), .ref mQnow, .ref mQfresh, .ref mQwas, .int (zI macts), .ref mQisKept, .ref mQkept, .ref mQheard, .ref mQnumber, .ref mQlowUp, .ref mQlowDown, .ref mQhighUp, .ref mQhighDown, .int (zI mlev), .ref mQseen, .int (zI memp), .ref mQfirst]]) (rest := []) ⟨hx, hb, hml, hown, hts⟩ (c_X7_in l D cy s.heap.size mval p1 p2 hc17) (va_cwS 3 hts gX7_isNumber_X7_in rfl rfl rfl (by decide +kernel) ⟨Nat.le_of_ble_eq_true rfl, Nat.le_of_ble_eq_true rfl⟩) hK hP hD hS hA [] [0] rfl rfl rfl rfl (by decide) rfl hl.1 rfl (Nat.le_of_ble_eq_true rfl) dX7_isNumber_17 ⟨Nat.zero_le _, Nat.zero_le _⟩ (fun H locs hP hD hS => ?_)
    have hP : va_P D vwCl [eO mO 6 [.int (zI mth), .ref mQtext, .int (zI mmany), .int (zI mcur), .int (zI mst), .int (zI mtok), .int (zI mval), .ref mQnow, .ref mQfresh, .ref mQwas, .int (zI macts), .ref mQisKept, .ref mQkept, .ref mQheard, .ref mQnumber, .ref mQlowUp, .ref mQlowDown, .ref mQhighUp, .ref mQhighDown, .int (zI mlev), .ref mQseen, .int (zI memp), .ref mQfirst]] H := hP.sub [0] rfl
    have hD : va_D A [eO mO 6 [.int (zI mth), .ref mQtext, .int (zI mmany), .int (zI mcur), .int (zI mst), .int (zI mtok), .int (zI mval), .ref mQnow, .ref mQfresh, .ref mQwas, .int (zI macts), .ref mQisKept, .ref mQkept, .ref mQheard, .ref mQnumber, .ref mQlowUp, .ref mQlowDown, .ref mQhighUp, .ref mQhighDown, .int (zI mlev), .ref mQseen, .int (zI memp), .ref mQfirst]] := hD.sub [0] rfl rfl
    refine zz_if_eq (tgt := 27) hx hb dX7_isNumber_20 (by decide) hf (fun hc hf => ?_) (fun hc hf => ?_)
    · refine lv_iconst (v := zI 0) hx hb dX7_isNumber_27 rfl ?_
      have hf := zq_some hf
      cases hf
      exact W.zret hx hb hr rfl (fun t ht hW => ⟨⟨_, (), rfl, rfl, by rw [ht]; exact hP, hD⟩, hS.F ht⟩) hS.2.2 dX7_isNumber_28
    · refine lv_iconst (v := zI 1) hx hb dX7_isNumber_23 rfl ?_
      refine lv_goto (tgt := 28) hx hb dX7_isNumber_24 (by decide) ?_
      have hf := zq_some hf
      cases hf
      exact W.zret hx hb hr rfl (fun t ht hW => ⟨⟨_, (), rfl, rfl, by rw [ht]; exact hP, hD⟩, hS.F ht⟩) hS.2.2 dX7_isNumber_28
  · refine lv_iconst (v := zI 0) hx hb dX7_isNumber_27 rfl ?_
    have hf := zq_some hf
    cases hf
    exact W.zret hx hb hr rfl (fun t ht hW => ⟨⟨_, (), rfl, rfl, by rw [ht]; exact hP, hD⟩, hS.F ht⟩) hS.2.2 dX7_isNumber_28

noncomputable def f_X7_readBox (mmany : Int) (mcur : Int) (mst : Int) (mtok : Int) (mval : Int) (mText : Nat → Int) (mFresh : Nat → Int) : Option (Int × Int × Int × Int × Int × (Nat → Int)) :=
  (f_X7_next mmany mcur mst mtok mval mText).bind fun (mcur_1, mst_1, mtok_1, mval_1) =>
  (f_X7_isNumber 10 999 mtok_1 mval_1).bind fun r10 =>
  gd (zR r10) <|
  if r10 = 0 then
    some (0, mcur_1, mst_1, mtok_1, mval_1, mFresh)
  else
    (f_X7_next mmany mcur_1 mst_1 mtok_1 mval_1 mText).bind fun (mcur_29, mst_29, mtok_29, mval_29) =>
    (f_X7_isNumber ((zup mFresh 1 mval_1) 1) 999 mtok_29 mval_29).bind fun r42 =>
    gd (zR r42) <|
    if r42 = 0 then
      some (0, mcur_29, mst_29, mtok_29, mval_29, (zup mFresh 1 mval_1))
    else
      (f_X7_next mmany mcur_29 mst_29 mtok_29 mval_29 mText).bind fun (mcur_61, mst_61, mtok_61, mval_61) =>
      (f_X7_isNumber 0 99 mtok_61 mval_61).bind fun r78 =>
      gd (zR r78) <|
      if r78 = 0 then
        some (0, mcur_61, mst_61, mtok_61, mval_61, (zup (zup (zup mFresh 1 mval_1) 2 mval_29) 3 mval_61))
      else
        gd (zR (4 * mval_61) ∧ zR ((zup (zup (zup mFresh 1 mval_1) 2 mval_29) 3 mval_61) 1)) <|
        if (4 * mval_61) < ((zup (zup (zup mFresh 1 mval_1) 2 mval_29) 3 mval_61) 1) then
          some (1, mcur_61, mst_61, mtok_61, mval_61, (zup (zup (zup mFresh 1 mval_1) 2 mval_29) 3 mval_61))
        else
          some (0, mcur_61, mst_61, mtok_61, mval_61, (zup (zup (zup mFresh 1 mval_1) 2 mval_29) 3 mval_61))
theorem m_X7_readBox_1 : (.fieldLink RX7 49 "PulseTurnsModel" "fresh" "[I" : Cond) ∈ wsX7_readBox := List.mem_of_getElem? (i := 1) rfl
theorem m_X7_readBox_2 : (.fieldLink RX7 37 "PulseTurnsModel" "value" "I" : Cond) ∈ wsX7_readBox := List.mem_of_getElem? (i := 2) rfl
theorem u_X7_readBox_X7 : ∀ w ∈ wsX70, w ∈ wsX7_readBox := fun w h => List.mem_cons_of_mem _ (List.mem_append_right _ h)
set_option maxRecDepth 100000 in
set_option maxHeartbeats 4000000 in
theorem c_X7_readBox (l : Launch) (D : va_G) (cy : Nat → ClassId) (mO mQtext mQnow mQfresh mQwas mQisKept mQkept mQheard mQnumber mQlowUp mQlowDown mQhighUp mQhighDown mQseen mQfirst : Nat) (sz : Nat) (mth : Int) (mmany : Int) (mcur : Int) (mst : Int) (mtok : Int) (mval : Int) (macts : Int) (mlev : Int) (memp : Int) (mText : Nat → Int) (mFresh : Nat → Int) {r : Int} {mcur' : Int} {mst' : Int} {mtok' : Int} {mval' : Int} {mFresh' : Nat → Int} (hf : f_X7_readBox mmany mcur mst mtok mval mText mFresh = some (r, mcur', mst', mtok', mval', mFresh')) : zMi l yX7_readBox wsX7_readBox ({ frames := 2, cells := 0, slots := 0, locals := 47 }) D cy sz [.ref mO] [eO mO 6 [.int (zI mth), .ref mQtext, .int (zI mmany), .int (zI mcur), .int (zI mst), .int (zI mtok), .int (zI mval), .ref mQnow, .ref mQfresh, .ref mQwas, .int (zI macts), .ref mQisKept, .ref mQkept, .ref mQheard, .ref mQnumber, .ref mQlowUp, .ref mQlowDown, .ref mQhighUp, .ref mQhighDown, .int (zI mlev), .ref mQseen, .int (zI memp), .ref mQfirst], eA mQtext (cy 0) 100 mText, eA mQfresh (cy 0) 11 mFresh] [eO mO 6 [.int (zI mth), .ref mQtext, .int (zI mmany), .int (zI mcur'), .int (zI mst'), .int (zI mtok'), .int (zI mval'), .ref mQnow, .ref mQfresh, .ref mQwas, .int (zI macts), .ref mQisKept, .ref mQkept, .ref mQheard, .ref mQnumber, .ref mQlowUp, .ref mQlowDown, .ref mQhighUp, .ref mQhighDown, .int (zI mlev), .ref mQseen, .int (zI memp), .ref mQfirst], eA mQtext (cy 0) 100 mText, eA mQfresh (cy 0) 11 mFresh'] (zI r) := by
  refine Met.ofW (cc := cX7_readBox) (maxL := 1) (ret := (some .boolean)) (by decide) rfl ?_
  intro p e s m args below meth c s₁ B hml hv
  obtain ⟨rfl, hsz, hP, hK, hD0⟩ := hv
  have hx := B.exec
  have hb := B.bytes
  have hr := B.returns
  have hts := atoms_spec (ws := wsX7_readBox) B.pre
  have hown : s.vm.findClass RX7 = some m.cls := findClass_of_methodNamed B.named
  have hlocks := B.notSynchronized
  subst hsz
  have hD := hD0.self (sz := s.heap.size)
  generalize hAe : va_A [eO mO 6 [.int (zI mth), .ref mQtext, .int (zI mmany), .int (zI mcur), .int (zI mst), .int (zI mtok), .int (zI mval), .ref mQnow, .ref mQfresh, .ref mQwas, .int (zI macts), .ref mQisKept, .ref mQkept, .ref mQheard, .ref mQnumber, .ref mQlowUp, .ref mQlowDown, .ref mQhighUp, .ref mQhighDown, .int (zI mlev), .ref mQseen, .int (zI memp), .ref mQfirst], eA mQtext (cy 0) 100 mText, eA mQfresh (cy 0) 11 mFresh] s.heap.size = A at hD ⊢
  have hA : ∀ q : Nat, s.heap.size ≤ q → A q := fun q h => by rw [← hAe]; exact Or.inr h
  have hS : va_S A s.heap s.heap [] := va_S.rf
  have hl := lv_entry ([.ref mO]) (n := 1) (Nat.le_of_ble_eq_true rfl)
  rw [lg_entry_eq]
  generalize (lg_sl ([.ref mO]) ++ List.replicate (1 - (lg_sl ([.ref mO])).length) Slot.unset).toArray = ls at hl ⊢
  have hl : lv_has ls 1 [(0, .ref mO)] := hl
  have hf := zq_of hf
  unfold f_X7_readBox at hf
  refine lv_aload_n hx hb dX7_readBox_0 rfl (lv_at hl 0 rfl) ?_
  obtain ⟨⟨mcur_1, mst_1, mtok_1, mval_1⟩, hc1, hf⟩ := zq_bind hf
  refine zcallVv (wr := [eA mQfresh (cy 0) 11 mFresh]) (rest := []) ⟨hx, hb, hml, hown, hts⟩ (c_X7_next l D cy mO mQtext mQnow mQfresh mQwas mQisKept mQkept mQheard mQnumber mQlowUp mQlowDown mQhighUp mQhighDown mQseen mQfirst s.heap.size mth mmany mcur mst mtok mval macts mlev memp mText hc1) (cwV 0 hts gX7_readBox_X7_next rfl rfl rfl (by decide +kernel) ⟨Nat.le_of_ble_eq_true rfl, Nat.le_of_ble_eq_true rfl⟩) hK hP hD hS hA [0, 1] [2] rfl rfl rfl rfl (by decide) (va_recv hK.1 hP (ci := 6) (q0 := 0) rfl rfl) rfl hl.1 rfl (Nat.le_of_ble_eq_true rfl) dX7_readBox_1 ⟨Nat.zero_le _, Nat.zero_le _⟩ (fun H locs hP hD hS => ?_)
  have hP : va_P D vwCl [eO mO 6 [.int (zI mth), .ref mQtext, .int (zI mmany), .int (zI mcur_1), .int (zI mst_1), .int (zI mtok_1), .int (zI mval_1), .ref mQnow, .ref mQfresh, .ref mQwas, .int (zI macts), .ref mQisKept, .ref mQkept, .ref mQheard, .ref mQnumber, .ref mQlowUp, .ref mQlowDown, .ref mQhighUp, .ref mQhighDown, .int (zI mlev), .ref mQseen, .int (zI memp), .ref mQfirst], eA mQtext (cy 0) 100 mText, eA mQfresh (cy 0) 11 mFresh] H := hP.sub [1, 2, 0] rfl
  have hD : va_D A [eO mO 6 [.int (zI mth), .ref mQtext, .int (zI mmany), .int (zI mcur_1), .int (zI mst_1), .int (zI mtok_1), .int (zI mval_1), .ref mQnow, .ref mQfresh, .ref mQwas, .int (zI macts), .ref mQisKept, .ref mQkept, .ref mQheard, .ref mQnumber, .ref mQlowUp, .ref mQlowDown, .ref mQhighUp, .ref mQhighDown, .int (zI mlev), .ref mQseen, .int (zI memp), .ref mQfirst], eA mQtext (cy 0) 100 mText, eA mQfresh (cy 0) 11 mFresh] := hD.sub [1, 2, 0] rfl rfl
  refine lv_aload_n hx hb dX7_readBox_4 rfl (lv_at hl 0 rfl) ?_
  refine lv_bipush (v := zI 10) hx hb dX7_readBox_5 (by decide) ?_
  refine lv_sipush (v := zI 999) hx hb dX7_readBox_7 (by decide) ?_
  obtain ⟨r10, hc10, hf⟩ := zq_bind hf
  refine zcallVi (wr := [eA mQtext (cy 0) 100 mText, eA mQfresh (cy 0) 11 mFresh]) (rest := []) ⟨hx, hb, hml, hown, hts⟩ (c_X7_isNumber l D cy mO mQtext mQnow mQfresh mQwas mQisKept mQkept mQheard mQnumber mQlowUp mQlowDown mQhighUp mQhighDown mQseen mQfirst H.size 10 999 mth mmany mcur_1 mst_1 mtok_1 mval_1 macts mlev memp hc10) (cwV 2 hts gX7_readBox_X7_isNumber rfl rfl rfl (by decide +kernel) ⟨Nat.le_of_ble_eq_true rfl, Nat.le_of_ble_eq_true rfl⟩) hK hP hD hS hA [0] [1, 2] rfl rfl rfl rfl (by decide) (va_recv hK.1 hP (ci := 6) (q0 := 0) rfl rfl) rfl hl.1 rfl (Nat.le_of_ble_eq_true rfl) dX7_readBox_10 ⟨Nat.zero_le _, Nat.zero_le _⟩ (fun H locs hP hD hS => ?_)
  have hP : va_P D vwCl [eO mO 6 [.int (zI mth), .ref mQtext, .int (zI mmany), .int (zI mcur_1), .int (zI mst_1), .int (zI mtok_1), .int (zI mval_1), .ref mQnow, .ref mQfresh, .ref mQwas, .int (zI macts), .ref mQisKept, .ref mQkept, .ref mQheard, .ref mQnumber, .ref mQlowUp, .ref mQlowDown, .ref mQhighUp, .ref mQhighDown, .int (zI mlev), .ref mQseen, .int (zI memp), .ref mQfirst], eA mQtext (cy 0) 100 mText, eA mQfresh (cy 0) 11 mFresh] H := hP.sub [2, 0, 1] rfl
  have hD : va_D A [eO mO 6 [.int (zI mth), .ref mQtext, .int (zI mmany), .int (zI mcur_1), .int (zI mst_1), .int (zI mtok_1), .int (zI mval_1), .ref mQnow, .ref mQfresh, .ref mQwas, .int (zI macts), .ref mQisKept, .ref mQkept, .ref mQheard, .ref mQnumber, .ref mQlowUp, .ref mQlowDown, .ref mQhighUp, .ref mQhighDown, .int (zI mlev), .ref mQseen, .int (zI memp), .ref mQfirst], eA mQtext (cy 0) 100 mText, eA mQfresh (cy 0) 11 mFresh] := hD.sub [2, 0, 1] rfl rfl
  refine zz_if_ne (tgt := 18) hx hb dX7_readBox_13 (by decide) hf (fun hc hf => ?_) (fun hc hf => ?_)
  · refine lv_iconst (v := zI 0) hx hb dX7_readBox_16 rfl ?_
    have hf := zq_some hf
    cases hf
    exact W.zret hx hb hr rfl (fun t ht hW => ⟨⟨_, (), rfl, rfl, by rw [ht]; exact hP, hD⟩, hS.F ht⟩) hS.2.2 dX7_readBox_17
  · refine lv_aload_n hx hb dX7_readBox_18 rfl (lv_at hl 0 rfl) ?_
    refine va_get (D := D) (ci := 6) (v := .ref mQfresh) (C := RX7) (T := TX7) (N := 23) hx hb hts u_X7_readBox_X7 hown hK.1 hP 0 rfl rfl 8 (by decide) (hts _ m_X7_readBox_1) (fun _ h9 => h9) rfl dX7_readBox_19 ?_
    refine lv_iconst (v := zI 1) hx hb dX7_readBox_22 rfl ?_
    refine lv_aload_n hx hb dX7_readBox_23 rfl (lv_at hl 0 rfl) ?_
    refine va_get (D := D) (ci := 6) (v := .int (zI mval_1)) (C := RX7) (T := TX7) (N := 23) hx hb hts u_X7_readBox_X7 hown hK.1 hP 0 rfl rfl 6 (by decide) (hts _ m_X7_readBox_2) (fun _ h9 => h9) rfl dX7_readBox_24 ?_
    refine zz_iast (i := 1) hx hb hK hP hD hS 2 rfl (Nat.le_of_ble_eq_true rfl) (by decide) dX7_readBox_27 (fun H locs hP hD hS => ?_)
    have hP : va_P D vwCl [eO mO 6 [.int (zI mth), .ref mQtext, .int (zI mmany), .int (zI mcur_1), .int (zI mst_1), .int (zI mtok_1), .int (zI mval_1), .ref mQnow, .ref mQfresh, .ref mQwas, .int (zI macts), .ref mQisKept, .ref mQkept, .ref mQheard, .ref mQnumber, .ref mQlowUp, .ref mQlowDown, .ref mQhighUp, .ref mQhighDown, .int (zI mlev), .ref mQseen, .int (zI memp), .ref mQfirst], eA mQtext (cy 0) 100 mText, eA mQfresh (cy 0) 11 (zup mFresh 1 mval_1)] H := hP
    have hD : va_D A [eO mO 6 [.int (zI mth), .ref mQtext, .int (zI mmany), .int (zI mcur_1), .int (zI mst_1), .int (zI mtok_1), .int (zI mval_1), .ref mQnow, .ref mQfresh, .ref mQwas, .int (zI macts), .ref mQisKept, .ref mQkept, .ref mQheard, .ref mQnumber, .ref mQlowUp, .ref mQlowDown, .ref mQhighUp, .ref mQhighDown, .int (zI mlev), .ref mQseen, .int (zI memp), .ref mQfirst], eA mQtext (cy 0) 100 mText, eA mQfresh (cy 0) 11 (zup mFresh 1 mval_1)] := hD
    refine lv_aload_n hx hb dX7_readBox_28 rfl (lv_at hl 0 rfl) ?_
    obtain ⟨⟨mcur_29, mst_29, mtok_29, mval_29⟩, hc29, hf⟩ := zq_bind hf
    refine zcallVv (wr := [eA mQfresh (cy 0) 11 (zup mFresh 1 mval_1)]) (rest := []) ⟨hx, hb, hml, hown, hts⟩ (c_X7_next l D cy mO mQtext mQnow mQfresh mQwas mQisKept mQkept mQheard mQnumber mQlowUp mQlowDown mQhighUp mQhighDown mQseen mQfirst H.size mth mmany mcur_1 mst_1 mtok_1 mval_1 macts mlev memp mText hc29) (cwV 0 hts gX7_readBox_X7_next rfl rfl rfl (by decide +kernel) ⟨Nat.le_of_ble_eq_true rfl, Nat.le_of_ble_eq_true rfl⟩) hK hP hD hS hA [0, 1] [2] rfl rfl rfl rfl (by decide) (va_recv hK.1 hP (ci := 6) (q0 := 0) rfl rfl) rfl hl.1 rfl (Nat.le_of_ble_eq_true rfl) dX7_readBox_29 ⟨Nat.zero_le _, Nat.zero_le _⟩ (fun H locs hP hD hS => ?_)
    have hP : va_P D vwCl [eO mO 6 [.int (zI mth), .ref mQtext, .int (zI mmany), .int (zI mcur_29), .int (zI mst_29), .int (zI mtok_29), .int (zI mval_29), .ref mQnow, .ref mQfresh, .ref mQwas, .int (zI macts), .ref mQisKept, .ref mQkept, .ref mQheard, .ref mQnumber, .ref mQlowUp, .ref mQlowDown, .ref mQhighUp, .ref mQhighDown, .int (zI mlev), .ref mQseen, .int (zI memp), .ref mQfirst], eA mQtext (cy 0) 100 mText, eA mQfresh (cy 0) 11 (zup mFresh 1 mval_1)] H := hP.sub [1, 2, 0] rfl
    have hD : va_D A [eO mO 6 [.int (zI mth), .ref mQtext, .int (zI mmany), .int (zI mcur_29), .int (zI mst_29), .int (zI mtok_29), .int (zI mval_29), .ref mQnow, .ref mQfresh, .ref mQwas, .int (zI macts), .ref mQisKept, .ref mQkept, .ref mQheard, .ref mQnumber, .ref mQlowUp, .ref mQlowDown, .ref mQhighUp, .ref mQhighDown, .int (zI mlev), .ref mQseen, .int (zI memp), .ref mQfirst], eA mQtext (cy 0) 100 mText, eA mQfresh (cy 0) 11 (zup mFresh 1 mval_1)] := hD.sub [1, 2, 0] rfl rfl
    refine lv_aload_n hx hb dX7_readBox_32 rfl (lv_at hl 0 rfl) ?_
    refine lv_aload_n hx hb dX7_readBox_33 rfl (lv_at hl 0 rfl) ?_
    refine va_get (D := D) (ci := 6) (v := .ref mQfresh) (C := RX7) (T := TX7) (N := 23) hx hb hts u_X7_readBox_X7 hown hK.1 hP 0 rfl rfl 8 (by decide) (hts _ m_X7_readBox_1) (fun _ h9 => h9) rfl dX7_readBox_34 ?_
    refine lv_iconst (v := zI 1) hx hb dX7_readBox_37 rfl ?_
    refine zz_iald (i := 1) hx hb hK hP 2 rfl (Nat.le_of_ble_eq_true rfl) (by decide) dX7_readBox_38 ?_
    refine lv_sipush (v := zI 999) hx hb dX7_readBox_39 (by decide) ?_
    obtain ⟨r42, hc42, hf⟩ := zq_bind hf
    refine zcallVi (wr := [eA mQtext (cy 0) 100 mText, eA mQfresh (cy 0) 11 (zup mFresh 1 mval_1)]) (rest := []) ⟨hx, hb, hml, hown, hts⟩ (c_X7_isNumber l D cy mO mQtext mQnow mQfresh mQwas mQisKept mQkept mQheard mQnumber mQlowUp mQlowDown mQhighUp mQhighDown mQseen mQfirst H.size ((zup mFresh 1 mval_1) 1) 999 mth mmany mcur_29 mst_29 mtok_29 mval_29 macts mlev memp hc42) (cwV 2 hts gX7_readBox_X7_isNumber rfl rfl rfl (by decide +kernel) ⟨Nat.le_of_ble_eq_true rfl, Nat.le_of_ble_eq_true rfl⟩) hK hP hD hS hA [0] [1, 2] rfl rfl rfl rfl (by decide) (va_recv hK.1 hP (ci := 6) (q0 := 0) rfl rfl) rfl hl.1 rfl (Nat.le_of_ble_eq_true rfl) dX7_readBox_42 ⟨Nat.zero_le _, Nat.zero_le _⟩ (fun H locs hP hD hS => ?_)
    have hP : va_P D vwCl [eO mO 6 [.int (zI mth), .ref mQtext, .int (zI mmany), .int (zI mcur_29), .int (zI mst_29), .int (zI mtok_29), .int (zI mval_29), .ref mQnow, .ref mQfresh, .ref mQwas, .int (zI macts), .ref mQisKept, .ref mQkept, .ref mQheard, .ref mQnumber, .ref mQlowUp, .ref mQlowDown, .ref mQhighUp, .ref mQhighDown, .int (zI mlev), .ref mQseen, .int (zI memp), .ref mQfirst], eA mQtext (cy 0) 100 mText, eA mQfresh (cy 0) 11 (zup mFresh 1 mval_1)] H := hP.sub [2, 0, 1] rfl
    have hD : va_D A [eO mO 6 [.int (zI mth), .ref mQtext, .int (zI mmany), .int (zI mcur_29), .int (zI mst_29), .int (zI mtok_29), .int (zI mval_29), .ref mQnow, .ref mQfresh, .ref mQwas, .int (zI macts), .ref mQisKept, .ref mQkept, .ref mQheard, .ref mQnumber, .ref mQlowUp, .ref mQlowDown, .ref mQhighUp, .ref mQhighDown, .int (zI mlev), .ref mQseen, .int (zI memp), .ref mQfirst], eA mQtext (cy 0) 100 mText, eA mQfresh (cy 0) 11 (zup mFresh 1 mval_1)] := hD.sub [2, 0, 1] rfl rfl
    refine zz_if_ne (tgt := 50) hx hb dX7_readBox_45 (by decide) hf (fun hc hf => ?_) (fun hc hf => ?_)
    · refine lv_iconst (v := zI 0) hx hb dX7_readBox_48 rfl ?_
      have hf := zq_some hf
      cases hf
      exact W.zret hx hb hr rfl (fun t ht hW => ⟨⟨_, (), rfl, rfl, by rw [ht]; exact hP, hD⟩, hS.F ht⟩) hS.2.2 dX7_readBox_49
    · refine lv_aload_n hx hb dX7_readBox_50 rfl (lv_at hl 0 rfl) ?_
      refine va_get (D := D) (ci := 6) (v := .ref mQfresh) (C := RX7) (T := TX7) (N := 23) hx hb hts u_X7_readBox_X7 hown hK.1 hP 0 rfl rfl 8 (by decide) (hts _ m_X7_readBox_1) (fun _ h9 => h9) rfl dX7_readBox_51 ?_
      refine lv_iconst (v := zI 2) hx hb dX7_readBox_54 rfl ?_
      refine lv_aload_n hx hb dX7_readBox_55 rfl (lv_at hl 0 rfl) ?_
      refine va_get (D := D) (ci := 6) (v := .int (zI mval_29)) (C := RX7) (T := TX7) (N := 23) hx hb hts u_X7_readBox_X7 hown hK.1 hP 0 rfl rfl 6 (by decide) (hts _ m_X7_readBox_2) (fun _ h9 => h9) rfl dX7_readBox_56 ?_
      refine zz_iast (i := 2) hx hb hK hP hD hS 2 rfl (Nat.le_of_ble_eq_true rfl) (by decide) dX7_readBox_59 (fun H locs hP hD hS => ?_)
      have hP : va_P D vwCl [eO mO 6 [.int (zI mth), .ref mQtext, .int (zI mmany), .int (zI mcur_29), .int (zI mst_29), .int (zI mtok_29), .int (zI mval_29), .ref mQnow, .ref mQfresh, .ref mQwas, .int (zI macts), .ref mQisKept, .ref mQkept, .ref mQheard, .ref mQnumber, .ref mQlowUp, .ref mQlowDown, .ref mQhighUp, .ref mQhighDown, .int (zI mlev), .ref mQseen, .int (zI memp), .ref mQfirst], eA mQtext (cy 0) 100 mText, eA mQfresh (cy 0) 11 (zup (zup mFresh 1 mval_1) 2 mval_29)] H := hP
      have hD : va_D A [eO mO 6 [.int (zI mth), .ref mQtext, .int (zI mmany), .int (zI mcur_29), .int (zI mst_29), .int (zI mtok_29), .int (zI mval_29), .ref mQnow, .ref mQfresh, .ref mQwas, .int (zI macts), .ref mQisKept, .ref mQkept, .ref mQheard, .ref mQnumber, .ref mQlowUp, .ref mQlowDown, .ref mQhighUp, .ref mQhighDown, .int (zI mlev), .ref mQseen, .int (zI memp), .ref mQfirst], eA mQtext (cy 0) 100 mText, eA mQfresh (cy 0) 11 (zup (zup mFresh 1 mval_1) 2 mval_29)] := hD
      refine lv_aload_n hx hb dX7_readBox_60 rfl (lv_at hl 0 rfl) ?_
      obtain ⟨⟨mcur_61, mst_61, mtok_61, mval_61⟩, hc61, hf⟩ := zq_bind hf
      refine zcallVv (wr := [eA mQfresh (cy 0) 11 (zup (zup mFresh 1 mval_1) 2 mval_29)]) (rest := []) ⟨hx, hb, hml, hown, hts⟩ (c_X7_next l D cy mO mQtext mQnow mQfresh mQwas mQisKept mQkept mQheard mQnumber mQlowUp mQlowDown mQhighUp mQhighDown mQseen mQfirst H.size mth mmany mcur_29 mst_29 mtok_29 mval_29 macts mlev memp mText hc61) (cwV 0 hts gX7_readBox_X7_next rfl rfl rfl (by decide +kernel) ⟨Nat.le_of_ble_eq_true rfl, Nat.le_of_ble_eq_true rfl⟩) hK hP hD hS hA [0, 1] [2] rfl rfl rfl rfl (by decide) (va_recv hK.1 hP (ci := 6) (q0 := 0) rfl rfl) rfl hl.1 rfl (Nat.le_of_ble_eq_true rfl) dX7_readBox_61 ⟨Nat.zero_le _, Nat.zero_le _⟩ (fun H locs hP hD hS => ?_)
      have hP : va_P D vwCl [eO mO 6 [.int (zI mth), .ref mQtext, .int (zI mmany), .int (zI mcur_61), .int (zI mst_61), .int (zI mtok_61), .int (zI mval_61), .ref mQnow, .ref mQfresh, .ref mQwas, .int (zI macts), .ref mQisKept, .ref mQkept, .ref mQheard, .ref mQnumber, .ref mQlowUp, .ref mQlowDown, .ref mQhighUp, .ref mQhighDown, .int (zI mlev), .ref mQseen, .int (zI memp), .ref mQfirst], eA mQtext (cy 0) 100 mText, eA mQfresh (cy 0) 11 (zup (zup mFresh 1 mval_1) 2 mval_29)] H := hP.sub [1, 2, 0] rfl
      have hD : va_D A [eO mO 6 [.int (zI mth), .ref mQtext, .int (zI mmany), .int (zI mcur_61), .int (zI mst_61), .int (zI mtok_61), .int (zI mval_61), .ref mQnow, .ref mQfresh, .ref mQwas, .int (zI macts), .ref mQisKept, .ref mQkept, .ref mQheard, .ref mQnumber, .ref mQlowUp, .ref mQlowDown, .ref mQhighUp, .ref mQhighDown, .int (zI mlev), .ref mQseen, .int (zI memp), .ref mQfirst], eA mQtext (cy 0) 100 mText, eA mQfresh (cy 0) 11 (zup (zup mFresh 1 mval_1) 2 mval_29)] := hD.sub [1, 2, 0] rfl rfl
      refine lv_aload_n hx hb dX7_readBox_64 rfl (lv_at hl 0 rfl) ?_
      refine va_get (D := D) (ci := 6) (v := .ref mQfresh) (C := RX7) (T := TX7) (N := 23) hx hb hts u_X7_readBox_X7 hown hK.1 hP 0 rfl rfl 8 (by decide) (hts _ m_X7_readBox_1) (fun _ h9 => h9) rfl dX7_readBox_65 ?_
      refine lv_iconst (v := zI 3) hx hb dX7_readBox_68 rfl ?_
      refine lv_aload_n hx hb dX7_readBox_69 rfl (lv_at hl 0 rfl) ?_
      refine va_get (D := D) (ci := 6) (v := .int (zI mval_61)) (C := RX7) (T := TX7) (N := 23) hx hb hts u_X7_readBox_X7 hown hK.1 hP 0 rfl rfl 6 (by decide) (hts _ m_X7_readBox_2) (fun _ h9 => h9) rfl dX7_readBox_70 ?_
      refine zz_iast (i := 3) hx hb hK hP hD hS 2 rfl (Nat.le_of_ble_eq_true rfl) (by decide) dX7_readBox_73 (fun H locs hP hD hS => ?_)
      have hP : va_P D vwCl [eO mO 6 [.int (zI mth), .ref mQtext, .int (zI mmany), .int (zI mcur_61), .int (zI mst_61), .int (zI mtok_61), .int (zI mval_61), .ref mQnow, .ref mQfresh, .ref mQwas, .int (zI macts), .ref mQisKept, .ref mQkept, .ref mQheard, .ref mQnumber, .ref mQlowUp, .ref mQlowDown, .ref mQhighUp, .ref mQhighDown, .int (zI mlev), .ref mQseen, .int (zI memp), .ref mQfirst], eA mQtext (cy 0) 100 mText, eA mQfresh (cy 0) 11 (zup (zup (zup mFresh 1 mval_1) 2 mval_29) 3 mval_61)] H := hP
      have hD : va_D A [eO mO 6 [.int (zI mth), .ref mQtext, .int (zI mmany), .int (zI mcur_61), .int (zI mst_61), .int (zI mtok_61), .int (zI mval_61), .ref mQnow, .ref mQfresh, .ref mQwas, .int (zI macts), .ref mQisKept, .ref mQkept, .ref mQheard, .ref mQnumber, .ref mQlowUp, .ref mQlowDown, .ref mQhighUp, .ref mQhighDown, .int (zI mlev), .ref mQseen, .int (zI memp), .ref mQfirst], eA mQtext (cy 0) 100 mText, eA mQfresh (cy 0) 11 (zup (zup (zup mFresh 1 mval_1) 2 mval_29) 3 mval_61)] := hD
      refine lv_aload_n hx hb dX7_readBox_74 rfl (lv_at hl 0 rfl) ?_
      refine lv_iconst (v := zI 0) hx hb dX7_readBox_75 rfl ?_
      refine lv_bipush (v := zI 99) hx hb dX7_readBox_76 (by decide) ?_
      obtain ⟨r78, hc78, hf⟩ := zq_bind hf
      refine zcallVi (wr := [eA mQtext (cy 0) 100 mText, eA mQfresh (cy 0) 11 (zup (zup (zup mFresh 1 mval_1) 2 mval_29) 3 mval_61)]) (rest := []) ⟨hx, hb, hml, hown, hts⟩ (c_X7_isNumber l D cy mO mQtext mQnow mQfresh mQwas mQisKept mQkept mQheard mQnumber mQlowUp mQlowDown mQhighUp mQhighDown mQseen mQfirst H.size 0 99 mth mmany mcur_61 mst_61 mtok_61 mval_61 macts mlev memp hc78) (cwV 2 hts gX7_readBox_X7_isNumber rfl rfl rfl (by decide +kernel) ⟨Nat.le_of_ble_eq_true rfl, Nat.le_of_ble_eq_true rfl⟩) hK hP hD hS hA [0] [1, 2] rfl rfl rfl rfl (by decide) (va_recv hK.1 hP (ci := 6) (q0 := 0) rfl rfl) rfl hl.1 rfl (Nat.le_of_ble_eq_true rfl) dX7_readBox_78 ⟨Nat.zero_le _, Nat.zero_le _⟩ (fun H locs hP hD hS => ?_)
      have hP : va_P D vwCl [eO mO 6 [.int (zI mth), .ref mQtext, .int (zI mmany), .int (zI mcur_61), .int (zI mst_61), .int (zI mtok_61), .int (zI mval_61), .ref mQnow, .ref mQfresh, .ref mQwas, .int (zI macts), .ref mQisKept, .ref mQkept, .ref mQheard, .ref mQnumber, .ref mQlowUp, .ref mQlowDown, .ref mQhighUp, .ref mQhighDown, .int (zI mlev), .ref mQseen, .int (zI memp), .ref mQfirst], eA mQtext (cy 0) 100 mText, eA mQfresh (cy 0) 11 (zup (zup (zup mFresh 1 mval_1) 2 mval_29) 3 mval_61)] H := hP.sub [2, 0, 1] rfl
      have hD : va_D A [eO mO 6 [.int (zI mth), .ref mQtext, .int (zI mmany), .int (zI mcur_61), .int (zI mst_61), .int (zI mtok_61), .int (zI mval_61), .ref mQnow, .ref mQfresh, .ref mQwas, .int (zI macts), .ref mQisKept, .ref mQkept, .ref mQheard, .ref mQnumber, .ref mQlowUp, .ref mQlowDown, .ref mQhighUp, .ref mQhighDown, .int (zI mlev), .ref mQseen, .int (zI memp), .ref mQfirst], eA mQtext (cy 0) 100 mText, eA mQfresh (cy 0) 11 (zup (zup (zup mFresh 1 mval_1) 2 mval_29) 3 mval_61)] := hD.sub [2, 0, 1] rfl rfl
      refine zz_if_eq (tgt := 103) hx hb dX7_readBox_81 (by decide) hf (fun hc hf => ?_) (fun hc hf => ?_)
      · refine lv_iconst (v := zI 0) hx hb dX7_readBox_103 rfl ?_
        have hf := zq_some hf
        cases hf
        exact W.zret hx hb hr rfl (fun t ht hW => ⟨⟨_, (), rfl, rfl, by rw [ht]; exact hP, hD⟩, hS.F ht⟩) hS.2.2 dX7_readBox_104
      · refine lv_iconst (v := zI 4) hx hb dX7_readBox_84 rfl ?_
        refine lv_aload_n hx hb dX7_readBox_85 rfl (lv_at hl 0 rfl) ?_
        refine va_get (D := D) (ci := 6) (v := .int (zI mval_61)) (C := RX7) (T := TX7) (N := 23) hx hb hts u_X7_readBox_X7 hown hK.1 hP 0 rfl rfl 6 (by decide) (hts _ m_X7_readBox_2) (fun _ h9 => h9) rfl dX7_readBox_86 ?_
        refine zz_imul hx hb dX7_readBox_89 ?_
        refine lv_aload_n hx hb dX7_readBox_90 rfl (lv_at hl 0 rfl) ?_
        refine va_get (D := D) (ci := 6) (v := .ref mQfresh) (C := RX7) (T := TX7) (N := 23) hx hb hts u_X7_readBox_X7 hown hK.1 hP 0 rfl rfl 8 (by decide) (hts _ m_X7_readBox_1) (fun _ h9 => h9) rfl dX7_readBox_91 ?_
        refine lv_iconst (v := zI 1) hx hb dX7_readBox_94 rfl ?_
        refine zz_iald (i := 1) hx hb hK hP 2 rfl (Nat.le_of_ble_eq_true rfl) (by decide) dX7_readBox_95 ?_
        refine zz_icmp_ge (tgt := 103) hx hb dX7_readBox_96 (by decide) hf (fun hc hf => ?_) (fun hc hf => ?_)
        · refine lv_iconst (v := zI 1) hx hb dX7_readBox_99 rfl ?_
          refine lv_goto (tgt := 104) hx hb dX7_readBox_100 (by decide) ?_
          have hf := zq_some hf
          cases hf
          exact W.zret hx hb hr rfl (fun t ht hW => ⟨⟨_, (), rfl, rfl, by rw [ht]; exact hP, hD⟩, hS.F ht⟩) hS.2.2 dX7_readBox_104
        · refine lv_iconst (v := zI 0) hx hb dX7_readBox_103 rfl ?_
          have hf := zq_some hf
          cases hf
          exact W.zret hx hb hr rfl (fun t ht hW => ⟨⟨_, (), rfl, rfl, by rw [ht]; exact hP, hD⟩, hS.F ht⟩) hS.2.2 dX7_readBox_104

noncomputable def f_X7_readTime (mmany : Int) (mcur : Int) (mst : Int) (mtok : Int) (mval : Int) (mText : Nat → Int) (mFresh : Nat → Int) : Option (Int × Int × Int × Int × Int × (Nat → Int)) :=
  gd (zR (mFresh 0) ∧ zR 7) <|
  if (mFresh 0) = 7 then
    some (0, mcur, mst, mtok, mval, mFresh)
  else
    (f_X7_next mmany mcur mst mtok mval mText).bind fun (mcur_14, mst_14, mtok_14, mval_14) =>
    (f_X7_isNumber 0 2999 mtok_14 mval_14).bind fun r22 =>
    gd (zR r22) <|
    if r22 = 0 then
      some (0, mcur_14, mst_14, mtok_14, mval_14, mFresh)
    else
      (f_X7_placeOf mval_14 mFresh).bind fun r36 =>
      gd (zR r36) <|
      if r36 < 0 then
        (f_X7_put mval_14 mFresh).bind fun qR_52 =>
        some (1, mcur_14, mst_14, mtok_14, mval_14, qR_52)
      else
        some (0, mcur_14, mst_14, mtok_14, mval_14, mFresh)
theorem m_X7_readTime_1 : (.fieldLink RX7 49 "PulseTurnsModel" "fresh" "[I" : Cond) ∈ wsX7_readTime := List.mem_of_getElem? (i := 1) rfl
theorem m_X7_readTime_2 : (.fieldLink RX7 37 "PulseTurnsModel" "value" "I" : Cond) ∈ wsX7_readTime := List.mem_of_getElem? (i := 2) rfl
theorem u_X7_readTime_X7 : ∀ w ∈ wsX70, w ∈ wsX7_readTime := fun w h => List.mem_cons_of_mem _ (List.mem_append_right _ h)
set_option maxRecDepth 100000 in
set_option maxHeartbeats 4000000 in
theorem c_X7_readTime (l : Launch) (D : va_G) (cy : Nat → ClassId) (mO mQtext mQnow mQfresh mQwas mQisKept mQkept mQheard mQnumber mQlowUp mQlowDown mQhighUp mQhighDown mQseen mQfirst : Nat) (sz : Nat) (mth : Int) (mmany : Int) (mcur : Int) (mst : Int) (mtok : Int) (mval : Int) (macts : Int) (mlev : Int) (memp : Int) (mText : Nat → Int) (mFresh : Nat → Int) {r : Int} {mcur' : Int} {mst' : Int} {mtok' : Int} {mval' : Int} {mFresh' : Nat → Int} (hf : f_X7_readTime mmany mcur mst mtok mval mText mFresh = some (r, mcur', mst', mtok', mval', mFresh')) : zMi l yX7_readTime wsX7_readTime ({ frames := 2, cells := 0, slots := 0, locals := 47 }) D cy sz [.ref mO] [eO mO 6 [.int (zI mth), .ref mQtext, .int (zI mmany), .int (zI mcur), .int (zI mst), .int (zI mtok), .int (zI mval), .ref mQnow, .ref mQfresh, .ref mQwas, .int (zI macts), .ref mQisKept, .ref mQkept, .ref mQheard, .ref mQnumber, .ref mQlowUp, .ref mQlowDown, .ref mQhighUp, .ref mQhighDown, .int (zI mlev), .ref mQseen, .int (zI memp), .ref mQfirst], eA mQtext (cy 0) 100 mText, eA mQfresh (cy 0) 11 mFresh] [eO mO 6 [.int (zI mth), .ref mQtext, .int (zI mmany), .int (zI mcur'), .int (zI mst'), .int (zI mtok'), .int (zI mval'), .ref mQnow, .ref mQfresh, .ref mQwas, .int (zI macts), .ref mQisKept, .ref mQkept, .ref mQheard, .ref mQnumber, .ref mQlowUp, .ref mQlowDown, .ref mQhighUp, .ref mQhighDown, .int (zI mlev), .ref mQseen, .int (zI memp), .ref mQfirst], eA mQtext (cy 0) 100 mText, eA mQfresh (cy 0) 11 mFresh'] (zI r) := by
  refine Met.ofW (cc := cX7_readTime) (maxL := 1) (ret := (some .boolean)) (by decide) rfl ?_
  intro p e s m args below meth c s₁ B hml hv
  obtain ⟨rfl, hsz, hP, hK, hD0⟩ := hv
  have hx := B.exec
  have hb := B.bytes
  have hr := B.returns
  have hts := atoms_spec (ws := wsX7_readTime) B.pre
  have hown : s.vm.findClass RX7 = some m.cls := findClass_of_methodNamed B.named
  have hlocks := B.notSynchronized
  subst hsz
  have hD := hD0.self (sz := s.heap.size)
  generalize hAe : va_A [eO mO 6 [.int (zI mth), .ref mQtext, .int (zI mmany), .int (zI mcur), .int (zI mst), .int (zI mtok), .int (zI mval), .ref mQnow, .ref mQfresh, .ref mQwas, .int (zI macts), .ref mQisKept, .ref mQkept, .ref mQheard, .ref mQnumber, .ref mQlowUp, .ref mQlowDown, .ref mQhighUp, .ref mQhighDown, .int (zI mlev), .ref mQseen, .int (zI memp), .ref mQfirst], eA mQtext (cy 0) 100 mText, eA mQfresh (cy 0) 11 mFresh] s.heap.size = A at hD ⊢
  have hA : ∀ q : Nat, s.heap.size ≤ q → A q := fun q h => by rw [← hAe]; exact Or.inr h
  have hS : va_S A s.heap s.heap [] := va_S.rf
  have hl := lv_entry ([.ref mO]) (n := 1) (Nat.le_of_ble_eq_true rfl)
  rw [lg_entry_eq]
  generalize (lg_sl ([.ref mO]) ++ List.replicate (1 - (lg_sl ([.ref mO])).length) Slot.unset).toArray = ls at hl ⊢
  have hl : lv_has ls 1 [(0, .ref mO)] := hl
  have hf := zq_of hf
  unfold f_X7_readTime at hf
  refine lv_aload_n hx hb dX7_readTime_0 rfl (lv_at hl 0 rfl) ?_
  refine va_get (D := D) (ci := 6) (v := .ref mQfresh) (C := RX7) (T := TX7) (N := 23) hx hb hts u_X7_readTime_X7 hown hK.1 hP 0 rfl rfl 8 (by decide) (hts _ m_X7_readTime_1) (fun _ h9 => h9) rfl dX7_readTime_1 ?_
  refine lv_iconst (v := zI 0) hx hb dX7_readTime_4 rfl ?_
  refine zz_iald (i := 0) hx hb hK hP 2 rfl (Nat.le_of_ble_eq_true rfl) (by decide) dX7_readTime_5 ?_
  refine lv_bipush (v := zI 7) hx hb dX7_readTime_6 (by decide) ?_
  refine zz_icmp_ne (tgt := 13) hx hb dX7_readTime_8 (by decide) hf (fun hc hf => ?_) (fun hc hf => ?_)
  · refine lv_iconst (v := zI 0) hx hb dX7_readTime_11 rfl ?_
    have hf := zq_some hf
    cases hf
    exact W.zret hx hb hr rfl (fun t ht hW => ⟨⟨_, (), rfl, rfl, by rw [ht]; exact hP, hD⟩, hS.F ht⟩) hS.2.2 dX7_readTime_12
  · refine lv_aload_n hx hb dX7_readTime_13 rfl (lv_at hl 0 rfl) ?_
    obtain ⟨⟨mcur_14, mst_14, mtok_14, mval_14⟩, hc14, hf⟩ := zq_bind hf
    refine zcallVv (wr := [eA mQfresh (cy 0) 11 mFresh]) (rest := []) ⟨hx, hb, hml, hown, hts⟩ (c_X7_next l D cy mO mQtext mQnow mQfresh mQwas mQisKept mQkept mQheard mQnumber mQlowUp mQlowDown mQhighUp mQhighDown mQseen mQfirst s.heap.size mth mmany mcur mst mtok mval macts mlev memp mText hc14) (cwV 0 hts gX7_readTime_X7_next rfl rfl rfl (by decide +kernel) ⟨Nat.le_of_ble_eq_true rfl, Nat.le_of_ble_eq_true rfl⟩) hK hP hD hS hA [0, 1] [2] rfl rfl rfl rfl (by decide) (va_recv hK.1 hP (ci := 6) (q0 := 0) rfl rfl) rfl hl.1 rfl (Nat.le_of_ble_eq_true rfl) dX7_readTime_14 ⟨Nat.zero_le _, Nat.zero_le _⟩ (fun H locs hP hD hS => ?_)
    have hP : va_P D vwCl [eO mO 6 [.int (zI mth), .ref mQtext, .int (zI mmany), .int (zI mcur_14), .int (zI mst_14), .int (zI mtok_14), .int (zI mval_14), .ref mQnow, .ref mQfresh, .ref mQwas, .int (zI macts), .ref mQisKept, .ref mQkept, .ref mQheard, .ref mQnumber, .ref mQlowUp, .ref mQlowDown, .ref mQhighUp, .ref mQhighDown, .int (zI mlev), .ref mQseen, .int (zI memp), .ref mQfirst], eA mQtext (cy 0) 100 mText, eA mQfresh (cy 0) 11 mFresh] H := hP.sub [1, 2, 0] rfl
    have hD : va_D A [eO mO 6 [.int (zI mth), .ref mQtext, .int (zI mmany), .int (zI mcur_14), .int (zI mst_14), .int (zI mtok_14), .int (zI mval_14), .ref mQnow, .ref mQfresh, .ref mQwas, .int (zI macts), .ref mQisKept, .ref mQkept, .ref mQheard, .ref mQnumber, .ref mQlowUp, .ref mQlowDown, .ref mQhighUp, .ref mQhighDown, .int (zI mlev), .ref mQseen, .int (zI memp), .ref mQfirst], eA mQtext (cy 0) 100 mText, eA mQfresh (cy 0) 11 mFresh] := hD.sub [1, 2, 0] rfl rfl
    refine lv_aload_n hx hb dX7_readTime_17 rfl (lv_at hl 0 rfl) ?_
    refine lv_iconst (v := zI 0) hx hb dX7_readTime_18 rfl ?_
    refine lv_sipush (v := zI 2999) hx hb dX7_readTime_19 (by decide) ?_
    obtain ⟨r22, hc22, hf⟩ := zq_bind hf
    refine zcallVi (wr := [eA mQtext (cy 0) 100 mText, eA mQfresh (cy 0) 11 mFresh]) (rest := []) ⟨hx, hb, hml, hown, hts⟩ (c_X7_isNumber l D cy mO mQtext mQnow mQfresh mQwas mQisKept mQkept mQheard mQnumber mQlowUp mQlowDown mQhighUp mQhighDown mQseen mQfirst H.size 0 2999 mth mmany mcur_14 mst_14 mtok_14 mval_14 macts mlev memp hc22) (cwV 2 hts gX7_readTime_X7_isNumber rfl rfl rfl (by decide +kernel) ⟨Nat.le_of_ble_eq_true rfl, Nat.le_of_ble_eq_true rfl⟩) hK hP hD hS hA [0] [1, 2] rfl rfl rfl rfl (by decide) (va_recv hK.1 hP (ci := 6) (q0 := 0) rfl rfl) rfl hl.1 rfl (Nat.le_of_ble_eq_true rfl) dX7_readTime_22 ⟨Nat.zero_le _, Nat.zero_le _⟩ (fun H locs hP hD hS => ?_)
    have hP : va_P D vwCl [eO mO 6 [.int (zI mth), .ref mQtext, .int (zI mmany), .int (zI mcur_14), .int (zI mst_14), .int (zI mtok_14), .int (zI mval_14), .ref mQnow, .ref mQfresh, .ref mQwas, .int (zI macts), .ref mQisKept, .ref mQkept, .ref mQheard, .ref mQnumber, .ref mQlowUp, .ref mQlowDown, .ref mQhighUp, .ref mQhighDown, .int (zI mlev), .ref mQseen, .int (zI memp), .ref mQfirst], eA mQtext (cy 0) 100 mText, eA mQfresh (cy 0) 11 mFresh] H := hP.sub [2, 0, 1] rfl
    have hD : va_D A [eO mO 6 [.int (zI mth), .ref mQtext, .int (zI mmany), .int (zI mcur_14), .int (zI mst_14), .int (zI mtok_14), .int (zI mval_14), .ref mQnow, .ref mQfresh, .ref mQwas, .int (zI macts), .ref mQisKept, .ref mQkept, .ref mQheard, .ref mQnumber, .ref mQlowUp, .ref mQlowDown, .ref mQhighUp, .ref mQhighDown, .int (zI mlev), .ref mQseen, .int (zI memp), .ref mQfirst], eA mQtext (cy 0) 100 mText, eA mQfresh (cy 0) 11 mFresh] := hD.sub [2, 0, 1] rfl rfl
    refine zz_if_eq (tgt := 42) hx hb dX7_readTime_25 (by decide) hf (fun hc hf => ?_) (fun hc hf => ?_)
    · refine lv_iconst (v := zI 0) hx hb dX7_readTime_42 rfl ?_
      have hf := zq_some hf
      cases hf
      exact W.zret hx hb hr rfl (fun t ht hW => ⟨⟨_, (), rfl, rfl, by rw [ht]; exact hP, hD⟩, hS.F ht⟩) hS.2.2 dX7_readTime_43
    · refine lv_aload_n hx hb dX7_readTime_28 rfl (lv_at hl 0 rfl) ?_
      refine va_get (D := D) (ci := 6) (v := .ref mQfresh) (C := RX7) (T := TX7) (N := 23) hx hb hts u_X7_readTime_X7 hown hK.1 hP 0 rfl rfl 8 (by decide) (hts _ m_X7_readTime_1) (fun _ h9 => h9) rfl dX7_readTime_29 ?_
      refine lv_aload_n hx hb dX7_readTime_32 rfl (lv_at hl 0 rfl) ?_
      refine va_get (D := D) (ci := 6) (v := .int (zI mval_14)) (C := RX7) (T := TX7) (N := 23) hx hb hts u_X7_readTime_X7 hown hK.1 hP 0 rfl rfl 6 (by decide) (hts _ m_X7_readTime_2) (fun _ h9 => h9) rfl dX7_readTime_33 ?_
      obtain ⟨r36, hc36, hf⟩ := zq_bind hf
      refine zcallSi (wr := [eO mO 6 [.int (zI mth), .ref mQtext, .int (zI mmany), .int (zI mcur_14), .int (zI mst_14), .int (zI mtok_14), .int (zI mval_14), .ref mQnow, .ref mQfresh, .ref mQwas, .int (zI macts), .ref mQisKept, .ref mQkept, .ref mQheard, .ref mQnumber, .ref mQlowUp, .ref mQlowDown, .ref mQhighUp, .ref mQhighDown, .int (zI mlev), .ref mQseen, .int (zI memp), .ref mQfirst], eA mQtext (cy 0) 100 mText]) (rest := []) ⟨hx, hb, hml, hown, hts⟩ (c_X7_placeOf l D cy mQfresh H.size mval_14 mFresh hc36) (va_cwS 2 hts gX7_readTime_X7_placeOf rfl rfl rfl (by decide +kernel) ⟨Nat.le_of_ble_eq_true rfl, Nat.le_of_ble_eq_true rfl⟩) hK hP hD hS hA [2] [0, 1] rfl rfl rfl rfl (by decide) rfl hl.1 rfl (Nat.le_of_ble_eq_true rfl) dX7_readTime_36 ⟨Nat.zero_le _, Nat.zero_le _⟩ (fun H locs hP hD hS => ?_)
      have hP : va_P D vwCl [eO mO 6 [.int (zI mth), .ref mQtext, .int (zI mmany), .int (zI mcur_14), .int (zI mst_14), .int (zI mtok_14), .int (zI mval_14), .ref mQnow, .ref mQfresh, .ref mQwas, .int (zI macts), .ref mQisKept, .ref mQkept, .ref mQheard, .ref mQnumber, .ref mQlowUp, .ref mQlowDown, .ref mQhighUp, .ref mQhighDown, .int (zI mlev), .ref mQseen, .int (zI memp), .ref mQfirst], eA mQtext (cy 0) 100 mText, eA mQfresh (cy 0) 11 mFresh] H := hP.sub [0, 1, 2] rfl
      have hD : va_D A [eO mO 6 [.int (zI mth), .ref mQtext, .int (zI mmany), .int (zI mcur_14), .int (zI mst_14), .int (zI mtok_14), .int (zI mval_14), .ref mQnow, .ref mQfresh, .ref mQwas, .int (zI macts), .ref mQisKept, .ref mQkept, .ref mQheard, .ref mQnumber, .ref mQlowUp, .ref mQlowDown, .ref mQhighUp, .ref mQhighDown, .int (zI mlev), .ref mQseen, .int (zI memp), .ref mQfirst], eA mQtext (cy 0) 100 mText, eA mQfresh (cy 0) 11 mFresh] := hD.sub [0, 1, 2] rfl rfl
      refine zz_if_lt (tgt := 44) hx hb dX7_readTime_39 (by decide) hf (fun hc hf => ?_) (fun hc hf => ?_)
      · refine lv_aload_n hx hb dX7_readTime_44 rfl (lv_at hl 0 rfl) ?_
        refine va_get (D := D) (ci := 6) (v := .ref mQfresh) (C := RX7) (T := TX7) (N := 23) hx hb hts u_X7_readTime_X7 hown hK.1 hP 0 rfl rfl 8 (by decide) (hts _ m_X7_readTime_1) (fun _ h9 => h9) rfl dX7_readTime_45 ?_
        refine lv_aload_n hx hb dX7_readTime_48 rfl (lv_at hl 0 rfl) ?_
        refine va_get (D := D) (ci := 6) (v := .int (zI mval_14)) (C := RX7) (T := TX7) (N := 23) hx hb hts u_X7_readTime_X7 hown hK.1 hP 0 rfl rfl 6 (by decide) (hts _ m_X7_readTime_2) (fun _ h9 => h9) rfl dX7_readTime_49 ?_
        obtain ⟨qR_52, hc52, hf⟩ := zq_bind hf
        refine zcallSv (wr := [eO mO 6 [.int (zI mth), .ref mQtext, .int (zI mmany), .int (zI mcur_14), .int (zI mst_14), .int (zI mtok_14), .int (zI mval_14), .ref mQnow, .ref mQfresh, .ref mQwas, .int (zI macts), .ref mQisKept, .ref mQkept, .ref mQheard, .ref mQnumber, .ref mQlowUp, .ref mQlowDown, .ref mQhighUp, .ref mQhighDown, .int (zI mlev), .ref mQseen, .int (zI memp), .ref mQfirst], eA mQtext (cy 0) 100 mText]) (rest := []) ⟨hx, hb, hml, hown, hts⟩ (c_X7_put l D cy mQfresh H.size mval_14 mFresh hc52) (va_cwS 2 hts gX7_readTime_X7_put rfl rfl rfl (by decide +kernel) ⟨Nat.le_of_ble_eq_true rfl, Nat.le_of_ble_eq_true rfl⟩) hK hP hD hS hA [2] [0, 1] rfl rfl rfl rfl (by decide) rfl hl.1 rfl (Nat.le_of_ble_eq_true rfl) dX7_readTime_52 ⟨Nat.zero_le _, Nat.zero_le _⟩ (fun H locs hP hD hS => ?_)
        have hP : va_P D vwCl [eO mO 6 [.int (zI mth), .ref mQtext, .int (zI mmany), .int (zI mcur_14), .int (zI mst_14), .int (zI mtok_14), .int (zI mval_14), .ref mQnow, .ref mQfresh, .ref mQwas, .int (zI macts), .ref mQisKept, .ref mQkept, .ref mQheard, .ref mQnumber, .ref mQlowUp, .ref mQlowDown, .ref mQhighUp, .ref mQhighDown, .int (zI mlev), .ref mQseen, .int (zI memp), .ref mQfirst], eA mQtext (cy 0) 100 mText, eA mQfresh (cy 0) 11 qR_52] H := hP.sub [0, 1, 2] rfl
        have hD : va_D A [eO mO 6 [.int (zI mth), .ref mQtext, .int (zI mmany), .int (zI mcur_14), .int (zI mst_14), .int (zI mtok_14), .int (zI mval_14), .ref mQnow, .ref mQfresh, .ref mQwas, .int (zI macts), .ref mQisKept, .ref mQkept, .ref mQheard, .ref mQnumber, .ref mQlowUp, .ref mQlowDown, .ref mQhighUp, .ref mQhighDown, .int (zI mlev), .ref mQseen, .int (zI memp), .ref mQfirst], eA mQtext (cy 0) 100 mText, eA mQfresh (cy 0) 11 qR_52] := hD.sub [0, 1, 2] rfl rfl
        refine lv_iconst (v := zI 1) hx hb dX7_readTime_55 rfl ?_
        have hf := zq_some hf
        cases hf
        exact W.zret hx hb hr rfl (fun t ht hW => ⟨⟨_, (), rfl, rfl, by rw [ht]; exact hP, hD⟩, hS.F ht⟩) hS.2.2 dX7_readTime_56
      · refine lv_iconst (v := zI 0) hx hb dX7_readTime_42 rfl ?_
        have hf := zq_some hf
        cases hf
        exact W.zret hx hb hr rfl (fun t ht hW => ⟨⟨_, (), rfl, rfl, by rw [ht]; exact hP, hD⟩, hS.F ht⟩) hS.2.2 dX7_readTime_43

noncomputable def st_X7_readOne (mmany : Int) (mText : Nat → Int) : (Int × Int × Int × Int × (Nat → Int)) → Option ((Int × Int × Int × Int × (Nat → Int)) ⊕ (Int × Int × Int × Int × Int × (Nat → Int))) := fun (mcur, mst, mtok, mval, mFresh) =>
  gd (zR mtok ∧ zR 2) <|
  if mtok = 2 then
    (f_X7_readTime mmany mcur mst mtok mval mText mFresh).bind fun (r28, mcur_28, mst_28, mtok_28, mval_28, mFresh_28) =>
    gd (zR r28) <|
    if r28 = 0 then
      some (.inr (0, mcur_28, mst_28, mtok_28, mval_28, mFresh_28))
    else
      (f_X7_next mmany mcur_28 mst_28 mtok_28 mval_28 mText).bind fun (mcur_47, mst_47, mtok_47, mval_47) =>
      gd (zR mtok_47 ∧ zR 4) <|
      if mtok_47 = 4 then
        (f_X7_next mmany mcur_47 mst_47 mtok_47 mval_47 mText).bind fun (mcur_61, mst_61, mtok_61, mval_61) =>
        some (.inr (1, mcur_61, mst_61, mtok_61, mval_61, mFresh_28))
      else
        some (.inr (0, mcur_47, mst_47, mtok_47, mval_47, mFresh_28))
  else
    some (.inr (0, mcur, mst, mtok, mval, mFresh))
noncomputable def f_X7_readOne (p1 : Int) (mmany : Int) (mcur : Int) (mst : Int) (mtok : Int) (mval : Int) (mText : Nat → Int) (mFresh : Nat → Int) : Option (Int × Int × Int × Int × Int × (Nat → Int)) :=
  gd (zR mtok ∧ zR 1) <|
  if mtok = 1 then
    gd (zR p1) <|
    if p1 = 0 then
      (f_X7_readBox mmany mcur mst mtok mval mText mFresh).bind fun (r13, mcur_13, mst_13, mtok_13, mval_13, mFresh_13) =>
      gd (zR r13) <|
      if r13 = 0 then
        some (0, mcur_13, mst_13, mtok_13, mval_13, mFresh_13)
      else
        (f_X7_next mmany mcur_13 mst_13 mtok_13 mval_13 mText).bind fun (mcur_47, mst_47, mtok_47, mval_47) =>
        gd (zR mtok_47 ∧ zR 4) <|
        if mtok_47 = 4 then
          (f_X7_next mmany mcur_47 mst_47 mtok_47 mval_47 mText).bind fun (mcur_61, mst_61, mtok_61, mval_61) =>
          some (1, mcur_61, mst_61, mtok_61, mval_61, mFresh_13)
        else
          some (0, mcur_47, mst_47, mtok_47, mval_47, mFresh_13)
    else
      zev (st_X7_readOne mmany mText) (mcur, mst, mtok, mval, mFresh)
  else
    zev (st_X7_readOne mmany mText) (mcur, mst, mtok, mval, mFresh)
theorem m_X7_readOne_1 : (.fieldLink RX7 34 "PulseTurnsModel" "token" "I" : Cond) ∈ wsX7_readOne := List.mem_of_getElem? (i := 1) rfl
theorem u_X7_readOne_X7 : ∀ w ∈ wsX70, w ∈ wsX7_readOne := fun w h => List.mem_cons_of_mem _ (List.mem_append_right _ h)
set_option maxRecDepth 100000 in
set_option maxHeartbeats 4000000 in
theorem c_X7_readOne (l : Launch) (D : va_G) (cy : Nat → ClassId) (mO mQtext mQnow mQfresh mQwas mQisKept mQkept mQheard mQnumber mQlowUp mQlowDown mQhighUp mQhighDown mQseen mQfirst : Nat) (sz : Nat) (p1 : Int) (mth : Int) (mmany : Int) (mcur : Int) (mst : Int) (mtok : Int) (mval : Int) (macts : Int) (mlev : Int) (memp : Int) (mText : Nat → Int) (mFresh : Nat → Int) {r : Int} {mcur' : Int} {mst' : Int} {mtok' : Int} {mval' : Int} {mFresh' : Nat → Int} (hf : f_X7_readOne p1 mmany mcur mst mtok mval mText mFresh = some (r, mcur', mst', mtok', mval', mFresh')) : zMi l yX7_readOne wsX7_readOne ({ frames := 3, cells := 0, slots := 0, locals := 67 }) D cy sz [.ref mO, .int (zI p1)] [eO mO 6 [.int (zI mth), .ref mQtext, .int (zI mmany), .int (zI mcur), .int (zI mst), .int (zI mtok), .int (zI mval), .ref mQnow, .ref mQfresh, .ref mQwas, .int (zI macts), .ref mQisKept, .ref mQkept, .ref mQheard, .ref mQnumber, .ref mQlowUp, .ref mQlowDown, .ref mQhighUp, .ref mQhighDown, .int (zI mlev), .ref mQseen, .int (zI memp), .ref mQfirst], eA mQtext (cy 0) 100 mText, eA mQfresh (cy 0) 11 mFresh] [eO mO 6 [.int (zI mth), .ref mQtext, .int (zI mmany), .int (zI mcur'), .int (zI mst'), .int (zI mtok'), .int (zI mval'), .ref mQnow, .ref mQfresh, .ref mQwas, .int (zI macts), .ref mQisKept, .ref mQkept, .ref mQheard, .ref mQnumber, .ref mQlowUp, .ref mQlowDown, .ref mQhighUp, .ref mQhighDown, .int (zI mlev), .ref mQseen, .int (zI memp), .ref mQfirst], eA mQtext (cy 0) 100 mText, eA mQfresh (cy 0) 11 mFresh'] (zI r) := by
  refine Met.ofW (cc := cX7_readOne) (maxL := 3) (ret := (some .boolean)) (by decide) rfl ?_
  intro p e s m args below meth c s₁ B hml hv
  obtain ⟨rfl, hsz, hP, hK, hD0⟩ := hv
  have hx := B.exec
  have hb := B.bytes
  have hr := B.returns
  have hts := atoms_spec (ws := wsX7_readOne) B.pre
  have hown : s.vm.findClass RX7 = some m.cls := findClass_of_methodNamed B.named
  have hlocks := B.notSynchronized
  subst hsz
  have hD := hD0.self (sz := s.heap.size)
  generalize hAe : va_A [eO mO 6 [.int (zI mth), .ref mQtext, .int (zI mmany), .int (zI mcur), .int (zI mst), .int (zI mtok), .int (zI mval), .ref mQnow, .ref mQfresh, .ref mQwas, .int (zI macts), .ref mQisKept, .ref mQkept, .ref mQheard, .ref mQnumber, .ref mQlowUp, .ref mQlowDown, .ref mQhighUp, .ref mQhighDown, .int (zI mlev), .ref mQseen, .int (zI memp), .ref mQfirst], eA mQtext (cy 0) 100 mText, eA mQfresh (cy 0) 11 mFresh] s.heap.size = A at hD ⊢
  have hA : ∀ q : Nat, s.heap.size ≤ q → A q := fun q h => by rw [← hAe]; exact Or.inr h
  have hS : va_S A s.heap s.heap [] := va_S.rf
  have hl := lv_entry ([.ref mO, .int (zI p1)]) (n := 3) (Nat.le_of_ble_eq_true rfl)
  rw [lg_entry_eq]
  generalize (lg_sl ([.ref mO, .int (zI p1)]) ++ List.replicate (3 - (lg_sl ([.ref mO, .int (zI p1)])).length) Slot.unset).toArray = ls at hl ⊢
  have hl : lv_has ls 3 [(0, .ref mO), (1, .int (zI p1))] := hl
  have hf := zq_of hf
  have key := zloop (st := st_X7_readOne mmany mText) (res := (r, mcur', mst', mtok', mval', mFresh')) (K := fun (mcur, mst, mtok, mval, mFresh) => ∀ (H : Heap) (locs : List Loc) (ls : Array Slot), va_P D vwCl [eO mO 6 [.int (zI mth), .ref mQtext, .int (zI mmany), .int (zI mcur), .int (zI mst), .int (zI mtok), .int (zI mval), .ref mQnow, .ref mQfresh, .ref mQwas, .int (zI macts), .ref mQisKept, .ref mQkept, .ref mQheard, .ref mQnumber, .ref mQlowUp, .ref mQlowDown, .ref mQhighUp, .ref mQhighDown, .int (zI mlev), .ref mQseen, .int (zI memp), .ref mQfirst], eA mQtext (cy 0) 100 mText, eA mQfresh (cy 0) 11 mFresh] H → va_D A [eO mO 6 [.int (zI mth), .ref mQtext, .int (zI mmany), .int (zI mcur), .int (zI mst), .int (zI mtok), .int (zI mval), .ref mQnow, .ref mQfresh, .ref mQwas, .int (zI macts), .ref mQisKept, .ref mQkept, .ref mQheard, .ref mQnumber, .ref mQlowUp, .ref mQlowDown, .ref mQhighUp, .ref mQhighDown, .int (zI mlev), .ref mQseen, .int (zI memp), .ref mQfirst], eA mQtext (cy 0) 100 mText, eA mQfresh (cy 0) 11 mFresh] → va_S A s.heap H locs → lv_has ls 3 [(0, .ref mO), (1, .int (zI p1))] → zGi p l e wsX7_readOne ({ frames := 3, cells := 0, slots := 0, locals := 67 }) s m [.ref mO, .int (zI p1)] below meth c A D [eO mO 6 [.int (zI mth), .ref mQtext, .int (zI mmany), .int (zI mcur'), .int (zI mst'), .int (zI mtok'), .int (zI mval'), .ref mQnow, .ref mQfresh, .ref mQwas, .int (zI macts), .ref mQisKept, .ref mQkept, .ref mQheard, .ref mQnumber, .ref mQlowUp, .ref mQlowDown, .ref mQhighUp, .ref mQhighDown, .int (zI mlev), .ref mQseen, .int (zI memp), .ref mQfirst], eA mQtext (cy 0) 100 mText, eA mQfresh (cy 0) 11 mFresh'] (zI r) H locs (F0 m 19 ls [])) (by
    rintro ⟨mcur, mst, mtok, mval, mFresh⟩ hf
    intro H locs ls hP hD hS hl
    unfold st_X7_readOne at hf
    try dsimp only at hf
    refine lv_aload_n hx hb dX7_readOne_19 rfl (lv_at hl 0 rfl) ?_
    refine va_get (D := D) (ci := 6) (v := .int (zI mtok)) (C := RX7) (T := TX7) (N := 23) hx hb hts u_X7_readOne_X7 hown hK.1 hP 0 rfl rfl 5 (by decide) (hts _ m_X7_readOne_1) (fun _ h9 => h9) rfl dX7_readOne_20 ?_
    refine lv_iconst (v := zI 2) hx hb dX7_readOne_23 rfl ?_
    refine zz_icmp_ne (tgt := 38) hx hb dX7_readOne_24 (by decide) hf (fun hc hf => ?_) (fun hc hf => ?_)
    · refine lv_aload_n hx hb dX7_readOne_27 rfl (lv_at hl 0 rfl) ?_
      obtain ⟨⟨r28, mcur_28, mst_28, mtok_28, mval_28, mFresh_28⟩, hc28, hf⟩ := zq_bind hf
      refine zcallVi (wr := []) (rest := []) ⟨hx, hb, hml, hown, hts⟩ (c_X7_readTime l D cy mO mQtext mQnow mQfresh mQwas mQisKept mQkept mQheard mQnumber mQlowUp mQlowDown mQhighUp mQhighDown mQseen mQfirst H.size mth mmany mcur mst mtok mval macts mlev memp mText mFresh hc28) (cwV 0 hts gX7_readOne_X7_readTime rfl rfl rfl (by decide +kernel) ⟨Nat.le_of_ble_eq_true rfl, Nat.le_of_ble_eq_true rfl⟩) hK hP hD hS hA [0, 1, 2] [] rfl rfl rfl rfl (by decide) (va_recv hK.1 hP (ci := 6) (q0 := 0) rfl rfl) rfl hl.1 rfl (Nat.le_of_ble_eq_true rfl) dX7_readOne_28 ⟨Nat.zero_le _, Nat.zero_le _⟩ (fun H locs hP hD hS => ?_)
      have hP : va_P D vwCl [eO mO 6 [.int (zI mth), .ref mQtext, .int (zI mmany), .int (zI mcur_28), .int (zI mst_28), .int (zI mtok_28), .int (zI mval_28), .ref mQnow, .ref mQfresh, .ref mQwas, .int (zI macts), .ref mQisKept, .ref mQkept, .ref mQheard, .ref mQnumber, .ref mQlowUp, .ref mQlowDown, .ref mQhighUp, .ref mQhighDown, .int (zI mlev), .ref mQseen, .int (zI memp), .ref mQfirst], eA mQtext (cy 0) 100 mText, eA mQfresh (cy 0) 11 mFresh_28] H := hP.sub [0, 1, 2] rfl
      have hD : va_D A [eO mO 6 [.int (zI mth), .ref mQtext, .int (zI mmany), .int (zI mcur_28), .int (zI mst_28), .int (zI mtok_28), .int (zI mval_28), .ref mQnow, .ref mQfresh, .ref mQwas, .int (zI macts), .ref mQisKept, .ref mQkept, .ref mQheard, .ref mQnumber, .ref mQlowUp, .ref mQlowDown, .ref mQhighUp, .ref mQhighDown, .int (zI mlev), .ref mQseen, .int (zI memp), .ref mQfirst], eA mQtext (cy 0) 100 mText, eA mQfresh (cy 0) 11 mFresh_28] := hD.sub [0, 1, 2] rfl rfl
      refine zz_if_eq (tgt := 38) hx hb dX7_readOne_31 (by decide) hf (fun hc hf => ?_) (fun hc hf => ?_)
      · refine lv_iconst (v := zI 0) hx hb dX7_readOne_38 rfl ?_
        refine lv_istore_n (lv' := [(2, .int (zI 0)), (0, .ref mO), (1, .int (zI p1))]) hx hb dX7_readOne_39 rfl hl (by decide) rfl (fun ls hl => ?_)
        refine lv_iload_n hx hb dX7_readOne_40 rfl (lv_at hl 0 rfl) ?_
        refine lv_if_ne (tgt := 46) hx hb dX7_readOne_41 (by decide) (fun hc => absurd hc (by decide)) (fun hc => ?_)
        refine lv_iconst (v := zI 0) hx hb dX7_readOne_44 rfl ?_
        have hf := zq_some hf
        cases hf
        exact W.zret hx hb hr rfl (fun t ht hW => ⟨⟨_, (), rfl, rfl, by rw [ht]; exact hP, hD⟩, hS.F ht⟩) hS.2.2 dX7_readOne_45
      · refine lv_iconst (v := zI 1) hx hb dX7_readOne_34 rfl ?_
        refine lv_goto (tgt := 39) hx hb dX7_readOne_35 (by decide) ?_
        refine lv_istore_n (lv' := [(2, .int (zI 1)), (0, .ref mO), (1, .int (zI p1))]) hx hb dX7_readOne_39 rfl hl (by decide) rfl (fun ls hl => ?_)
        refine lv_iload_n hx hb dX7_readOne_40 rfl (lv_at hl 0 rfl) ?_
        refine lv_if_ne (tgt := 46) hx hb dX7_readOne_41 (by decide) (fun hc => ?_) (fun hc => absurd hc (by decide))
        refine lv_aload_n hx hb dX7_readOne_46 rfl (lv_at hl 1 rfl) ?_
        obtain ⟨⟨mcur_47, mst_47, mtok_47, mval_47⟩, hc47, hf⟩ := zq_bind hf
        refine zcallVv (wr := [eA mQfresh (cy 0) 11 mFresh_28]) (rest := []) ⟨hx, hb, hml, hown, hts⟩ (c_X7_next l D cy mO mQtext mQnow mQfresh mQwas mQisKept mQkept mQheard mQnumber mQlowUp mQlowDown mQhighUp mQhighDown mQseen mQfirst H.size mth mmany mcur_28 mst_28 mtok_28 mval_28 macts mlev memp mText hc47) (cwV 0 hts gX7_readOne_X7_next rfl rfl rfl (by decide +kernel) ⟨Nat.le_of_ble_eq_true rfl, Nat.le_of_ble_eq_true rfl⟩) hK hP hD hS hA [0, 1] [2] rfl rfl rfl rfl (by decide) (va_recv hK.1 hP (ci := 6) (q0 := 0) rfl rfl) rfl hl.1 rfl (Nat.le_of_ble_eq_true rfl) dX7_readOne_47 ⟨Nat.zero_le _, Nat.zero_le _⟩ (fun H locs hP hD hS => ?_)
        have hP : va_P D vwCl [eO mO 6 [.int (zI mth), .ref mQtext, .int (zI mmany), .int (zI mcur_47), .int (zI mst_47), .int (zI mtok_47), .int (zI mval_47), .ref mQnow, .ref mQfresh, .ref mQwas, .int (zI macts), .ref mQisKept, .ref mQkept, .ref mQheard, .ref mQnumber, .ref mQlowUp, .ref mQlowDown, .ref mQhighUp, .ref mQhighDown, .int (zI mlev), .ref mQseen, .int (zI memp), .ref mQfirst], eA mQtext (cy 0) 100 mText, eA mQfresh (cy 0) 11 mFresh_28] H := hP.sub [1, 2, 0] rfl
        have hD : va_D A [eO mO 6 [.int (zI mth), .ref mQtext, .int (zI mmany), .int (zI mcur_47), .int (zI mst_47), .int (zI mtok_47), .int (zI mval_47), .ref mQnow, .ref mQfresh, .ref mQwas, .int (zI macts), .ref mQisKept, .ref mQkept, .ref mQheard, .ref mQnumber, .ref mQlowUp, .ref mQlowDown, .ref mQhighUp, .ref mQhighDown, .int (zI mlev), .ref mQseen, .int (zI memp), .ref mQfirst], eA mQtext (cy 0) 100 mText, eA mQfresh (cy 0) 11 mFresh_28] := hD.sub [1, 2, 0] rfl rfl
        refine lv_aload_n hx hb dX7_readOne_50 rfl (lv_at hl 1 rfl) ?_
        refine va_get (D := D) (ci := 6) (v := .int (zI mtok_47)) (C := RX7) (T := TX7) (N := 23) hx hb hts u_X7_readOne_X7 hown hK.1 hP 0 rfl rfl 5 (by decide) (hts _ m_X7_readOne_1) (fun _ h9 => h9) rfl dX7_readOne_51 ?_
        refine lv_iconst (v := zI 4) hx hb dX7_readOne_54 rfl ?_
        refine zz_icmp_eq (tgt := 60) hx hb dX7_readOne_55 (by decide) hf (fun hc hf => ?_) (fun hc hf => ?_)
        · refine lv_aload_n hx hb dX7_readOne_60 rfl (lv_at hl 1 rfl) ?_
          obtain ⟨⟨mcur_61, mst_61, mtok_61, mval_61⟩, hc61, hf⟩ := zq_bind hf
          refine zcallVv (wr := [eA mQfresh (cy 0) 11 mFresh_28]) (rest := []) ⟨hx, hb, hml, hown, hts⟩ (c_X7_next l D cy mO mQtext mQnow mQfresh mQwas mQisKept mQkept mQheard mQnumber mQlowUp mQlowDown mQhighUp mQhighDown mQseen mQfirst H.size mth mmany mcur_47 mst_47 mtok_47 mval_47 macts mlev memp mText hc61) (cwV 0 hts gX7_readOne_X7_next rfl rfl rfl (by decide +kernel) ⟨Nat.le_of_ble_eq_true rfl, Nat.le_of_ble_eq_true rfl⟩) hK hP hD hS hA [0, 1] [2] rfl rfl rfl rfl (by decide) (va_recv hK.1 hP (ci := 6) (q0 := 0) rfl rfl) rfl hl.1 rfl (Nat.le_of_ble_eq_true rfl) dX7_readOne_61 ⟨Nat.zero_le _, Nat.zero_le _⟩ (fun H locs hP hD hS => ?_)
          have hP : va_P D vwCl [eO mO 6 [.int (zI mth), .ref mQtext, .int (zI mmany), .int (zI mcur_61), .int (zI mst_61), .int (zI mtok_61), .int (zI mval_61), .ref mQnow, .ref mQfresh, .ref mQwas, .int (zI macts), .ref mQisKept, .ref mQkept, .ref mQheard, .ref mQnumber, .ref mQlowUp, .ref mQlowDown, .ref mQhighUp, .ref mQhighDown, .int (zI mlev), .ref mQseen, .int (zI memp), .ref mQfirst], eA mQtext (cy 0) 100 mText, eA mQfresh (cy 0) 11 mFresh_28] H := hP.sub [1, 2, 0] rfl
          have hD : va_D A [eO mO 6 [.int (zI mth), .ref mQtext, .int (zI mmany), .int (zI mcur_61), .int (zI mst_61), .int (zI mtok_61), .int (zI mval_61), .ref mQnow, .ref mQfresh, .ref mQwas, .int (zI macts), .ref mQisKept, .ref mQkept, .ref mQheard, .ref mQnumber, .ref mQlowUp, .ref mQlowDown, .ref mQhighUp, .ref mQhighDown, .int (zI mlev), .ref mQseen, .int (zI memp), .ref mQfirst], eA mQtext (cy 0) 100 mText, eA mQfresh (cy 0) 11 mFresh_28] := hD.sub [1, 2, 0] rfl rfl
          refine lv_iconst (v := zI 1) hx hb dX7_readOne_64 rfl ?_
          have hf := zq_some hf
          cases hf
          exact W.zret hx hb hr rfl (fun t ht hW => ⟨⟨_, (), rfl, rfl, by rw [ht]; exact hP, hD⟩, hS.F ht⟩) hS.2.2 dX7_readOne_65
        · refine lv_iconst (v := zI 0) hx hb dX7_readOne_58 rfl ?_
          have hf := zq_some hf
          cases hf
          exact W.zret hx hb hr rfl (fun t ht hW => ⟨⟨_, (), rfl, rfl, by rw [ht]; exact hP, hD⟩, hS.F ht⟩) hS.2.2 dX7_readOne_59
    · refine lv_iconst (v := zI 0) hx hb dX7_readOne_38 rfl ?_
      refine lv_istore_n (lv' := [(2, .int (zI 0)), (0, .ref mO), (1, .int (zI p1))]) hx hb dX7_readOne_39 rfl hl (by decide) rfl (fun ls hl => ?_)
      refine lv_iload_n hx hb dX7_readOne_40 rfl (lv_at hl 0 rfl) ?_
      refine lv_if_ne (tgt := 46) hx hb dX7_readOne_41 (by decide) (fun hc => absurd hc (by decide)) (fun hc => ?_)
      refine lv_iconst (v := zI 0) hx hb dX7_readOne_44 rfl ?_
      have hf := zq_some hf
      cases hf
      exact W.zret hx hb hr rfl (fun t ht hW => ⟨⟨_, (), rfl, rfl, by rw [ht]; exact hP, hD⟩, hS.F ht⟩) hS.2.2 dX7_readOne_45
    )
  unfold f_X7_readOne at hf
  refine lv_aload_n hx hb dX7_readOne_0 rfl (lv_at hl 0 rfl) ?_
  refine va_get (D := D) (ci := 6) (v := .int (zI mtok)) (C := RX7) (T := TX7) (N := 23) hx hb hts u_X7_readOne_X7 hown hK.1 hP 0 rfl rfl 5 (by decide) (hts _ m_X7_readOne_1) (fun _ h9 => h9) rfl dX7_readOne_1 ?_
  refine lv_iconst (v := zI 1) hx hb dX7_readOne_4 rfl ?_
  refine zz_icmp_ne (tgt := 19) hx hb dX7_readOne_5 (by decide) hf (fun hc hf => ?_) (fun hc hf => ?_)
  · refine lv_iload_n hx hb dX7_readOne_8 rfl (lv_at hl 1 rfl) ?_
    refine zz_if_ne (tgt := 19) hx hb dX7_readOne_9 (by decide) hf (fun hc hf => ?_) (fun hc hf => ?_)
    · refine lv_aload_n hx hb dX7_readOne_12 rfl (lv_at hl 0 rfl) ?_
      obtain ⟨⟨r13, mcur_13, mst_13, mtok_13, mval_13, mFresh_13⟩, hc13, hf⟩ := zq_bind hf
      refine zcallVi (wr := []) (rest := []) ⟨hx, hb, hml, hown, hts⟩ (c_X7_readBox l D cy mO mQtext mQnow mQfresh mQwas mQisKept mQkept mQheard mQnumber mQlowUp mQlowDown mQhighUp mQhighDown mQseen mQfirst s.heap.size mth mmany mcur mst mtok mval macts mlev memp mText mFresh hc13) (cwV 0 hts gX7_readOne_X7_readBox rfl rfl rfl (by decide +kernel) ⟨Nat.le_of_ble_eq_true rfl, Nat.le_of_ble_eq_true rfl⟩) hK hP hD hS hA [0, 1, 2] [] rfl rfl rfl rfl (by decide) (va_recv hK.1 hP (ci := 6) (q0 := 0) rfl rfl) rfl hl.1 rfl (Nat.le_of_ble_eq_true rfl) dX7_readOne_13 ⟨Nat.zero_le _, Nat.zero_le _⟩ (fun H locs hP hD hS => ?_)
      have hP : va_P D vwCl [eO mO 6 [.int (zI mth), .ref mQtext, .int (zI mmany), .int (zI mcur_13), .int (zI mst_13), .int (zI mtok_13), .int (zI mval_13), .ref mQnow, .ref mQfresh, .ref mQwas, .int (zI macts), .ref mQisKept, .ref mQkept, .ref mQheard, .ref mQnumber, .ref mQlowUp, .ref mQlowDown, .ref mQhighUp, .ref mQhighDown, .int (zI mlev), .ref mQseen, .int (zI memp), .ref mQfirst], eA mQtext (cy 0) 100 mText, eA mQfresh (cy 0) 11 mFresh_13] H := hP.sub [0, 1, 2] rfl
      have hD : va_D A [eO mO 6 [.int (zI mth), .ref mQtext, .int (zI mmany), .int (zI mcur_13), .int (zI mst_13), .int (zI mtok_13), .int (zI mval_13), .ref mQnow, .ref mQfresh, .ref mQwas, .int (zI macts), .ref mQisKept, .ref mQkept, .ref mQheard, .ref mQnumber, .ref mQlowUp, .ref mQlowDown, .ref mQhighUp, .ref mQhighDown, .int (zI mlev), .ref mQseen, .int (zI memp), .ref mQfirst], eA mQtext (cy 0) 100 mText, eA mQfresh (cy 0) 11 mFresh_13] := hD.sub [0, 1, 2] rfl rfl
      refine lv_goto (tgt := 39) hx hb dX7_readOne_16 (by decide) ?_
      refine lv_istore_n (lv' := [(2, .int (zI r13)), (0, .ref mO), (1, .int (zI p1))]) hx hb dX7_readOne_39 rfl hl (by decide) rfl (fun ls hl => ?_)
      refine lv_iload_n hx hb dX7_readOne_40 rfl (lv_at hl 0 rfl) ?_
      refine zz_if_ne (tgt := 46) hx hb dX7_readOne_41 (by decide) hf (fun hc hf => ?_) (fun hc hf => ?_)
      · refine lv_iconst (v := zI 0) hx hb dX7_readOne_44 rfl ?_
        have hf := zq_some hf
        cases hf
        exact W.zret hx hb hr rfl (fun t ht hW => ⟨⟨_, (), rfl, rfl, by rw [ht]; exact hP, hD⟩, hS.F ht⟩) hS.2.2 dX7_readOne_45
      · refine lv_aload_n hx hb dX7_readOne_46 rfl (lv_at hl 1 rfl) ?_
        obtain ⟨⟨mcur_47, mst_47, mtok_47, mval_47⟩, hc47, hf⟩ := zq_bind hf
        refine zcallVv (wr := [eA mQfresh (cy 0) 11 mFresh_13]) (rest := []) ⟨hx, hb, hml, hown, hts⟩ (c_X7_next l D cy mO mQtext mQnow mQfresh mQwas mQisKept mQkept mQheard mQnumber mQlowUp mQlowDown mQhighUp mQhighDown mQseen mQfirst H.size mth mmany mcur_13 mst_13 mtok_13 mval_13 macts mlev memp mText hc47) (cwV 0 hts gX7_readOne_X7_next rfl rfl rfl (by decide +kernel) ⟨Nat.le_of_ble_eq_true rfl, Nat.le_of_ble_eq_true rfl⟩) hK hP hD hS hA [0, 1] [2] rfl rfl rfl rfl (by decide) (va_recv hK.1 hP (ci := 6) (q0 := 0) rfl rfl) rfl hl.1 rfl (Nat.le_of_ble_eq_true rfl) dX7_readOne_47 ⟨Nat.zero_le _, Nat.zero_le _⟩ (fun H locs hP hD hS => ?_)
        have hP : va_P D vwCl [eO mO 6 [.int (zI mth), .ref mQtext, .int (zI mmany), .int (zI mcur_47), .int (zI mst_47), .int (zI mtok_47), .int (zI mval_47), .ref mQnow, .ref mQfresh, .ref mQwas, .int (zI macts), .ref mQisKept, .ref mQkept, .ref mQheard, .ref mQnumber, .ref mQlowUp, .ref mQlowDown, .ref mQhighUp, .ref mQhighDown, .int (zI mlev), .ref mQseen, .int (zI memp), .ref mQfirst], eA mQtext (cy 0) 100 mText, eA mQfresh (cy 0) 11 mFresh_13] H := hP.sub [1, 2, 0] rfl
        have hD : va_D A [eO mO 6 [.int (zI mth), .ref mQtext, .int (zI mmany), .int (zI mcur_47), .int (zI mst_47), .int (zI mtok_47), .int (zI mval_47), .ref mQnow, .ref mQfresh, .ref mQwas, .int (zI macts), .ref mQisKept, .ref mQkept, .ref mQheard, .ref mQnumber, .ref mQlowUp, .ref mQlowDown, .ref mQhighUp, .ref mQhighDown, .int (zI mlev), .ref mQseen, .int (zI memp), .ref mQfirst], eA mQtext (cy 0) 100 mText, eA mQfresh (cy 0) 11 mFresh_13] := hD.sub [1, 2, 0] rfl rfl
        refine lv_aload_n hx hb dX7_readOne_50 rfl (lv_at hl 1 rfl) ?_
        refine va_get (D := D) (ci := 6) (v := .int (zI mtok_47)) (C := RX7) (T := TX7) (N := 23) hx hb hts u_X7_readOne_X7 hown hK.1 hP 0 rfl rfl 5 (by decide) (hts _ m_X7_readOne_1) (fun _ h9 => h9) rfl dX7_readOne_51 ?_
        refine lv_iconst (v := zI 4) hx hb dX7_readOne_54 rfl ?_
        refine zz_icmp_eq (tgt := 60) hx hb dX7_readOne_55 (by decide) hf (fun hc hf => ?_) (fun hc hf => ?_)
        · refine lv_aload_n hx hb dX7_readOne_60 rfl (lv_at hl 1 rfl) ?_
          obtain ⟨⟨mcur_61, mst_61, mtok_61, mval_61⟩, hc61, hf⟩ := zq_bind hf
          refine zcallVv (wr := [eA mQfresh (cy 0) 11 mFresh_13]) (rest := []) ⟨hx, hb, hml, hown, hts⟩ (c_X7_next l D cy mO mQtext mQnow mQfresh mQwas mQisKept mQkept mQheard mQnumber mQlowUp mQlowDown mQhighUp mQhighDown mQseen mQfirst H.size mth mmany mcur_47 mst_47 mtok_47 mval_47 macts mlev memp mText hc61) (cwV 0 hts gX7_readOne_X7_next rfl rfl rfl (by decide +kernel) ⟨Nat.le_of_ble_eq_true rfl, Nat.le_of_ble_eq_true rfl⟩) hK hP hD hS hA [0, 1] [2] rfl rfl rfl rfl (by decide) (va_recv hK.1 hP (ci := 6) (q0 := 0) rfl rfl) rfl hl.1 rfl (Nat.le_of_ble_eq_true rfl) dX7_readOne_61 ⟨Nat.zero_le _, Nat.zero_le _⟩ (fun H locs hP hD hS => ?_)
          have hP : va_P D vwCl [eO mO 6 [.int (zI mth), .ref mQtext, .int (zI mmany), .int (zI mcur_61), .int (zI mst_61), .int (zI mtok_61), .int (zI mval_61), .ref mQnow, .ref mQfresh, .ref mQwas, .int (zI macts), .ref mQisKept, .ref mQkept, .ref mQheard, .ref mQnumber, .ref mQlowUp, .ref mQlowDown, .ref mQhighUp, .ref mQhighDown, .int (zI mlev), .ref mQseen, .int (zI memp), .ref mQfirst], eA mQtext (cy 0) 100 mText, eA mQfresh (cy 0) 11 mFresh_13] H := hP.sub [1, 2, 0] rfl
          have hD : va_D A [eO mO 6 [.int (zI mth), .ref mQtext, .int (zI mmany), .int (zI mcur_61), .int (zI mst_61), .int (zI mtok_61), .int (zI mval_61), .ref mQnow, .ref mQfresh, .ref mQwas, .int (zI macts), .ref mQisKept, .ref mQkept, .ref mQheard, .ref mQnumber, .ref mQlowUp, .ref mQlowDown, .ref mQhighUp, .ref mQhighDown, .int (zI mlev), .ref mQseen, .int (zI memp), .ref mQfirst], eA mQtext (cy 0) 100 mText, eA mQfresh (cy 0) 11 mFresh_13] := hD.sub [1, 2, 0] rfl rfl
          refine lv_iconst (v := zI 1) hx hb dX7_readOne_64 rfl ?_
          have hf := zq_some hf
          cases hf
          exact W.zret hx hb hr rfl (fun t ht hW => ⟨⟨_, (), rfl, rfl, by rw [ht]; exact hP, hD⟩, hS.F ht⟩) hS.2.2 dX7_readOne_65
        · refine lv_iconst (v := zI 0) hx hb dX7_readOne_58 rfl ?_
          have hf := zq_some hf
          cases hf
          exact W.zret hx hb hr rfl (fun t ht hW => ⟨⟨_, (), rfl, rfl, by rw [ht]; exact hP, hD⟩, hS.F ht⟩) hS.2.2 dX7_readOne_59
    · exact key _ (zq_eq hf) _ _ _ hP hD hS (lv_sub hl [0, 1] rfl)
  · exact key _ (zq_eq hf) _ _ _ hP hD hS (lv_sub hl [0, 1] rfl)

noncomputable def st_X7_heard (mText : Nat → Int) : (Int × Int × Int × Int × Int × Int × Int × Int × Int × (Nat → Int) × (Nat → Int) × (Nat → Int)) → Option ((Int × Int × Int × Int × Int × Int × Int × Int × Int × (Nat → Int) × (Nat → Int) × (Nat → Int)) ⊕ (Int × Int × Int × Int × Int × Int × Int × Int × (Nat → Int) × (Nat → Int) × (Nat → Int))) := fun (x1, x2, mth, mmany, mcur, mst, mtok, mval, macts, mNow, mFresh, mIsK) =>
  gd (zR mtok) <|
  if mtok = 0 then
    (f_X7_copyAll mFresh mNow).bind fun tR_119 =>
    some (.inr (x1, mth, 0, mcur, mst, mtok, mval, 0, tR_119, mFresh, (zup (zup mIsK 0 0) 1 0)))
  else
    gd (zR mtok ∧ zR 1) <|
    if mtok = 1 then
      (f_X7_readOne x2 mmany mcur mst mtok mval mText mFresh).bind fun (r72, mcur_72, mst_72, mtok_72, mval_72, mFresh_72) =>
      gd (zR r72) <|
      if r72 = 0 then
        some (.inr (((-10) - mst_72), mth, mmany, mcur_72, mst_72, mtok_72, mval_72, macts, mNow, mFresh_72, mIsK))
      else
        gd (zR x2) <|
        if x2 = 0 then
          some (.inl ((x1 + 1), 1, mth, mmany, mcur_72, mst_72, mtok_72, mval_72, macts, mNow, mFresh_72, mIsK))
        else
          some (.inl ((x1 + 1), 1, mth, mmany, mcur_72, mst_72, mtok_72, mval_72, macts, mNow, mFresh_72, mIsK))
    else
      (f_X7_readOne x2 mmany mcur mst mtok mval mText mFresh).bind fun (r72, mcur_72, mst_72, mtok_72, mval_72, mFresh_72) =>
      gd (zR r72) <|
      if r72 = 0 then
        some (.inr (((-10) - mst_72), mth, mmany, mcur_72, mst_72, mtok_72, mval_72, macts, mNow, mFresh_72, mIsK))
      else
        gd (zR x2) <|
        if x2 = 0 then
          some (.inl ((x1 + 1), 0, mth, mmany, mcur_72, mst_72, mtok_72, mval_72, macts, mNow, mFresh_72, mIsK))
        else
          some (.inl ((x1 + 1), 1, mth, mmany, mcur_72, mst_72, mtok_72, mval_72, macts, mNow, mFresh_72, mIsK))
noncomputable def f_X7_heard (mmany : Int) (mst : Int) (mtok : Int) (mval : Int) (macts : Int) (mText : Nat → Int) (mNow : Nat → Int) (mFresh : Nat → Int) (mIsK : Nat → Int) : Option (Int × Int × Int × Int × Int × Int × Int × Int × (Nat → Int) × (Nat → Int) × (Nat → Int)) :=
  (f_X7_next mmany 0 mst mtok mval mText).bind fun (mcur_46, mst_46, mtok_46, mval_46) =>
  zev (st_X7_heard mText) (0, 0, 0, mmany, mcur_46, mst_46, mtok_46, mval_46, macts, mNow, (zup (zup (zup (zup mFresh 0 0) 1 100) 2 200) 3 2), mIsK)
theorem m_X7_heard_1 : (.fieldLink RX7 1 "PulseTurnsModel" "thrown" "I" : Cond) ∈ wsX7_heard := List.mem_of_getElem? (i := 1) rfl
theorem m_X7_heard_2 : (.fieldLink RX7 20 "PulseTurnsModel" "cursor" "I" : Cond) ∈ wsX7_heard := List.mem_of_getElem? (i := 2) rfl
theorem m_X7_heard_3 : (.fieldLink RX7 49 "PulseTurnsModel" "fresh" "[I" : Cond) ∈ wsX7_heard := List.mem_of_getElem? (i := 3) rfl
theorem m_X7_heard_4 : (.fieldLink RX7 34 "PulseTurnsModel" "token" "I" : Cond) ∈ wsX7_heard := List.mem_of_getElem? (i := 4) rfl
theorem m_X7_heard_5 : (.fieldLink RX7 27 "PulseTurnsModel" "start" "I" : Cond) ∈ wsX7_heard := List.mem_of_getElem? (i := 5) rfl
theorem m_X7_heard_6 : (.fieldLink RX7 13 "PulseTurnsModel" "many" "I" : Cond) ∈ wsX7_heard := List.mem_of_getElem? (i := 6) rfl
theorem m_X7_heard_7 : (.fieldLink RX7 46 "PulseTurnsModel" "now" "[I" : Cond) ∈ wsX7_heard := List.mem_of_getElem? (i := 7) rfl
theorem m_X7_heard_8 : (.fieldLink RX7 116 "PulseTurnsModel" "acts" "I" : Cond) ∈ wsX7_heard := List.mem_of_getElem? (i := 8) rfl
theorem m_X7_heard_9 : (.fieldLink RX7 55 "PulseTurnsModel" "isKept" "[Z" : Cond) ∈ wsX7_heard := List.mem_of_getElem? (i := 9) rfl
theorem u_X7_heard_X7 : ∀ w ∈ wsX70, w ∈ wsX7_heard := fun w h => List.mem_cons_of_mem _ (List.mem_append_right _ h)
set_option maxRecDepth 100000 in
set_option maxHeartbeats 4000000 in
theorem c_X7_heard (l : Launch) (D : va_G) (cy : Nat → ClassId) (mO mQtext mQnow mQfresh mQwas mQisKept mQkept mQheard mQnumber mQlowUp mQlowDown mQhighUp mQhighDown mQseen mQfirst : Nat) (sz : Nat) (mth : Int) (mmany : Int) (mcur : Int) (mst : Int) (mtok : Int) (mval : Int) (macts : Int) (mlev : Int) (memp : Int) (mText : Nat → Int) (mNow : Nat → Int) (mFresh : Nat → Int) (mIsK : Nat → Int) {r : Int} {mth' : Int} {mmany' : Int} {mcur' : Int} {mst' : Int} {mtok' : Int} {mval' : Int} {macts' : Int} {mNow' : Nat → Int} {mFresh' : Nat → Int} {mIsK' : Nat → Int} (hf : f_X7_heard mmany mst mtok mval macts mText mNow mFresh mIsK = some (r, mth', mmany', mcur', mst', mtok', mval', macts', mNow', mFresh', mIsK')) : zMi l yX7_heard wsX7_heard ({ frames := 4, cells := 0, slots := 0, locals := 89 }) D cy sz [.ref mO] [eO mO 6 [.int (zI mth), .ref mQtext, .int (zI mmany), .int (zI mcur), .int (zI mst), .int (zI mtok), .int (zI mval), .ref mQnow, .ref mQfresh, .ref mQwas, .int (zI macts), .ref mQisKept, .ref mQkept, .ref mQheard, .ref mQnumber, .ref mQlowUp, .ref mQlowDown, .ref mQhighUp, .ref mQhighDown, .int (zI mlev), .ref mQseen, .int (zI memp), .ref mQfirst], eA mQtext (cy 0) 100 mText, eA mQnow (cy 0) 11 mNow, eA mQfresh (cy 0) 11 mFresh, eA mQisKept (cy 2) 2 mIsK] [eO mO 6 [.int (zI mth'), .ref mQtext, .int (zI mmany'), .int (zI mcur'), .int (zI mst'), .int (zI mtok'), .int (zI mval'), .ref mQnow, .ref mQfresh, .ref mQwas, .int (zI macts'), .ref mQisKept, .ref mQkept, .ref mQheard, .ref mQnumber, .ref mQlowUp, .ref mQlowDown, .ref mQhighUp, .ref mQhighDown, .int (zI mlev), .ref mQseen, .int (zI memp), .ref mQfirst], eA mQtext (cy 0) 100 mText, eA mQnow (cy 0) 11 mNow', eA mQfresh (cy 0) 11 mFresh', eA mQisKept (cy 2) 2 mIsK'] (zI r) := by
  refine Met.ofW (cc := cX7_heard) (maxL := 4) (ret := (some .int)) (by decide) rfl ?_
  intro p e s m args below meth c s₁ B hml hv
  obtain ⟨rfl, hsz, hP, hK, hD0⟩ := hv
  have hx := B.exec
  have hb := B.bytes
  have hr := B.returns
  have hts := atoms_spec (ws := wsX7_heard) B.pre
  have hown : s.vm.findClass RX7 = some m.cls := findClass_of_methodNamed B.named
  have hlocks := B.notSynchronized
  subst hsz
  have hD := hD0.self (sz := s.heap.size)
  generalize hAe : va_A [eO mO 6 [.int (zI mth), .ref mQtext, .int (zI mmany), .int (zI mcur), .int (zI mst), .int (zI mtok), .int (zI mval), .ref mQnow, .ref mQfresh, .ref mQwas, .int (zI macts), .ref mQisKept, .ref mQkept, .ref mQheard, .ref mQnumber, .ref mQlowUp, .ref mQlowDown, .ref mQhighUp, .ref mQhighDown, .int (zI mlev), .ref mQseen, .int (zI memp), .ref mQfirst], eA mQtext (cy 0) 100 mText, eA mQnow (cy 0) 11 mNow, eA mQfresh (cy 0) 11 mFresh, eA mQisKept (cy 2) 2 mIsK] s.heap.size = A at hD ⊢
  have hA : ∀ q : Nat, s.heap.size ≤ q → A q := fun q h => by rw [← hAe]; exact Or.inr h
  have hS : va_S A s.heap s.heap [] := va_S.rf
  have hl := lv_entry ([.ref mO]) (n := 4) (Nat.le_of_ble_eq_true rfl)
  rw [lg_entry_eq]
  generalize (lg_sl ([.ref mO]) ++ List.replicate (4 - (lg_sl ([.ref mO])).length) Slot.unset).toArray = ls at hl ⊢
  have hl : lv_has ls 4 [(0, .ref mO)] := hl
  have hf := zq_of hf
  have key := zloop (st := st_X7_heard mText) (res := (r, mth', mmany', mcur', mst', mtok', mval', macts', mNow', mFresh', mIsK')) (K := fun (x1, x2, mth, mmany, mcur, mst, mtok, mval, macts, mNow, mFresh, mIsK) => ∀ (H : Heap) (locs : List Loc) (ls : Array Slot), va_P D vwCl [eO mO 6 [.int (zI mth), .ref mQtext, .int (zI mmany), .int (zI mcur), .int (zI mst), .int (zI mtok), .int (zI mval), .ref mQnow, .ref mQfresh, .ref mQwas, .int (zI macts), .ref mQisKept, .ref mQkept, .ref mQheard, .ref mQnumber, .ref mQlowUp, .ref mQlowDown, .ref mQhighUp, .ref mQhighDown, .int (zI mlev), .ref mQseen, .int (zI memp), .ref mQfirst], eA mQtext (cy 0) 100 mText, eA mQnow (cy 0) 11 mNow, eA mQfresh (cy 0) 11 mFresh, eA mQisKept (cy 2) 2 mIsK] H → va_D A [eO mO 6 [.int (zI mth), .ref mQtext, .int (zI mmany), .int (zI mcur), .int (zI mst), .int (zI mtok), .int (zI mval), .ref mQnow, .ref mQfresh, .ref mQwas, .int (zI macts), .ref mQisKept, .ref mQkept, .ref mQheard, .ref mQnumber, .ref mQlowUp, .ref mQlowDown, .ref mQhighUp, .ref mQhighDown, .int (zI mlev), .ref mQseen, .int (zI memp), .ref mQfirst], eA mQtext (cy 0) 100 mText, eA mQnow (cy 0) 11 mNow, eA mQfresh (cy 0) 11 mFresh, eA mQisKept (cy 2) 2 mIsK] → va_S A s.heap H locs → lv_has ls 4 [(0, .ref mO), (1, .int (zI x1)), (2, .int (zI x2))] → zGi p l e wsX7_heard ({ frames := 4, cells := 0, slots := 0, locals := 89 }) s m [.ref mO] below meth c A D [eO mO 6 [.int (zI mth'), .ref mQtext, .int (zI mmany'), .int (zI mcur'), .int (zI mst'), .int (zI mtok'), .int (zI mval'), .ref mQnow, .ref mQfresh, .ref mQwas, .int (zI macts'), .ref mQisKept, .ref mQkept, .ref mQheard, .ref mQnumber, .ref mQlowUp, .ref mQlowDown, .ref mQhighUp, .ref mQhighDown, .int (zI mlev), .ref mQseen, .int (zI memp), .ref mQfirst], eA mQtext (cy 0) 100 mText, eA mQnow (cy 0) 11 mNow', eA mQfresh (cy 0) 11 mFresh', eA mQisKept (cy 2) 2 mIsK'] (zI r) H locs (F0 m 49 ls [])) (by
    rintro ⟨x1, x2, mth, mmany, mcur, mst, mtok, mval, macts, mNow, mFresh, mIsK⟩ hf
    intro H locs ls hP hD hS hl
    unfold st_X7_heard at hf
    try dsimp only at hf
    refine lv_aload_n hx hb dX7_heard_49 rfl (lv_at hl 0 rfl) ?_
    refine va_get (D := D) (ci := 6) (v := .int (zI mtok)) (C := RX7) (T := TX7) (N := 23) hx hb hts u_X7_heard_X7 hown hK.1 hP 0 rfl rfl 5 (by decide) (hts _ m_X7_heard_4) (fun _ h9 => h9) rfl dX7_heard_50 ?_
    refine zz_if_eq (tgt := 106) hx hb dX7_heard_53 (by decide) hf (fun hc hf => ?_) (fun hc hf => ?_)
    · refine lv_aload_n hx hb dX7_heard_106 rfl (lv_at hl 0 rfl) ?_
      refine lv_iconst (v := zI 0) hx hb dX7_heard_107 rfl ?_
      refine va_put (D := D) (ci := 6) (v := .int (zI 0)) (ty := .int) (C := RX7) (T := TX7) (N := 23) hx hb hts u_X7_heard_X7 tyX7 tyX7_ok nmX7 hown hK.1 hP hD hS 0 rfl rfl 2 (by decide) (hts _ m_X7_heard_6) (fun _ h9 => h9) rfl (tyX7_ok 2 (by decide)) rfl rfl (Nat.le_of_ble_eq_true rfl) dX7_heard_108 (fun H locs hP hD hS => ?_)
      have hP : va_P D vwCl [eO mO 6 [.int (zI mth), .ref mQtext, .int (zI 0), .int (zI mcur), .int (zI mst), .int (zI mtok), .int (zI mval), .ref mQnow, .ref mQfresh, .ref mQwas, .int (zI macts), .ref mQisKept, .ref mQkept, .ref mQheard, .ref mQnumber, .ref mQlowUp, .ref mQlowDown, .ref mQhighUp, .ref mQhighDown, .int (zI mlev), .ref mQseen, .int (zI memp), .ref mQfirst], eA mQtext (cy 0) 100 mText, eA mQnow (cy 0) 11 mNow, eA mQfresh (cy 0) 11 mFresh, eA mQisKept (cy 2) 2 mIsK] H := hP
      have hD : va_D A [eO mO 6 [.int (zI mth), .ref mQtext, .int (zI 0), .int (zI mcur), .int (zI mst), .int (zI mtok), .int (zI mval), .ref mQnow, .ref mQfresh, .ref mQwas, .int (zI macts), .ref mQisKept, .ref mQkept, .ref mQheard, .ref mQnumber, .ref mQlowUp, .ref mQlowDown, .ref mQhighUp, .ref mQhighDown, .int (zI mlev), .ref mQseen, .int (zI memp), .ref mQfirst], eA mQtext (cy 0) 100 mText, eA mQnow (cy 0) 11 mNow, eA mQfresh (cy 0) 11 mFresh, eA mQisKept (cy 2) 2 mIsK] := hD
      refine lv_aload_n hx hb dX7_heard_111 rfl (lv_at hl 0 rfl) ?_
      refine va_get (D := D) (ci := 6) (v := .ref mQfresh) (C := RX7) (T := TX7) (N := 23) hx hb hts u_X7_heard_X7 hown hK.1 hP 0 rfl rfl 8 (by decide) (hts _ m_X7_heard_3) (fun _ h9 => h9) rfl dX7_heard_112 ?_
      refine lv_aload_n hx hb dX7_heard_115 rfl (lv_at hl 0 rfl) ?_
      refine va_get (D := D) (ci := 6) (v := .ref mQnow) (C := RX7) (T := TX7) (N := 23) hx hb hts u_X7_heard_X7 hown hK.1 hP 0 rfl rfl 7 (by decide) (hts _ m_X7_heard_7) (fun _ h9 => h9) rfl dX7_heard_116 ?_
      obtain ⟨tR_119, hc119, hf⟩ := zq_bind hf
      refine zcallSv (wr := [eO mO 6 [.int (zI mth), .ref mQtext, .int (zI 0), .int (zI mcur), .int (zI mst), .int (zI mtok), .int (zI mval), .ref mQnow, .ref mQfresh, .ref mQwas, .int (zI macts), .ref mQisKept, .ref mQkept, .ref mQheard, .ref mQnumber, .ref mQlowUp, .ref mQlowDown, .ref mQhighUp, .ref mQhighDown, .int (zI mlev), .ref mQseen, .int (zI memp), .ref mQfirst], eA mQtext (cy 0) 100 mText, eA mQisKept (cy 2) 2 mIsK]) (rest := []) ⟨hx, hb, hml, hown, hts⟩ (c_X7_copyAll l D cy mQfresh mQnow H.size mFresh mNow hc119) (va_cwS 2 hts gX7_heard_X7_copyAll rfl rfl rfl (by decide +kernel) ⟨Nat.le_of_ble_eq_true rfl, Nat.le_of_ble_eq_true rfl⟩) hK hP hD hS hA [3, 2] [0, 1, 4] rfl rfl rfl rfl (by decide) rfl hl.1 rfl (Nat.le_of_ble_eq_true rfl) dX7_heard_119 ⟨Nat.zero_le _, Nat.zero_le _⟩ (fun H locs hP hD hS => ?_)
      have hP : va_P D vwCl [eO mO 6 [.int (zI mth), .ref mQtext, .int (zI 0), .int (zI mcur), .int (zI mst), .int (zI mtok), .int (zI mval), .ref mQnow, .ref mQfresh, .ref mQwas, .int (zI macts), .ref mQisKept, .ref mQkept, .ref mQheard, .ref mQnumber, .ref mQlowUp, .ref mQlowDown, .ref mQhighUp, .ref mQhighDown, .int (zI mlev), .ref mQseen, .int (zI memp), .ref mQfirst], eA mQtext (cy 0) 100 mText, eA mQnow (cy 0) 11 tR_119, eA mQfresh (cy 0) 11 mFresh, eA mQisKept (cy 2) 2 mIsK] H := hP.sub [0, 1, 4, 3, 2] rfl
      have hD : va_D A [eO mO 6 [.int (zI mth), .ref mQtext, .int (zI 0), .int (zI mcur), .int (zI mst), .int (zI mtok), .int (zI mval), .ref mQnow, .ref mQfresh, .ref mQwas, .int (zI macts), .ref mQisKept, .ref mQkept, .ref mQheard, .ref mQnumber, .ref mQlowUp, .ref mQlowDown, .ref mQhighUp, .ref mQhighDown, .int (zI mlev), .ref mQseen, .int (zI memp), .ref mQfirst], eA mQtext (cy 0) 100 mText, eA mQnow (cy 0) 11 tR_119, eA mQfresh (cy 0) 11 mFresh, eA mQisKept (cy 2) 2 mIsK] := hD.sub [0, 1, 4, 3, 2] rfl rfl
      refine lv_aload_n hx hb dX7_heard_122 rfl (lv_at hl 0 rfl) ?_
      refine lv_iconst (v := zI 0) hx hb dX7_heard_123 rfl ?_
      refine va_put (D := D) (ci := 6) (v := .int (zI 0)) (ty := .int) (C := RX7) (T := TX7) (N := 23) hx hb hts u_X7_heard_X7 tyX7 tyX7_ok nmX7 hown hK.1 hP hD hS 0 rfl rfl 10 (by decide) (hts _ m_X7_heard_8) (fun _ h9 => h9) rfl (tyX7_ok 10 (by decide)) rfl rfl (Nat.le_of_ble_eq_true rfl) dX7_heard_124 (fun H locs hP hD hS => ?_)
      have hP : va_P D vwCl [eO mO 6 [.int (zI mth), .ref mQtext, .int (zI 0), .int (zI mcur), .int (zI mst), .int (zI mtok), .int (zI mval), .ref mQnow, .ref mQfresh, .ref mQwas, .int (zI 0), .ref mQisKept, .ref mQkept, .ref mQheard, .ref mQnumber, .ref mQlowUp, .ref mQlowDown, .ref mQhighUp, .ref mQhighDown, .int (zI mlev), .ref mQseen, .int (zI memp), .ref mQfirst], eA mQtext (cy 0) 100 mText, eA mQnow (cy 0) 11 tR_119, eA mQfresh (cy 0) 11 mFresh, eA mQisKept (cy 2) 2 mIsK] H := hP
      have hD : va_D A [eO mO 6 [.int (zI mth), .ref mQtext, .int (zI 0), .int (zI mcur), .int (zI mst), .int (zI mtok), .int (zI mval), .ref mQnow, .ref mQfresh, .ref mQwas, .int (zI 0), .ref mQisKept, .ref mQkept, .ref mQheard, .ref mQnumber, .ref mQlowUp, .ref mQlowDown, .ref mQhighUp, .ref mQhighDown, .int (zI mlev), .ref mQseen, .int (zI memp), .ref mQfirst], eA mQtext (cy 0) 100 mText, eA mQnow (cy 0) 11 tR_119, eA mQfresh (cy 0) 11 mFresh, eA mQisKept (cy 2) 2 mIsK] := hD
      refine lv_aload_n hx hb dX7_heard_127 rfl (lv_at hl 0 rfl) ?_
      refine va_get (D := D) (ci := 6) (v := .ref mQisKept) (C := RX7) (T := TX7) (N := 23) hx hb hts u_X7_heard_X7 hown hK.1 hP 0 rfl rfl 11 (by decide) (hts _ m_X7_heard_9) (fun _ h9 => h9) rfl dX7_heard_128 ?_
      refine lv_iconst (v := zI 0) hx hb dX7_heard_131 rfl ?_
      refine lv_iconst (v := zI 0) hx hb dX7_heard_132 rfl ?_
      refine zz_zast (i := 0) hx hb hK hP hD hS 4 rfl (Nat.le_of_ble_eq_true rfl) (by decide) (by decide) dX7_heard_133 (fun H locs hP hD hS => ?_)
      have hP : va_P D vwCl [eO mO 6 [.int (zI mth), .ref mQtext, .int (zI 0), .int (zI mcur), .int (zI mst), .int (zI mtok), .int (zI mval), .ref mQnow, .ref mQfresh, .ref mQwas, .int (zI 0), .ref mQisKept, .ref mQkept, .ref mQheard, .ref mQnumber, .ref mQlowUp, .ref mQlowDown, .ref mQhighUp, .ref mQhighDown, .int (zI mlev), .ref mQseen, .int (zI memp), .ref mQfirst], eA mQtext (cy 0) 100 mText, eA mQnow (cy 0) 11 tR_119, eA mQfresh (cy 0) 11 mFresh, eA mQisKept (cy 2) 2 (zup mIsK 0 0)] H := hP
      have hD : va_D A [eO mO 6 [.int (zI mth), .ref mQtext, .int (zI 0), .int (zI mcur), .int (zI mst), .int (zI mtok), .int (zI mval), .ref mQnow, .ref mQfresh, .ref mQwas, .int (zI 0), .ref mQisKept, .ref mQkept, .ref mQheard, .ref mQnumber, .ref mQlowUp, .ref mQlowDown, .ref mQhighUp, .ref mQhighDown, .int (zI mlev), .ref mQseen, .int (zI memp), .ref mQfirst], eA mQtext (cy 0) 100 mText, eA mQnow (cy 0) 11 tR_119, eA mQfresh (cy 0) 11 mFresh, eA mQisKept (cy 2) 2 (zup mIsK 0 0)] := hD
      refine lv_aload_n hx hb dX7_heard_134 rfl (lv_at hl 0 rfl) ?_
      refine va_get (D := D) (ci := 6) (v := .ref mQisKept) (C := RX7) (T := TX7) (N := 23) hx hb hts u_X7_heard_X7 hown hK.1 hP 0 rfl rfl 11 (by decide) (hts _ m_X7_heard_9) (fun _ h9 => h9) rfl dX7_heard_135 ?_
      refine lv_iconst (v := zI 1) hx hb dX7_heard_138 rfl ?_
      refine lv_iconst (v := zI 0) hx hb dX7_heard_139 rfl ?_
      refine zz_zast (i := 1) hx hb hK hP hD hS 4 rfl (Nat.le_of_ble_eq_true rfl) (by decide) (by decide) dX7_heard_140 (fun H locs hP hD hS => ?_)
      have hP : va_P D vwCl [eO mO 6 [.int (zI mth), .ref mQtext, .int (zI 0), .int (zI mcur), .int (zI mst), .int (zI mtok), .int (zI mval), .ref mQnow, .ref mQfresh, .ref mQwas, .int (zI 0), .ref mQisKept, .ref mQkept, .ref mQheard, .ref mQnumber, .ref mQlowUp, .ref mQlowDown, .ref mQhighUp, .ref mQhighDown, .int (zI mlev), .ref mQseen, .int (zI memp), .ref mQfirst], eA mQtext (cy 0) 100 mText, eA mQnow (cy 0) 11 tR_119, eA mQfresh (cy 0) 11 mFresh, eA mQisKept (cy 2) 2 (zup (zup mIsK 0 0) 1 0)] H := hP
      have hD : va_D A [eO mO 6 [.int (zI mth), .ref mQtext, .int (zI 0), .int (zI mcur), .int (zI mst), .int (zI mtok), .int (zI mval), .ref mQnow, .ref mQfresh, .ref mQwas, .int (zI 0), .ref mQisKept, .ref mQkept, .ref mQheard, .ref mQnumber, .ref mQlowUp, .ref mQlowDown, .ref mQhighUp, .ref mQhighDown, .int (zI mlev), .ref mQseen, .int (zI memp), .ref mQfirst], eA mQtext (cy 0) 100 mText, eA mQnow (cy 0) 11 tR_119, eA mQfresh (cy 0) 11 mFresh, eA mQisKept (cy 2) 2 (zup (zup mIsK 0 0) 1 0)] := hD
      refine lv_iload_n hx hb dX7_heard_141 rfl (lv_at hl 1 rfl) ?_
      have hf := zq_some hf
      cases hf
      exact W.iret hx hb hr (fun t ht hW => ⟨⟨_, (), rfl, rfl, by rw [ht]; exact hP, hD⟩, hS.F ht⟩) hS.2.2 dX7_heard_142
    · refine lv_aload_n hx hb dX7_heard_56 rfl (lv_at hl 0 rfl) ?_
      refine va_get (D := D) (ci := 6) (v := .int (zI mtok)) (C := RX7) (T := TX7) (N := 23) hx hb hts u_X7_heard_X7 hown hK.1 hP 0 rfl rfl 5 (by decide) (hts _ m_X7_heard_4) (fun _ h9 => h9) rfl dX7_heard_57 ?_
      refine lv_iconst (v := zI 1) hx hb dX7_heard_60 rfl ?_
      refine zz_icmp_ne (tgt := 68) hx hb dX7_heard_61 (by decide) hf (fun hc hf => ?_) (fun hc hf => ?_)
      · refine lv_iconst (v := zI 1) hx hb dX7_heard_64 rfl ?_
        refine lv_goto (tgt := 69) hx hb dX7_heard_65 (by decide) ?_
        refine lv_istore_n (lv' := [(3, .int (zI 1)), (0, .ref mO), (1, .int (zI x1)), (2, .int (zI x2))]) hx hb dX7_heard_69 rfl hl (by decide) rfl (fun ls hl => ?_)
        refine lv_aload_n hx hb dX7_heard_70 rfl (lv_at hl 1 rfl) ?_
        refine lv_iload_n hx hb dX7_heard_71 rfl (lv_at hl 3 rfl) ?_
        obtain ⟨⟨r72, mcur_72, mst_72, mtok_72, mval_72, mFresh_72⟩, hc72, hf⟩ := zq_bind hf
        refine zcallVi (wr := [eA mQnow (cy 0) 11 mNow, eA mQisKept (cy 2) 2 mIsK]) (rest := []) ⟨hx, hb, hml, hown, hts⟩ (c_X7_readOne l D cy mO mQtext mQnow mQfresh mQwas mQisKept mQkept mQheard mQnumber mQlowUp mQlowDown mQhighUp mQhighDown mQseen mQfirst H.size x2 mth mmany mcur mst mtok mval macts mlev memp mText mFresh hc72) (cwV 1 hts gX7_heard_X7_readOne rfl rfl rfl (by decide +kernel) ⟨Nat.le_of_ble_eq_true rfl, Nat.le_of_ble_eq_true rfl⟩) hK hP hD hS hA [0, 1, 3] [2, 4] rfl rfl rfl rfl (by decide) (va_recv hK.1 hP (ci := 6) (q0 := 0) rfl rfl) rfl hl.1 rfl (Nat.le_of_ble_eq_true rfl) dX7_heard_72 ⟨Nat.zero_le _, Nat.zero_le _⟩ (fun H locs hP hD hS => ?_)
        have hP : va_P D vwCl [eO mO 6 [.int (zI mth), .ref mQtext, .int (zI mmany), .int (zI mcur_72), .int (zI mst_72), .int (zI mtok_72), .int (zI mval_72), .ref mQnow, .ref mQfresh, .ref mQwas, .int (zI macts), .ref mQisKept, .ref mQkept, .ref mQheard, .ref mQnumber, .ref mQlowUp, .ref mQlowDown, .ref mQhighUp, .ref mQhighDown, .int (zI mlev), .ref mQseen, .int (zI memp), .ref mQfirst], eA mQtext (cy 0) 100 mText, eA mQnow (cy 0) 11 mNow, eA mQfresh (cy 0) 11 mFresh_72, eA mQisKept (cy 2) 2 mIsK] H := hP.sub [2, 3, 0, 4, 1] rfl
        have hD : va_D A [eO mO 6 [.int (zI mth), .ref mQtext, .int (zI mmany), .int (zI mcur_72), .int (zI mst_72), .int (zI mtok_72), .int (zI mval_72), .ref mQnow, .ref mQfresh, .ref mQwas, .int (zI macts), .ref mQisKept, .ref mQkept, .ref mQheard, .ref mQnumber, .ref mQlowUp, .ref mQlowDown, .ref mQhighUp, .ref mQhighDown, .int (zI mlev), .ref mQseen, .int (zI memp), .ref mQfirst], eA mQtext (cy 0) 100 mText, eA mQnow (cy 0) 11 mNow, eA mQfresh (cy 0) 11 mFresh_72, eA mQisKept (cy 2) 2 mIsK] := hD.sub [2, 3, 0, 4, 1] rfl rfl
        refine zz_if_ne (tgt := 86) hx hb dX7_heard_75 (by decide) hf (fun hc hf => ?_) (fun hc hf => ?_)
        · refine lv_bipush (v := zI (-10)) hx hb dX7_heard_78 (by decide) ?_
          refine lv_aload_n hx hb dX7_heard_80 rfl (lv_at hl 1 rfl) ?_
          refine va_get (D := D) (ci := 6) (v := .int (zI mst_72)) (C := RX7) (T := TX7) (N := 23) hx hb hts u_X7_heard_X7 hown hK.1 hP 0 rfl rfl 4 (by decide) (hts _ m_X7_heard_5) (fun _ h9 => h9) rfl dX7_heard_81 ?_
          refine zz_isub hx hb dX7_heard_84 ?_
          have hf := zq_some hf
          cases hf
          exact W.iret hx hb hr (fun t ht hW => ⟨⟨_, (), rfl, rfl, by rw [ht]; exact hP, hD⟩, hS.F ht⟩) hS.2.2 dX7_heard_85
        · refine lv_iload_n hx hb dX7_heard_86 rfl (lv_at hl 3 rfl) ?_
          refine zz_if_ne (tgt := 94) hx hb dX7_heard_87 (by decide) hf (fun hc hf => ?_) (fun hc hf => ?_)
          · refine lv_iload_n hx hb dX7_heard_90 rfl (lv_at hl 0 rfl) ?_
            refine lv_if_eq (tgt := 98) hx hb dX7_heard_91 (by decide) (fun hc => absurd hc (by decide)) (fun hc => ?_)
            refine lv_iconst (v := zI 1) hx hb dX7_heard_94 rfl ?_
            refine lv_goto (tgt := 99) hx hb dX7_heard_95 (by decide) ?_
            refine lv_istore_n (lv' := [(2, .int (zI 1)), (3, .int (zI 1)), (0, .ref mO), (1, .int (zI x1))]) hx hb dX7_heard_99 rfl hl (by decide) rfl (fun ls hl => ?_)
            refine lv_iinc (v := zI (x1 + 1)) (lv' := [(1, .int (zI (x1 + 1))), (2, .int (zI 1)), (3, .int (zI 1)), (0, .ref mO)]) hx hb dX7_heard_100 hl (k := 3) rfl (zI_add _ _) (by decide) rfl (fun ls hl => ?_)
            refine lv_goto (tgt := 49) hx hb dX7_heard_103 (by decide) ?_
            have hf := zq_some hf
            exact hf _ _ _ hP hD hS (lv_sub hl [3, 0, 1] rfl)
          · refine lv_iconst (v := zI 1) hx hb dX7_heard_94 rfl ?_
            refine lv_goto (tgt := 99) hx hb dX7_heard_95 (by decide) ?_
            refine lv_istore_n (lv' := [(2, .int (zI 1)), (3, .int (zI 1)), (0, .ref mO), (1, .int (zI x1))]) hx hb dX7_heard_99 rfl hl (by decide) rfl (fun ls hl => ?_)
            refine lv_iinc (v := zI (x1 + 1)) (lv' := [(1, .int (zI (x1 + 1))), (2, .int (zI 1)), (3, .int (zI 1)), (0, .ref mO)]) hx hb dX7_heard_100 hl (k := 3) rfl (zI_add _ _) (by decide) rfl (fun ls hl => ?_)
            refine lv_goto (tgt := 49) hx hb dX7_heard_103 (by decide) ?_
            have hf := zq_some hf
            exact hf _ _ _ hP hD hS (lv_sub hl [3, 0, 1] rfl)
      · refine lv_iconst (v := zI 0) hx hb dX7_heard_68 rfl ?_
        refine lv_istore_n (lv' := [(3, .int (zI 0)), (0, .ref mO), (1, .int (zI x1)), (2, .int (zI x2))]) hx hb dX7_heard_69 rfl hl (by decide) rfl (fun ls hl => ?_)
        refine lv_aload_n hx hb dX7_heard_70 rfl (lv_at hl 1 rfl) ?_
        refine lv_iload_n hx hb dX7_heard_71 rfl (lv_at hl 3 rfl) ?_
        obtain ⟨⟨r72, mcur_72, mst_72, mtok_72, mval_72, mFresh_72⟩, hc72, hf⟩ := zq_bind hf
        refine zcallVi (wr := [eA mQnow (cy 0) 11 mNow, eA mQisKept (cy 2) 2 mIsK]) (rest := []) ⟨hx, hb, hml, hown, hts⟩ (c_X7_readOne l D cy mO mQtext mQnow mQfresh mQwas mQisKept mQkept mQheard mQnumber mQlowUp mQlowDown mQhighUp mQhighDown mQseen mQfirst H.size x2 mth mmany mcur mst mtok mval macts mlev memp mText mFresh hc72) (cwV 1 hts gX7_heard_X7_readOne rfl rfl rfl (by decide +kernel) ⟨Nat.le_of_ble_eq_true rfl, Nat.le_of_ble_eq_true rfl⟩) hK hP hD hS hA [0, 1, 3] [2, 4] rfl rfl rfl rfl (by decide) (va_recv hK.1 hP (ci := 6) (q0 := 0) rfl rfl) rfl hl.1 rfl (Nat.le_of_ble_eq_true rfl) dX7_heard_72 ⟨Nat.zero_le _, Nat.zero_le _⟩ (fun H locs hP hD hS => ?_)
        have hP : va_P D vwCl [eO mO 6 [.int (zI mth), .ref mQtext, .int (zI mmany), .int (zI mcur_72), .int (zI mst_72), .int (zI mtok_72), .int (zI mval_72), .ref mQnow, .ref mQfresh, .ref mQwas, .int (zI macts), .ref mQisKept, .ref mQkept, .ref mQheard, .ref mQnumber, .ref mQlowUp, .ref mQlowDown, .ref mQhighUp, .ref mQhighDown, .int (zI mlev), .ref mQseen, .int (zI memp), .ref mQfirst], eA mQtext (cy 0) 100 mText, eA mQnow (cy 0) 11 mNow, eA mQfresh (cy 0) 11 mFresh_72, eA mQisKept (cy 2) 2 mIsK] H := hP.sub [2, 3, 0, 4, 1] rfl
        have hD : va_D A [eO mO 6 [.int (zI mth), .ref mQtext, .int (zI mmany), .int (zI mcur_72), .int (zI mst_72), .int (zI mtok_72), .int (zI mval_72), .ref mQnow, .ref mQfresh, .ref mQwas, .int (zI macts), .ref mQisKept, .ref mQkept, .ref mQheard, .ref mQnumber, .ref mQlowUp, .ref mQlowDown, .ref mQhighUp, .ref mQhighDown, .int (zI mlev), .ref mQseen, .int (zI memp), .ref mQfirst], eA mQtext (cy 0) 100 mText, eA mQnow (cy 0) 11 mNow, eA mQfresh (cy 0) 11 mFresh_72, eA mQisKept (cy 2) 2 mIsK] := hD.sub [2, 3, 0, 4, 1] rfl rfl
        refine zz_if_ne (tgt := 86) hx hb dX7_heard_75 (by decide) hf (fun hc hf => ?_) (fun hc hf => ?_)
        · refine lv_bipush (v := zI (-10)) hx hb dX7_heard_78 (by decide) ?_
          refine lv_aload_n hx hb dX7_heard_80 rfl (lv_at hl 1 rfl) ?_
          refine va_get (D := D) (ci := 6) (v := .int (zI mst_72)) (C := RX7) (T := TX7) (N := 23) hx hb hts u_X7_heard_X7 hown hK.1 hP 0 rfl rfl 4 (by decide) (hts _ m_X7_heard_5) (fun _ h9 => h9) rfl dX7_heard_81 ?_
          refine zz_isub hx hb dX7_heard_84 ?_
          have hf := zq_some hf
          cases hf
          exact W.iret hx hb hr (fun t ht hW => ⟨⟨_, (), rfl, rfl, by rw [ht]; exact hP, hD⟩, hS.F ht⟩) hS.2.2 dX7_heard_85
        · refine lv_iload_n hx hb dX7_heard_86 rfl (lv_at hl 3 rfl) ?_
          refine zz_if_ne (tgt := 94) hx hb dX7_heard_87 (by decide) hf (fun hc hf => ?_) (fun hc hf => ?_)
          · refine lv_iload_n hx hb dX7_heard_90 rfl (lv_at hl 0 rfl) ?_
            refine lv_if_eq (tgt := 98) hx hb dX7_heard_91 (by decide) (fun hc => ?_) (fun hc => absurd hc (by decide))
            refine lv_iconst (v := zI 0) hx hb dX7_heard_98 rfl ?_
            refine lv_istore_n (lv' := [(2, .int (zI 0)), (3, .int (zI 0)), (0, .ref mO), (1, .int (zI x1))]) hx hb dX7_heard_99 rfl hl (by decide) rfl (fun ls hl => ?_)
            refine lv_iinc (v := zI (x1 + 1)) (lv' := [(1, .int (zI (x1 + 1))), (2, .int (zI 0)), (3, .int (zI 0)), (0, .ref mO)]) hx hb dX7_heard_100 hl (k := 3) rfl (zI_add _ _) (by decide) rfl (fun ls hl => ?_)
            refine lv_goto (tgt := 49) hx hb dX7_heard_103 (by decide) ?_
            have hf := zq_some hf
            exact hf _ _ _ hP hD hS (lv_sub hl [3, 0, 1] rfl)
          · refine lv_iconst (v := zI 1) hx hb dX7_heard_94 rfl ?_
            refine lv_goto (tgt := 99) hx hb dX7_heard_95 (by decide) ?_
            refine lv_istore_n (lv' := [(2, .int (zI 1)), (3, .int (zI 0)), (0, .ref mO), (1, .int (zI x1))]) hx hb dX7_heard_99 rfl hl (by decide) rfl (fun ls hl => ?_)
            refine lv_iinc (v := zI (x1 + 1)) (lv' := [(1, .int (zI (x1 + 1))), (2, .int (zI 1)), (3, .int (zI 0)), (0, .ref mO)]) hx hb dX7_heard_100 hl (k := 3) rfl (zI_add _ _) (by decide) rfl (fun ls hl => ?_)
            refine lv_goto (tgt := 49) hx hb dX7_heard_103 (by decide) ?_
            have hf := zq_some hf
            exact hf _ _ _ hP hD hS (lv_sub hl [3, 0, 1] rfl)
    )
  unfold f_X7_heard at hf
  refine lv_aload_n hx hb dX7_heard_0 rfl (lv_at hl 0 rfl) ?_
  refine lv_iconst (v := zI 0) hx hb dX7_heard_1 rfl ?_
  refine va_put (D := D) (ci := 6) (v := .int (zI 0)) (ty := .int) (C := RX7) (T := TX7) (N := 23) hx hb hts u_X7_heard_X7 tyX7 tyX7_ok nmX7 hown hK.1 hP hD hS 0 rfl rfl 0 (by decide) (hts _ m_X7_heard_1) (fun _ h9 => h9) rfl (tyX7_ok 0 (by decide)) rfl rfl (Nat.le_of_ble_eq_true rfl) dX7_heard_2 (fun H locs hP hD hS => ?_)
  have hP : va_P D vwCl [eO mO 6 [.int (zI 0), .ref mQtext, .int (zI mmany), .int (zI mcur), .int (zI mst), .int (zI mtok), .int (zI mval), .ref mQnow, .ref mQfresh, .ref mQwas, .int (zI macts), .ref mQisKept, .ref mQkept, .ref mQheard, .ref mQnumber, .ref mQlowUp, .ref mQlowDown, .ref mQhighUp, .ref mQhighDown, .int (zI mlev), .ref mQseen, .int (zI memp), .ref mQfirst], eA mQtext (cy 0) 100 mText, eA mQnow (cy 0) 11 mNow, eA mQfresh (cy 0) 11 mFresh, eA mQisKept (cy 2) 2 mIsK] H := hP
  have hD : va_D A [eO mO 6 [.int (zI 0), .ref mQtext, .int (zI mmany), .int (zI mcur), .int (zI mst), .int (zI mtok), .int (zI mval), .ref mQnow, .ref mQfresh, .ref mQwas, .int (zI macts), .ref mQisKept, .ref mQkept, .ref mQheard, .ref mQnumber, .ref mQlowUp, .ref mQlowDown, .ref mQhighUp, .ref mQhighDown, .int (zI mlev), .ref mQseen, .int (zI memp), .ref mQfirst], eA mQtext (cy 0) 100 mText, eA mQnow (cy 0) 11 mNow, eA mQfresh (cy 0) 11 mFresh, eA mQisKept (cy 2) 2 mIsK] := hD
  refine lv_aload_n hx hb dX7_heard_5 rfl (lv_at hl 0 rfl) ?_
  refine lv_iconst (v := zI 0) hx hb dX7_heard_6 rfl ?_
  refine va_put (D := D) (ci := 6) (v := .int (zI 0)) (ty := .int) (C := RX7) (T := TX7) (N := 23) hx hb hts u_X7_heard_X7 tyX7 tyX7_ok nmX7 hown hK.1 hP hD hS 0 rfl rfl 3 (by decide) (hts _ m_X7_heard_2) (fun _ h9 => h9) rfl (tyX7_ok 3 (by decide)) rfl rfl (Nat.le_of_ble_eq_true rfl) dX7_heard_7 (fun H locs hP hD hS => ?_)
  have hP : va_P D vwCl [eO mO 6 [.int (zI 0), .ref mQtext, .int (zI mmany), .int (zI 0), .int (zI mst), .int (zI mtok), .int (zI mval), .ref mQnow, .ref mQfresh, .ref mQwas, .int (zI macts), .ref mQisKept, .ref mQkept, .ref mQheard, .ref mQnumber, .ref mQlowUp, .ref mQlowDown, .ref mQhighUp, .ref mQhighDown, .int (zI mlev), .ref mQseen, .int (zI memp), .ref mQfirst], eA mQtext (cy 0) 100 mText, eA mQnow (cy 0) 11 mNow, eA mQfresh (cy 0) 11 mFresh, eA mQisKept (cy 2) 2 mIsK] H := hP
  have hD : va_D A [eO mO 6 [.int (zI 0), .ref mQtext, .int (zI mmany), .int (zI 0), .int (zI mst), .int (zI mtok), .int (zI mval), .ref mQnow, .ref mQfresh, .ref mQwas, .int (zI macts), .ref mQisKept, .ref mQkept, .ref mQheard, .ref mQnumber, .ref mQlowUp, .ref mQlowDown, .ref mQhighUp, .ref mQhighDown, .int (zI mlev), .ref mQseen, .int (zI memp), .ref mQfirst], eA mQtext (cy 0) 100 mText, eA mQnow (cy 0) 11 mNow, eA mQfresh (cy 0) 11 mFresh, eA mQisKept (cy 2) 2 mIsK] := hD
  refine lv_aload_n hx hb dX7_heard_10 rfl (lv_at hl 0 rfl) ?_
  refine va_get (D := D) (ci := 6) (v := .ref mQfresh) (C := RX7) (T := TX7) (N := 23) hx hb hts u_X7_heard_X7 hown hK.1 hP 0 rfl rfl 8 (by decide) (hts _ m_X7_heard_3) (fun _ h9 => h9) rfl dX7_heard_11 ?_
  refine lv_iconst (v := zI 0) hx hb dX7_heard_14 rfl ?_
  refine lv_iconst (v := zI 0) hx hb dX7_heard_15 rfl ?_
  refine zz_iast (i := 0) hx hb hK hP hD hS 3 rfl (Nat.le_of_ble_eq_true rfl) (by decide) dX7_heard_16 (fun H locs hP hD hS => ?_)
  have hP : va_P D vwCl [eO mO 6 [.int (zI 0), .ref mQtext, .int (zI mmany), .int (zI 0), .int (zI mst), .int (zI mtok), .int (zI mval), .ref mQnow, .ref mQfresh, .ref mQwas, .int (zI macts), .ref mQisKept, .ref mQkept, .ref mQheard, .ref mQnumber, .ref mQlowUp, .ref mQlowDown, .ref mQhighUp, .ref mQhighDown, .int (zI mlev), .ref mQseen, .int (zI memp), .ref mQfirst], eA mQtext (cy 0) 100 mText, eA mQnow (cy 0) 11 mNow, eA mQfresh (cy 0) 11 (zup mFresh 0 0), eA mQisKept (cy 2) 2 mIsK] H := hP
  have hD : va_D A [eO mO 6 [.int (zI 0), .ref mQtext, .int (zI mmany), .int (zI 0), .int (zI mst), .int (zI mtok), .int (zI mval), .ref mQnow, .ref mQfresh, .ref mQwas, .int (zI macts), .ref mQisKept, .ref mQkept, .ref mQheard, .ref mQnumber, .ref mQlowUp, .ref mQlowDown, .ref mQhighUp, .ref mQhighDown, .int (zI mlev), .ref mQseen, .int (zI memp), .ref mQfirst], eA mQtext (cy 0) 100 mText, eA mQnow (cy 0) 11 mNow, eA mQfresh (cy 0) 11 (zup mFresh 0 0), eA mQisKept (cy 2) 2 mIsK] := hD
  refine lv_aload_n hx hb dX7_heard_17 rfl (lv_at hl 0 rfl) ?_
  refine va_get (D := D) (ci := 6) (v := .ref mQfresh) (C := RX7) (T := TX7) (N := 23) hx hb hts u_X7_heard_X7 hown hK.1 hP 0 rfl rfl 8 (by decide) (hts _ m_X7_heard_3) (fun _ h9 => h9) rfl dX7_heard_18 ?_
  refine lv_iconst (v := zI 1) hx hb dX7_heard_21 rfl ?_
  refine lv_bipush (v := zI 100) hx hb dX7_heard_22 (by decide) ?_
  refine zz_iast (i := 1) hx hb hK hP hD hS 3 rfl (Nat.le_of_ble_eq_true rfl) (by decide) dX7_heard_24 (fun H locs hP hD hS => ?_)
  have hP : va_P D vwCl [eO mO 6 [.int (zI 0), .ref mQtext, .int (zI mmany), .int (zI 0), .int (zI mst), .int (zI mtok), .int (zI mval), .ref mQnow, .ref mQfresh, .ref mQwas, .int (zI macts), .ref mQisKept, .ref mQkept, .ref mQheard, .ref mQnumber, .ref mQlowUp, .ref mQlowDown, .ref mQhighUp, .ref mQhighDown, .int (zI mlev), .ref mQseen, .int (zI memp), .ref mQfirst], eA mQtext (cy 0) 100 mText, eA mQnow (cy 0) 11 mNow, eA mQfresh (cy 0) 11 (zup (zup mFresh 0 0) 1 100), eA mQisKept (cy 2) 2 mIsK] H := hP
  have hD : va_D A [eO mO 6 [.int (zI 0), .ref mQtext, .int (zI mmany), .int (zI 0), .int (zI mst), .int (zI mtok), .int (zI mval), .ref mQnow, .ref mQfresh, .ref mQwas, .int (zI macts), .ref mQisKept, .ref mQkept, .ref mQheard, .ref mQnumber, .ref mQlowUp, .ref mQlowDown, .ref mQhighUp, .ref mQhighDown, .int (zI mlev), .ref mQseen, .int (zI memp), .ref mQfirst], eA mQtext (cy 0) 100 mText, eA mQnow (cy 0) 11 mNow, eA mQfresh (cy 0) 11 (zup (zup mFresh 0 0) 1 100), eA mQisKept (cy 2) 2 mIsK] := hD
  refine lv_aload_n hx hb dX7_heard_25 rfl (lv_at hl 0 rfl) ?_
  refine va_get (D := D) (ci := 6) (v := .ref mQfresh) (C := RX7) (T := TX7) (N := 23) hx hb hts u_X7_heard_X7 hown hK.1 hP 0 rfl rfl 8 (by decide) (hts _ m_X7_heard_3) (fun _ h9 => h9) rfl dX7_heard_26 ?_
  refine lv_iconst (v := zI 2) hx hb dX7_heard_29 rfl ?_
  refine lv_sipush (v := zI 200) hx hb dX7_heard_30 (by decide) ?_
  refine zz_iast (i := 2) hx hb hK hP hD hS 3 rfl (Nat.le_of_ble_eq_true rfl) (by decide) dX7_heard_33 (fun H locs hP hD hS => ?_)
  have hP : va_P D vwCl [eO mO 6 [.int (zI 0), .ref mQtext, .int (zI mmany), .int (zI 0), .int (zI mst), .int (zI mtok), .int (zI mval), .ref mQnow, .ref mQfresh, .ref mQwas, .int (zI macts), .ref mQisKept, .ref mQkept, .ref mQheard, .ref mQnumber, .ref mQlowUp, .ref mQlowDown, .ref mQhighUp, .ref mQhighDown, .int (zI mlev), .ref mQseen, .int (zI memp), .ref mQfirst], eA mQtext (cy 0) 100 mText, eA mQnow (cy 0) 11 mNow, eA mQfresh (cy 0) 11 (zup (zup (zup mFresh 0 0) 1 100) 2 200), eA mQisKept (cy 2) 2 mIsK] H := hP
  have hD : va_D A [eO mO 6 [.int (zI 0), .ref mQtext, .int (zI mmany), .int (zI 0), .int (zI mst), .int (zI mtok), .int (zI mval), .ref mQnow, .ref mQfresh, .ref mQwas, .int (zI macts), .ref mQisKept, .ref mQkept, .ref mQheard, .ref mQnumber, .ref mQlowUp, .ref mQlowDown, .ref mQhighUp, .ref mQhighDown, .int (zI mlev), .ref mQseen, .int (zI memp), .ref mQfirst], eA mQtext (cy 0) 100 mText, eA mQnow (cy 0) 11 mNow, eA mQfresh (cy 0) 11 (zup (zup (zup mFresh 0 0) 1 100) 2 200), eA mQisKept (cy 2) 2 mIsK] := hD
  refine lv_aload_n hx hb dX7_heard_34 rfl (lv_at hl 0 rfl) ?_
  refine va_get (D := D) (ci := 6) (v := .ref mQfresh) (C := RX7) (T := TX7) (N := 23) hx hb hts u_X7_heard_X7 hown hK.1 hP 0 rfl rfl 8 (by decide) (hts _ m_X7_heard_3) (fun _ h9 => h9) rfl dX7_heard_35 ?_
  refine lv_iconst (v := zI 3) hx hb dX7_heard_38 rfl ?_
  refine lv_iconst (v := zI 2) hx hb dX7_heard_39 rfl ?_
  refine zz_iast (i := 3) hx hb hK hP hD hS 3 rfl (Nat.le_of_ble_eq_true rfl) (by decide) dX7_heard_40 (fun H locs hP hD hS => ?_)
  have hP : va_P D vwCl [eO mO 6 [.int (zI 0), .ref mQtext, .int (zI mmany), .int (zI 0), .int (zI mst), .int (zI mtok), .int (zI mval), .ref mQnow, .ref mQfresh, .ref mQwas, .int (zI macts), .ref mQisKept, .ref mQkept, .ref mQheard, .ref mQnumber, .ref mQlowUp, .ref mQlowDown, .ref mQhighUp, .ref mQhighDown, .int (zI mlev), .ref mQseen, .int (zI memp), .ref mQfirst], eA mQtext (cy 0) 100 mText, eA mQnow (cy 0) 11 mNow, eA mQfresh (cy 0) 11 (zup (zup (zup (zup mFresh 0 0) 1 100) 2 200) 3 2), eA mQisKept (cy 2) 2 mIsK] H := hP
  have hD : va_D A [eO mO 6 [.int (zI 0), .ref mQtext, .int (zI mmany), .int (zI 0), .int (zI mst), .int (zI mtok), .int (zI mval), .ref mQnow, .ref mQfresh, .ref mQwas, .int (zI macts), .ref mQisKept, .ref mQkept, .ref mQheard, .ref mQnumber, .ref mQlowUp, .ref mQlowDown, .ref mQhighUp, .ref mQhighDown, .int (zI mlev), .ref mQseen, .int (zI memp), .ref mQfirst], eA mQtext (cy 0) 100 mText, eA mQnow (cy 0) 11 mNow, eA mQfresh (cy 0) 11 (zup (zup (zup (zup mFresh 0 0) 1 100) 2 200) 3 2), eA mQisKept (cy 2) 2 mIsK] := hD
  refine lv_iconst (v := zI 0) hx hb dX7_heard_41 rfl ?_
  refine lv_istore_n (lv' := [(1, .int (zI 0)), (0, .ref mO)]) hx hb dX7_heard_42 rfl hl (by decide) rfl (fun ls hl => ?_)
  refine lv_iconst (v := zI 0) hx hb dX7_heard_43 rfl ?_
  refine lv_istore_n (lv' := [(2, .int (zI 0)), (1, .int (zI 0)), (0, .ref mO)]) hx hb dX7_heard_44 rfl hl (by decide) rfl (fun ls hl => ?_)
  refine lv_aload_n hx hb dX7_heard_45 rfl (lv_at hl 2 rfl) ?_
  obtain ⟨⟨mcur_46, mst_46, mtok_46, mval_46⟩, hc46, hf⟩ := zq_bind hf
  refine zcallVv (wr := [eA mQnow (cy 0) 11 mNow, eA mQfresh (cy 0) 11 (zup (zup (zup (zup mFresh 0 0) 1 100) 2 200) 3 2), eA mQisKept (cy 2) 2 mIsK]) (rest := []) ⟨hx, hb, hml, hown, hts⟩ (c_X7_next l D cy mO mQtext mQnow mQfresh mQwas mQisKept mQkept mQheard mQnumber mQlowUp mQlowDown mQhighUp mQhighDown mQseen mQfirst H.size 0 mmany 0 mst mtok mval macts mlev memp mText hc46) (cwV 0 hts gX7_heard_X7_next rfl rfl rfl (by decide +kernel) ⟨Nat.le_of_ble_eq_true rfl, Nat.le_of_ble_eq_true rfl⟩) hK hP hD hS hA [0, 1] [2, 3, 4] rfl rfl rfl rfl (by decide) (va_recv hK.1 hP (ci := 6) (q0 := 0) rfl rfl) rfl hl.1 rfl (Nat.le_of_ble_eq_true rfl) dX7_heard_46 ⟨Nat.zero_le _, Nat.zero_le _⟩ (fun H locs hP hD hS => ?_)
  have hP : va_P D vwCl [eO mO 6 [.int (zI 0), .ref mQtext, .int (zI mmany), .int (zI mcur_46), .int (zI mst_46), .int (zI mtok_46), .int (zI mval_46), .ref mQnow, .ref mQfresh, .ref mQwas, .int (zI macts), .ref mQisKept, .ref mQkept, .ref mQheard, .ref mQnumber, .ref mQlowUp, .ref mQlowDown, .ref mQhighUp, .ref mQhighDown, .int (zI mlev), .ref mQseen, .int (zI memp), .ref mQfirst], eA mQtext (cy 0) 100 mText, eA mQnow (cy 0) 11 mNow, eA mQfresh (cy 0) 11 (zup (zup (zup (zup mFresh 0 0) 1 100) 2 200) 3 2), eA mQisKept (cy 2) 2 mIsK] H := hP.sub [3, 4, 0, 1, 2] rfl
  have hD : va_D A [eO mO 6 [.int (zI 0), .ref mQtext, .int (zI mmany), .int (zI mcur_46), .int (zI mst_46), .int (zI mtok_46), .int (zI mval_46), .ref mQnow, .ref mQfresh, .ref mQwas, .int (zI macts), .ref mQisKept, .ref mQkept, .ref mQheard, .ref mQnumber, .ref mQlowUp, .ref mQlowDown, .ref mQhighUp, .ref mQhighDown, .int (zI mlev), .ref mQseen, .int (zI memp), .ref mQfirst], eA mQtext (cy 0) 100 mText, eA mQnow (cy 0) 11 mNow, eA mQfresh (cy 0) 11 (zup (zup (zup (zup mFresh 0 0) 1 100) 2 200) 3 2), eA mQisKept (cy 2) 2 mIsK] := hD.sub [3, 4, 0, 1, 2] rfl rfl
  exact key _ (zq_eq hf) _ _ _ hP hD hS (lv_sub hl [2, 1, 0] rfl)

noncomputable def f_X7_isArrival (p1 : Int) (mNow : Nat → Int) : Option (Int) :=
  gd (zR p1) <|
  gd (zR ((mNow 0) - 1)) <|
  (f_X7_in p1 0 ((mNow 0) - 1)).bind fun r12 =>
  gd (r12 = 0 ∨ r12 = 1) <|
  some r12
theorem m_X7_isArrival_1 : (.fieldLink RX7 46 "PulseTurnsModel" "now" "[I" : Cond) ∈ wsX7_isArrival := List.mem_of_getElem? (i := 1) rfl
theorem u_X7_isArrival_X7 : ∀ w ∈ wsX70, w ∈ wsX7_isArrival := fun w h => List.mem_cons_of_mem _ (List.mem_append_right _ h)
set_option maxRecDepth 100000 in
set_option maxHeartbeats 4000000 in
theorem c_X7_isArrival (l : Launch) (D : va_G) (cy : Nat → ClassId) (mO mQtext mQnow mQfresh mQwas mQisKept mQkept mQheard mQnumber mQlowUp mQlowDown mQhighUp mQhighDown mQseen mQfirst : Nat) (sz : Nat) (p1 : Int) (mth : Int) (mmany : Int) (mcur : Int) (mst : Int) (mtok : Int) (mval : Int) (macts : Int) (mlev : Int) (memp : Int) (mNow : Nat → Int) {r : Int} (hf : f_X7_isArrival p1 mNow = some r) : zMi l yX7_isArrival wsX7_isArrival ({ frames := 1, cells := 0, slots := 0, locals := 25 }) D cy sz [.ref mO, .int (zI p1)] [eO mO 6 [.int (zI mth), .ref mQtext, .int (zI mmany), .int (zI mcur), .int (zI mst), .int (zI mtok), .int (zI mval), .ref mQnow, .ref mQfresh, .ref mQwas, .int (zI macts), .ref mQisKept, .ref mQkept, .ref mQheard, .ref mQnumber, .ref mQlowUp, .ref mQlowDown, .ref mQhighUp, .ref mQhighDown, .int (zI mlev), .ref mQseen, .int (zI memp), .ref mQfirst], eA mQnow (cy 0) 11 mNow] [eO mO 6 [.int (zI mth), .ref mQtext, .int (zI mmany), .int (zI mcur), .int (zI mst), .int (zI mtok), .int (zI mval), .ref mQnow, .ref mQfresh, .ref mQwas, .int (zI macts), .ref mQisKept, .ref mQkept, .ref mQheard, .ref mQnumber, .ref mQlowUp, .ref mQlowDown, .ref mQhighUp, .ref mQhighDown, .int (zI mlev), .ref mQseen, .int (zI memp), .ref mQfirst], eA mQnow (cy 0) 11 mNow] (zI r) := by
  refine Met.ofW (cc := cX7_isArrival) (maxL := 2) (ret := (some .boolean)) (by decide) rfl ?_
  intro p e s m args below meth c s₁ B hml hv
  obtain ⟨rfl, hsz, hP, hK, hD0⟩ := hv
  have hx := B.exec
  have hb := B.bytes
  have hr := B.returns
  have hts := atoms_spec (ws := wsX7_isArrival) B.pre
  have hown : s.vm.findClass RX7 = some m.cls := findClass_of_methodNamed B.named
  have hlocks := B.notSynchronized
  subst hsz
  have hD := hD0.self (sz := s.heap.size)
  generalize hAe : va_A [eO mO 6 [.int (zI mth), .ref mQtext, .int (zI mmany), .int (zI mcur), .int (zI mst), .int (zI mtok), .int (zI mval), .ref mQnow, .ref mQfresh, .ref mQwas, .int (zI macts), .ref mQisKept, .ref mQkept, .ref mQheard, .ref mQnumber, .ref mQlowUp, .ref mQlowDown, .ref mQhighUp, .ref mQhighDown, .int (zI mlev), .ref mQseen, .int (zI memp), .ref mQfirst], eA mQnow (cy 0) 11 mNow] s.heap.size = A at hD ⊢
  have hA : ∀ q : Nat, s.heap.size ≤ q → A q := fun q h => by rw [← hAe]; exact Or.inr h
  have hS : va_S A s.heap s.heap [] := va_S.rf
  have hl := lv_entry ([.ref mO, .int (zI p1)]) (n := 2) (Nat.le_of_ble_eq_true rfl)
  rw [lg_entry_eq]
  generalize (lg_sl ([.ref mO, .int (zI p1)]) ++ List.replicate (2 - (lg_sl ([.ref mO, .int (zI p1)])).length) Slot.unset).toArray = ls at hl ⊢
  have hl : lv_has ls 2 [(0, .ref mO), (1, .int (zI p1))] := hl
  have hf := zq_of hf
  unfold f_X7_isArrival at hf
  refine lv_iload_n hx hb dX7_isArrival_0 rfl (lv_at hl 1 rfl) ?_
  obtain ⟨hg, hf⟩ := zq_gd hf
  refine lv_i2l (v := zL p1) hx hb dX7_isArrival_1 (zL_i hg) ?_
  refine lv_lconst (v := zL 0) hx hb dX7_isArrival_2 (by decide) ?_
  refine lv_aload_n hx hb dX7_isArrival_3 rfl (lv_at hl 0 rfl) ?_
  refine va_get (D := D) (ci := 6) (v := .ref mQnow) (C := RX7) (T := TX7) (N := 23) hx hb hts u_X7_isArrival_X7 hown hK.1 hP 0 rfl rfl 7 (by decide) (hts _ m_X7_isArrival_1) (fun _ h9 => h9) rfl dX7_isArrival_4 ?_
  refine lv_iconst (v := zI 0) hx hb dX7_isArrival_7 rfl ?_
  refine zz_iald (i := 0) hx hb hK hP 1 rfl (Nat.le_of_ble_eq_true rfl) (by decide) dX7_isArrival_8 ?_
  refine lv_iconst (v := zI 1) hx hb dX7_isArrival_9 rfl ?_
  refine zz_isub hx hb dX7_isArrival_10 ?_
  obtain ⟨hg, hf⟩ := zq_gd hf
  refine lv_i2l (v := zL ((mNow 0) - 1)) hx hb dX7_isArrival_11 (zL_i hg) ?_
  obtain ⟨r12, hc12, hf⟩ := zq_bind hf
  refine zcallSi (wr := [eO mO 6 [.int (zI mth), .ref mQtext, .int (zI mmany), .int (zI mcur), .int (zI mst), .int (zI mtok), .int (zI mval), .ref mQnow, .ref mQfresh, .ref mQwas, .int (zI macts), .ref mQisKept, .ref mQkept, .ref mQheard, .ref mQnumber, .ref mQlowUp, .ref mQlowDown, .ref mQhighUp, .ref mQhighDown, .int (zI mlev), .ref mQseen, .int (zI memp), .ref mQfirst], eA mQnow (cy 0) 11 mNow]) (rest := []) ⟨hx, hb, hml, hown, hts⟩ (c_X7_in l D cy s.heap.size p1 0 ((mNow 0) - 1) hc12) (va_cwS 3 hts gX7_isArrival_X7_in rfl rfl rfl (by decide +kernel) ⟨Nat.le_of_ble_eq_true rfl, Nat.le_of_ble_eq_true rfl⟩) hK hP hD hS hA [] [0, 1] rfl rfl rfl rfl (by decide) rfl hl.1 rfl (Nat.le_of_ble_eq_true rfl) dX7_isArrival_12 ⟨Nat.zero_le _, Nat.zero_le _⟩ (fun H locs hP hD hS => ?_)
  have hP : va_P D vwCl [eO mO 6 [.int (zI mth), .ref mQtext, .int (zI mmany), .int (zI mcur), .int (zI mst), .int (zI mtok), .int (zI mval), .ref mQnow, .ref mQfresh, .ref mQwas, .int (zI macts), .ref mQisKept, .ref mQkept, .ref mQheard, .ref mQnumber, .ref mQlowUp, .ref mQlowDown, .ref mQhighUp, .ref mQhighDown, .int (zI mlev), .ref mQseen, .int (zI memp), .ref mQfirst], eA mQnow (cy 0) 11 mNow] H := hP.sub [0, 1] rfl
  have hD : va_D A [eO mO 6 [.int (zI mth), .ref mQtext, .int (zI mmany), .int (zI mcur), .int (zI mst), .int (zI mtok), .int (zI mval), .ref mQnow, .ref mQfresh, .ref mQwas, .int (zI macts), .ref mQisKept, .ref mQkept, .ref mQheard, .ref mQnumber, .ref mQlowUp, .ref mQlowDown, .ref mQhighUp, .ref mQhighDown, .int (zI mlev), .ref mQseen, .int (zI memp), .ref mQfirst], eA mQnow (cy 0) 11 mNow] := hD.sub [0, 1] rfl rfl
  obtain ⟨hg, hf⟩ := zq_gd hf
  have hn9 : narrow .boolean (.int (zI r12)) = .int (zI r12) := by rcases hg with h | h <;> rw [h] <;> rfl
  have hf := zq_some hf
  cases hf
  exact W.zret hx hb hr hn9 (fun t ht hW => ⟨⟨_, (), rfl, rfl, by rw [ht]; exact hP, hD⟩, hS.F ht⟩) hS.2.2 dX7_isArrival_15

noncomputable def f_X7_time (p1 : Int) (mNow : Nat → Int) : Option (Int × Int) :=
  (f_X7_isArrival p1 mNow).bind fun r7 =>
  gd (zR r7) <|
  if r7 = 0 then
    some ((-1), 0)
  else
    gd (zin (4 + p1) 11) <|
    some ((mNow (Int.toNat (4 + p1))), 0)
theorem m_X7_time_1 : (.fieldLink RX7 1 "PulseTurnsModel" "thrown" "I" : Cond) ∈ wsX7_time := List.mem_of_getElem? (i := 1) rfl
theorem m_X7_time_2 : (.fieldLink RX7 46 "PulseTurnsModel" "now" "[I" : Cond) ∈ wsX7_time := List.mem_of_getElem? (i := 2) rfl
theorem u_X7_time_X7 : ∀ w ∈ wsX70, w ∈ wsX7_time := fun w h => List.mem_cons_of_mem _ (List.mem_append_right _ h)
set_option maxRecDepth 100000 in
set_option maxHeartbeats 4000000 in
theorem c_X7_time (l : Launch) (D : va_G) (cy : Nat → ClassId) (mO mQtext mQnow mQfresh mQwas mQisKept mQkept mQheard mQnumber mQlowUp mQlowDown mQhighUp mQhighDown mQseen mQfirst : Nat) (sz : Nat) (p1 : Int) (mth : Int) (mmany : Int) (mcur : Int) (mst : Int) (mtok : Int) (mval : Int) (macts : Int) (mlev : Int) (memp : Int) (mNow : Nat → Int) {r : Int} {mth' : Int} (hf : f_X7_time p1 mNow = some (r, mth')) : zMi l yX7_time wsX7_time ({ frames := 2, cells := 0, slots := 0, locals := 46 }) D cy sz [.ref mO, .int (zI p1)] [eO mO 6 [.int (zI mth), .ref mQtext, .int (zI mmany), .int (zI mcur), .int (zI mst), .int (zI mtok), .int (zI mval), .ref mQnow, .ref mQfresh, .ref mQwas, .int (zI macts), .ref mQisKept, .ref mQkept, .ref mQheard, .ref mQnumber, .ref mQlowUp, .ref mQlowDown, .ref mQhighUp, .ref mQhighDown, .int (zI mlev), .ref mQseen, .int (zI memp), .ref mQfirst], eA mQnow (cy 0) 11 mNow] [eO mO 6 [.int (zI mth'), .ref mQtext, .int (zI mmany), .int (zI mcur), .int (zI mst), .int (zI mtok), .int (zI mval), .ref mQnow, .ref mQfresh, .ref mQwas, .int (zI macts), .ref mQisKept, .ref mQkept, .ref mQheard, .ref mQnumber, .ref mQlowUp, .ref mQlowDown, .ref mQhighUp, .ref mQhighDown, .int (zI mlev), .ref mQseen, .int (zI memp), .ref mQfirst], eA mQnow (cy 0) 11 mNow] (zI r) := by
  refine Met.ofW (cc := cX7_time) (maxL := 2) (ret := (some .int)) (by decide) rfl ?_
  intro p e s m args below meth c s₁ B hml hv
  obtain ⟨rfl, hsz, hP, hK, hD0⟩ := hv
  have hx := B.exec
  have hb := B.bytes
  have hr := B.returns
  have hts := atoms_spec (ws := wsX7_time) B.pre
  have hown : s.vm.findClass RX7 = some m.cls := findClass_of_methodNamed B.named
  have hlocks := B.notSynchronized
  subst hsz
  have hD := hD0.self (sz := s.heap.size)
  generalize hAe : va_A [eO mO 6 [.int (zI mth), .ref mQtext, .int (zI mmany), .int (zI mcur), .int (zI mst), .int (zI mtok), .int (zI mval), .ref mQnow, .ref mQfresh, .ref mQwas, .int (zI macts), .ref mQisKept, .ref mQkept, .ref mQheard, .ref mQnumber, .ref mQlowUp, .ref mQlowDown, .ref mQhighUp, .ref mQhighDown, .int (zI mlev), .ref mQseen, .int (zI memp), .ref mQfirst], eA mQnow (cy 0) 11 mNow] s.heap.size = A at hD ⊢
  have hA : ∀ q : Nat, s.heap.size ≤ q → A q := fun q h => by rw [← hAe]; exact Or.inr h
  have hS : va_S A s.heap s.heap [] := va_S.rf
  have hl := lv_entry ([.ref mO, .int (zI p1)]) (n := 2) (Nat.le_of_ble_eq_true rfl)
  rw [lg_entry_eq]
  generalize (lg_sl ([.ref mO, .int (zI p1)]) ++ List.replicate (2 - (lg_sl ([.ref mO, .int (zI p1)])).length) Slot.unset).toArray = ls at hl ⊢
  have hl : lv_has ls 2 [(0, .ref mO), (1, .int (zI p1))] := hl
  have hf := zq_of hf
  unfold f_X7_time at hf
  refine lv_aload_n hx hb dX7_time_0 rfl (lv_at hl 0 rfl) ?_
  refine lv_iconst (v := zI 0) hx hb dX7_time_1 rfl ?_
  refine va_put (D := D) (ci := 6) (v := .int (zI 0)) (ty := .int) (C := RX7) (T := TX7) (N := 23) hx hb hts u_X7_time_X7 tyX7 tyX7_ok nmX7 hown hK.1 hP hD hS 0 rfl rfl 0 (by decide) (hts _ m_X7_time_1) (fun _ h9 => h9) rfl (tyX7_ok 0 (by decide)) rfl rfl (Nat.le_of_ble_eq_true rfl) dX7_time_2 (fun H locs hP hD hS => ?_)
  have hP : va_P D vwCl [eO mO 6 [.int (zI 0), .ref mQtext, .int (zI mmany), .int (zI mcur), .int (zI mst), .int (zI mtok), .int (zI mval), .ref mQnow, .ref mQfresh, .ref mQwas, .int (zI macts), .ref mQisKept, .ref mQkept, .ref mQheard, .ref mQnumber, .ref mQlowUp, .ref mQlowDown, .ref mQhighUp, .ref mQhighDown, .int (zI mlev), .ref mQseen, .int (zI memp), .ref mQfirst], eA mQnow (cy 0) 11 mNow] H := hP
  have hD : va_D A [eO mO 6 [.int (zI 0), .ref mQtext, .int (zI mmany), .int (zI mcur), .int (zI mst), .int (zI mtok), .int (zI mval), .ref mQnow, .ref mQfresh, .ref mQwas, .int (zI macts), .ref mQisKept, .ref mQkept, .ref mQheard, .ref mQnumber, .ref mQlowUp, .ref mQlowDown, .ref mQhighUp, .ref mQhighDown, .int (zI mlev), .ref mQseen, .int (zI memp), .ref mQfirst], eA mQnow (cy 0) 11 mNow] := hD
  refine lv_aload_n hx hb dX7_time_5 rfl (lv_at hl 0 rfl) ?_
  refine lv_iload_n hx hb dX7_time_6 rfl (lv_at hl 1 rfl) ?_
  obtain ⟨r7, hc7, hf⟩ := zq_bind hf
  refine zcallVi (wr := []) (rest := []) ⟨hx, hb, hml, hown, hts⟩ (c_X7_isArrival l D cy mO mQtext mQnow mQfresh mQwas mQisKept mQkept mQheard mQnumber mQlowUp mQlowDown mQhighUp mQhighDown mQseen mQfirst H.size p1 0 mmany mcur mst mtok mval macts mlev memp mNow hc7) (cwV 1 hts gX7_time_X7_isArrival rfl rfl rfl (by decide +kernel) ⟨Nat.le_of_ble_eq_true rfl, Nat.le_of_ble_eq_true rfl⟩) hK hP hD hS hA [0, 1] [] rfl rfl rfl rfl (by decide) (va_recv hK.1 hP (ci := 6) (q0 := 0) rfl rfl) rfl hl.1 rfl (Nat.le_of_ble_eq_true rfl) dX7_time_7 ⟨Nat.zero_le _, Nat.zero_le _⟩ (fun H locs hP hD hS => ?_)
  have hP : va_P D vwCl [eO mO 6 [.int (zI 0), .ref mQtext, .int (zI mmany), .int (zI mcur), .int (zI mst), .int (zI mtok), .int (zI mval), .ref mQnow, .ref mQfresh, .ref mQwas, .int (zI macts), .ref mQisKept, .ref mQkept, .ref mQheard, .ref mQnumber, .ref mQlowUp, .ref mQlowDown, .ref mQhighUp, .ref mQhighDown, .int (zI mlev), .ref mQseen, .int (zI memp), .ref mQfirst], eA mQnow (cy 0) 11 mNow] H := hP.sub [0, 1] rfl
  have hD : va_D A [eO mO 6 [.int (zI 0), .ref mQtext, .int (zI mmany), .int (zI mcur), .int (zI mst), .int (zI mtok), .int (zI mval), .ref mQnow, .ref mQfresh, .ref mQwas, .int (zI macts), .ref mQisKept, .ref mQkept, .ref mQheard, .ref mQnumber, .ref mQlowUp, .ref mQlowDown, .ref mQhighUp, .ref mQhighDown, .int (zI mlev), .ref mQseen, .int (zI memp), .ref mQfirst], eA mQnow (cy 0) 11 mNow] := hD.sub [0, 1] rfl rfl
  refine zz_if_eq (tgt := 24) hx hb dX7_time_10 (by decide) hf (fun hc hf => ?_) (fun hc hf => ?_)
  · refine lv_iconst (v := zI (-1)) hx hb dX7_time_24 rfl ?_
    have hf := zq_some hf
    cases hf
    exact W.iret hx hb hr (fun t ht hW => ⟨⟨_, (), rfl, rfl, by rw [ht]; exact hP, hD⟩, hS.F ht⟩) hS.2.2 dX7_time_25
  · refine lv_aload_n hx hb dX7_time_13 rfl (lv_at hl 0 rfl) ?_
    refine va_get (D := D) (ci := 6) (v := .ref mQnow) (C := RX7) (T := TX7) (N := 23) hx hb hts u_X7_time_X7 hown hK.1 hP 0 rfl rfl 7 (by decide) (hts _ m_X7_time_2) (fun _ h9 => h9) rfl dX7_time_14 ?_
    refine lv_iconst (v := zI 4) hx hb dX7_time_17 rfl ?_
    refine lv_iload_n hx hb dX7_time_18 rfl (lv_at hl 1 rfl) ?_
    refine zz_iadd hx hb dX7_time_19 ?_
    obtain ⟨hg, hf⟩ := zq_gd hf
    refine zz_iald (i := (4 + p1)) hx hb hK hP 1 rfl (Nat.le_of_ble_eq_true rfl) hg dX7_time_20 ?_
    refine lv_goto (tgt := 25) hx hb dX7_time_21 (by decide) ?_
    have hf := zq_some hf
    cases hf
    exact W.iret hx hb hr (fun t ht hW => ⟨⟨_, (), rfl, rfl, by rw [ht]; exact hP, hD⟩, hS.F ht⟩) hS.2.2 dX7_time_25

noncomputable def st_X7_keepAct (mNow : Nat → Int) : (Nat × Int × Int × (Nat → Int)) → Option ((Nat × Int × Int × (Nat → Int)) ⊕ (Int × (Nat → Int))) := fun v => match v with
  | (0, x1, macts, mWas) =>
  gd (zR x1 ∧ zR 99) <|
  if x1 < 99 then
    gd (zin (x1 + 11) 110) <|
    gd (zin x1 110) <|
    some (.inl (0, (x1 + 1), macts, (zup mWas x1 (mWas (Int.toNat (x1 + 11))))))
  else
    some (.inl (1, 0, (macts - 1), mWas))
  | (1, x1, macts, mWas) =>
  gd (zR x1 ∧ zR 11) <|
  if x1 < 11 then
    gd (zin x1 11) <|
    gd (zin ((11 * macts) + x1) 110) <|
    some (.inl (1, (x1 + 1), macts, (zup mWas ((11 * macts) + x1) (mNow (Int.toNat x1)))))
  else
    some (.inr ((macts + 1), mWas))
  | _ => none
noncomputable def f_X7_keepAct (macts : Int) (mNow : Nat → Int) (mWas : Nat → Int) : Option (Int × (Nat → Int)) :=
  gd (zR macts ∧ zR 10) <|
  if macts = 10 then
    zev (st_X7_keepAct mNow) (0, 0, macts, mWas)
  else
    zev (st_X7_keepAct mNow) (1, 0, macts, mWas)
theorem m_X7_keepAct_1 : (.fieldLink RX7 116 "PulseTurnsModel" "acts" "I" : Cond) ∈ wsX7_keepAct := List.mem_of_getElem? (i := 1) rfl
theorem m_X7_keepAct_2 : (.fieldLink RX7 52 "PulseTurnsModel" "was" "[I" : Cond) ∈ wsX7_keepAct := List.mem_of_getElem? (i := 2) rfl
theorem m_X7_keepAct_3 : (.fieldLink RX7 46 "PulseTurnsModel" "now" "[I" : Cond) ∈ wsX7_keepAct := List.mem_of_getElem? (i := 3) rfl
theorem u_X7_keepAct_X7 : ∀ w ∈ wsX70, w ∈ wsX7_keepAct := fun w h => List.mem_cons_of_mem _ (List.mem_append_right _ h)
set_option maxRecDepth 100000 in
set_option maxHeartbeats 4000000 in
theorem c_X7_keepAct (l : Launch) (D : va_G) (cy : Nat → ClassId) (mO mQtext mQnow mQfresh mQwas mQisKept mQkept mQheard mQnumber mQlowUp mQlowDown mQhighUp mQhighDown mQseen mQfirst : Nat) (sz : Nat) (mth : Int) (mmany : Int) (mcur : Int) (mst : Int) (mtok : Int) (mval : Int) (macts : Int) (mlev : Int) (memp : Int) (mNow : Nat → Int) (mWas : Nat → Int) {macts' : Int} {mWas' : Nat → Int} (hf : f_X7_keepAct macts mNow mWas = some (macts', mWas')) : zMv l yX7_keepAct wsX7_keepAct ({ frames := 0, cells := 0, slots := 0, locals := 0 }) D cy sz [.ref mO] [eO mO 6 [.int (zI mth), .ref mQtext, .int (zI mmany), .int (zI mcur), .int (zI mst), .int (zI mtok), .int (zI mval), .ref mQnow, .ref mQfresh, .ref mQwas, .int (zI macts), .ref mQisKept, .ref mQkept, .ref mQheard, .ref mQnumber, .ref mQlowUp, .ref mQlowDown, .ref mQhighUp, .ref mQhighDown, .int (zI mlev), .ref mQseen, .int (zI memp), .ref mQfirst], eA mQnow (cy 0) 11 mNow, eA mQwas (cy 0) 110 mWas] [eO mO 6 [.int (zI mth), .ref mQtext, .int (zI mmany), .int (zI mcur), .int (zI mst), .int (zI mtok), .int (zI mval), .ref mQnow, .ref mQfresh, .ref mQwas, .int (zI macts'), .ref mQisKept, .ref mQkept, .ref mQheard, .ref mQnumber, .ref mQlowUp, .ref mQlowDown, .ref mQhighUp, .ref mQhighDown, .int (zI mlev), .ref mQseen, .int (zI memp), .ref mQfirst], eA mQnow (cy 0) 11 mNow, eA mQwas (cy 0) 110 mWas'] := by
  refine Met.ofW (cc := cX7_keepAct) (maxL := 2) (ret := none) (by decide) rfl ?_
  intro p e s m args below meth c s₁ B hml hv
  obtain ⟨rfl, hsz, hP, hK, hD0⟩ := hv
  have hx := B.exec
  have hb := B.bytes
  have hr := B.returns
  have hts := atoms_spec (ws := wsX7_keepAct) B.pre
  have hown : s.vm.findClass RX7 = some m.cls := findClass_of_methodNamed B.named
  have hlocks := B.notSynchronized
  subst hsz
  have hD := hD0.self (sz := s.heap.size)
  generalize hAe : va_A [eO mO 6 [.int (zI mth), .ref mQtext, .int (zI mmany), .int (zI mcur), .int (zI mst), .int (zI mtok), .int (zI mval), .ref mQnow, .ref mQfresh, .ref mQwas, .int (zI macts), .ref mQisKept, .ref mQkept, .ref mQheard, .ref mQnumber, .ref mQlowUp, .ref mQlowDown, .ref mQhighUp, .ref mQhighDown, .int (zI mlev), .ref mQseen, .int (zI memp), .ref mQfirst], eA mQnow (cy 0) 11 mNow, eA mQwas (cy 0) 110 mWas] s.heap.size = A at hD ⊢
  have hA : ∀ q : Nat, s.heap.size ≤ q → A q := fun q h => by rw [← hAe]; exact Or.inr h
  have hS : va_S A s.heap s.heap [] := va_S.rf
  have hl := lv_entry ([.ref mO]) (n := 2) (Nat.le_of_ble_eq_true rfl)
  rw [lg_entry_eq]
  generalize (lg_sl ([.ref mO]) ++ List.replicate (2 - (lg_sl ([.ref mO])).length) Slot.unset).toArray = ls at hl ⊢
  have hl : lv_has ls 2 [(0, .ref mO)] := hl
  have hf := zq_of hf
  have key := zloop (st := st_X7_keepAct mNow) (res := (macts', mWas')) (K := fun v => match v with
    | (0, x1, macts, mWas) => ∀ (H : Heap) (locs : List Loc) (ls : Array Slot), va_P D vwCl [eO mO 6 [.int (zI mth), .ref mQtext, .int (zI mmany), .int (zI mcur), .int (zI mst), .int (zI mtok), .int (zI mval), .ref mQnow, .ref mQfresh, .ref mQwas, .int (zI macts), .ref mQisKept, .ref mQkept, .ref mQheard, .ref mQnumber, .ref mQlowUp, .ref mQlowDown, .ref mQhighUp, .ref mQhighDown, .int (zI mlev), .ref mQseen, .int (zI memp), .ref mQfirst], eA mQnow (cy 0) 11 mNow, eA mQwas (cy 0) 110 mWas] H → va_D A [eO mO 6 [.int (zI mth), .ref mQtext, .int (zI mmany), .int (zI mcur), .int (zI mst), .int (zI mtok), .int (zI mval), .ref mQnow, .ref mQfresh, .ref mQwas, .int (zI macts), .ref mQisKept, .ref mQkept, .ref mQheard, .ref mQnumber, .ref mQlowUp, .ref mQlowDown, .ref mQhighUp, .ref mQhighDown, .int (zI mlev), .ref mQseen, .int (zI memp), .ref mQfirst], eA mQnow (cy 0) 11 mNow, eA mQwas (cy 0) 110 mWas] → va_S A s.heap H locs → lv_has ls 2 [(0, .ref mO), (1, .int (zI x1))] → zGv p l e wsX7_keepAct ({ frames := 0, cells := 0, slots := 0, locals := 0 }) s m [.ref mO] below meth c A D [eO mO 6 [.int (zI mth), .ref mQtext, .int (zI mmany), .int (zI mcur), .int (zI mst), .int (zI mtok), .int (zI mval), .ref mQnow, .ref mQfresh, .ref mQwas, .int (zI macts'), .ref mQisKept, .ref mQkept, .ref mQheard, .ref mQnumber, .ref mQlowUp, .ref mQlowDown, .ref mQhighUp, .ref mQhighDown, .int (zI mlev), .ref mQseen, .int (zI memp), .ref mQfirst], eA mQnow (cy 0) 11 mNow, eA mQwas (cy 0) 110 mWas'] H locs (F0 m 11 ls [])
    | (1, x1, macts, mWas) => ∀ (H : Heap) (locs : List Loc) (ls : Array Slot), va_P D vwCl [eO mO 6 [.int (zI mth), .ref mQtext, .int (zI mmany), .int (zI mcur), .int (zI mst), .int (zI mtok), .int (zI mval), .ref mQnow, .ref mQfresh, .ref mQwas, .int (zI macts), .ref mQisKept, .ref mQkept, .ref mQheard, .ref mQnumber, .ref mQlowUp, .ref mQlowDown, .ref mQhighUp, .ref mQhighDown, .int (zI mlev), .ref mQseen, .int (zI memp), .ref mQfirst], eA mQnow (cy 0) 11 mNow, eA mQwas (cy 0) 110 mWas] H → va_D A [eO mO 6 [.int (zI mth), .ref mQtext, .int (zI mmany), .int (zI mcur), .int (zI mst), .int (zI mtok), .int (zI mval), .ref mQnow, .ref mQfresh, .ref mQwas, .int (zI macts), .ref mQisKept, .ref mQkept, .ref mQheard, .ref mQnumber, .ref mQlowUp, .ref mQlowDown, .ref mQhighUp, .ref mQhighDown, .int (zI mlev), .ref mQseen, .int (zI memp), .ref mQfirst], eA mQnow (cy 0) 11 mNow, eA mQwas (cy 0) 110 mWas] → va_S A s.heap H locs → lv_has ls 2 [(0, .ref mO), (1, .int (zI x1))] → zGv p l e wsX7_keepAct ({ frames := 0, cells := 0, slots := 0, locals := 0 }) s m [.ref mO] below meth c A D [eO mO 6 [.int (zI mth), .ref mQtext, .int (zI mmany), .int (zI mcur), .int (zI mst), .int (zI mtok), .int (zI mval), .ref mQnow, .ref mQfresh, .ref mQwas, .int (zI macts'), .ref mQisKept, .ref mQkept, .ref mQheard, .ref mQnumber, .ref mQlowUp, .ref mQlowDown, .ref mQhighUp, .ref mQhighDown, .int (zI mlev), .ref mQseen, .int (zI memp), .ref mQfirst], eA mQnow (cy 0) 11 mNow, eA mQwas (cy 0) 110 mWas'] H locs (F0 m 50 ls [])
    | _ => True) (by
    rintro ⟨k, x1, macts, mWas⟩ hf
    match k, hf with
    | 0, hf =>
      intro H locs ls hP hD hS hl
      unfold st_X7_keepAct at hf
      try dsimp only at hf
      refine lv_iload_n hx hb dX7_keepAct_11 rfl (lv_at hl 1 rfl) ?_
      refine lv_bipush (v := zI 99) hx hb dX7_keepAct_12 (by decide) ?_
      refine zz_icmp_ge (tgt := 38) hx hb dX7_keepAct_14 (by decide) hf (fun hc hf => ?_) (fun hc hf => ?_)
      · refine lv_aload_n hx hb dX7_keepAct_17 rfl (lv_at hl 0 rfl) ?_
        refine va_get (D := D) (ci := 6) (v := .ref mQwas) (C := RX7) (T := TX7) (N := 23) hx hb hts u_X7_keepAct_X7 hown hK.1 hP 0 rfl rfl 9 (by decide) (hts _ m_X7_keepAct_2) (fun _ h9 => h9) rfl dX7_keepAct_18 ?_
        refine lv_iload_n hx hb dX7_keepAct_21 rfl (lv_at hl 1 rfl) ?_
        refine lv_aload_n hx hb dX7_keepAct_22 rfl (lv_at hl 0 rfl) ?_
        refine va_get (D := D) (ci := 6) (v := .ref mQwas) (C := RX7) (T := TX7) (N := 23) hx hb hts u_X7_keepAct_X7 hown hK.1 hP 0 rfl rfl 9 (by decide) (hts _ m_X7_keepAct_2) (fun _ h9 => h9) rfl dX7_keepAct_23 ?_
        refine lv_iload_n hx hb dX7_keepAct_26 rfl (lv_at hl 1 rfl) ?_
        refine lv_bipush (v := zI 11) hx hb dX7_keepAct_27 (by decide) ?_
        refine zz_iadd hx hb dX7_keepAct_29 ?_
        obtain ⟨hg, hf⟩ := zq_gd hf
        refine zz_iald (i := (x1 + 11)) hx hb hK hP 2 rfl (Nat.le_of_ble_eq_true rfl) hg dX7_keepAct_30 ?_
        obtain ⟨hg, hf⟩ := zq_gd hf
        refine zz_iast (i := x1) hx hb hK hP hD hS 2 rfl (Nat.le_of_ble_eq_true rfl) hg dX7_keepAct_31 (fun H locs hP hD hS => ?_)
        have hP : va_P D vwCl [eO mO 6 [.int (zI mth), .ref mQtext, .int (zI mmany), .int (zI mcur), .int (zI mst), .int (zI mtok), .int (zI mval), .ref mQnow, .ref mQfresh, .ref mQwas, .int (zI macts), .ref mQisKept, .ref mQkept, .ref mQheard, .ref mQnumber, .ref mQlowUp, .ref mQlowDown, .ref mQhighUp, .ref mQhighDown, .int (zI mlev), .ref mQseen, .int (zI memp), .ref mQfirst], eA mQnow (cy 0) 11 mNow, eA mQwas (cy 0) 110 (zup mWas x1 (mWas (Int.toNat (x1 + 11))))] H := hP
        have hD : va_D A [eO mO 6 [.int (zI mth), .ref mQtext, .int (zI mmany), .int (zI mcur), .int (zI mst), .int (zI mtok), .int (zI mval), .ref mQnow, .ref mQfresh, .ref mQwas, .int (zI macts), .ref mQisKept, .ref mQkept, .ref mQheard, .ref mQnumber, .ref mQlowUp, .ref mQlowDown, .ref mQhighUp, .ref mQhighDown, .int (zI mlev), .ref mQseen, .int (zI memp), .ref mQfirst], eA mQnow (cy 0) 11 mNow, eA mQwas (cy 0) 110 (zup mWas x1 (mWas (Int.toNat (x1 + 11))))] := hD
        refine lv_iinc (v := zI (x1 + 1)) (lv' := [(1, .int (zI (x1 + 1))), (0, .ref mO)]) hx hb dX7_keepAct_32 hl (k := 1) rfl (zI_add _ _) (by decide) rfl (fun ls hl => ?_)
        refine lv_goto (tgt := 11) hx hb dX7_keepAct_35 (by decide) ?_
        have hf := zq_some hf
        exact hf _ _ _ hP hD hS (lv_sub hl [1, 0] rfl)
      · refine lv_aload_n hx hb dX7_keepAct_38 rfl (lv_at hl 0 rfl) ?_
        refine lv_dup hx hb dX7_keepAct_39 rfl ?_
        refine va_get (D := D) (ci := 6) (v := .int (zI macts)) (C := RX7) (T := TX7) (N := 23) hx hb hts u_X7_keepAct_X7 hown hK.1 hP 0 rfl rfl 10 (by decide) (hts _ m_X7_keepAct_1) (fun _ h9 => h9) rfl dX7_keepAct_40 ?_
        refine lv_iconst (v := zI 1) hx hb dX7_keepAct_43 rfl ?_
        refine zz_isub hx hb dX7_keepAct_44 ?_
        refine va_put (D := D) (ci := 6) (v := .int (zI (macts - 1))) (ty := .int) (C := RX7) (T := TX7) (N := 23) hx hb hts u_X7_keepAct_X7 tyX7 tyX7_ok nmX7 hown hK.1 hP hD hS 0 rfl rfl 10 (by decide) (hts _ m_X7_keepAct_1) (fun _ h9 => h9) rfl (tyX7_ok 10 (by decide)) rfl rfl (Nat.le_of_ble_eq_true rfl) dX7_keepAct_45 (fun H locs hP hD hS => ?_)
        have hP : va_P D vwCl [eO mO 6 [.int (zI mth), .ref mQtext, .int (zI mmany), .int (zI mcur), .int (zI mst), .int (zI mtok), .int (zI mval), .ref mQnow, .ref mQfresh, .ref mQwas, .int (zI (macts - 1)), .ref mQisKept, .ref mQkept, .ref mQheard, .ref mQnumber, .ref mQlowUp, .ref mQlowDown, .ref mQhighUp, .ref mQhighDown, .int (zI mlev), .ref mQseen, .int (zI memp), .ref mQfirst], eA mQnow (cy 0) 11 mNow, eA mQwas (cy 0) 110 mWas] H := hP
        have hD : va_D A [eO mO 6 [.int (zI mth), .ref mQtext, .int (zI mmany), .int (zI mcur), .int (zI mst), .int (zI mtok), .int (zI mval), .ref mQnow, .ref mQfresh, .ref mQwas, .int (zI (macts - 1)), .ref mQisKept, .ref mQkept, .ref mQheard, .ref mQnumber, .ref mQlowUp, .ref mQlowDown, .ref mQhighUp, .ref mQhighDown, .int (zI mlev), .ref mQseen, .int (zI memp), .ref mQfirst], eA mQnow (cy 0) 11 mNow, eA mQwas (cy 0) 110 mWas] := hD
        refine lv_iconst (v := zI 0) hx hb dX7_keepAct_48 rfl ?_
        refine lv_istore_n (lv' := [(1, .int (zI 0)), (0, .ref mO)]) hx hb dX7_keepAct_49 rfl hl (by decide) rfl (fun ls hl => ?_)
        have hf := zq_some hf
        exact hf _ _ _ hP hD hS (lv_sub hl [1, 0] rfl)
    | 1, hf =>
      intro H locs ls hP hD hS hl
      unfold st_X7_keepAct at hf
      try dsimp only at hf
      refine lv_iload_n hx hb dX7_keepAct_50 rfl (lv_at hl 1 rfl) ?_
      refine lv_bipush (v := zI 11) hx hb dX7_keepAct_51 (by decide) ?_
      refine zz_icmp_ge (tgt := 82) hx hb dX7_keepAct_53 (by decide) hf (fun hc hf => ?_) (fun hc hf => ?_)
      · refine lv_aload_n hx hb dX7_keepAct_56 rfl (lv_at hl 0 rfl) ?_
        refine va_get (D := D) (ci := 6) (v := .ref mQwas) (C := RX7) (T := TX7) (N := 23) hx hb hts u_X7_keepAct_X7 hown hK.1 hP 0 rfl rfl 9 (by decide) (hts _ m_X7_keepAct_2) (fun _ h9 => h9) rfl dX7_keepAct_57 ?_
        refine lv_bipush (v := zI 11) hx hb dX7_keepAct_60 (by decide) ?_
        refine lv_aload_n hx hb dX7_keepAct_62 rfl (lv_at hl 0 rfl) ?_
        refine va_get (D := D) (ci := 6) (v := .int (zI macts)) (C := RX7) (T := TX7) (N := 23) hx hb hts u_X7_keepAct_X7 hown hK.1 hP 0 rfl rfl 10 (by decide) (hts _ m_X7_keepAct_1) (fun _ h9 => h9) rfl dX7_keepAct_63 ?_
        refine zz_imul hx hb dX7_keepAct_66 ?_
        refine lv_iload_n hx hb dX7_keepAct_67 rfl (lv_at hl 1 rfl) ?_
        refine zz_iadd hx hb dX7_keepAct_68 ?_
        refine lv_aload_n hx hb dX7_keepAct_69 rfl (lv_at hl 0 rfl) ?_
        refine va_get (D := D) (ci := 6) (v := .ref mQnow) (C := RX7) (T := TX7) (N := 23) hx hb hts u_X7_keepAct_X7 hown hK.1 hP 0 rfl rfl 7 (by decide) (hts _ m_X7_keepAct_3) (fun _ h9 => h9) rfl dX7_keepAct_70 ?_
        refine lv_iload_n hx hb dX7_keepAct_73 rfl (lv_at hl 1 rfl) ?_
        obtain ⟨hg, hf⟩ := zq_gd hf
        refine zz_iald (i := x1) hx hb hK hP 1 rfl (Nat.le_of_ble_eq_true rfl) hg dX7_keepAct_74 ?_
        obtain ⟨hg, hf⟩ := zq_gd hf
        refine zz_iast (i := ((11 * macts) + x1)) hx hb hK hP hD hS 2 rfl (Nat.le_of_ble_eq_true rfl) hg dX7_keepAct_75 (fun H locs hP hD hS => ?_)
        have hP : va_P D vwCl [eO mO 6 [.int (zI mth), .ref mQtext, .int (zI mmany), .int (zI mcur), .int (zI mst), .int (zI mtok), .int (zI mval), .ref mQnow, .ref mQfresh, .ref mQwas, .int (zI macts), .ref mQisKept, .ref mQkept, .ref mQheard, .ref mQnumber, .ref mQlowUp, .ref mQlowDown, .ref mQhighUp, .ref mQhighDown, .int (zI mlev), .ref mQseen, .int (zI memp), .ref mQfirst], eA mQnow (cy 0) 11 mNow, eA mQwas (cy 0) 110 (zup mWas ((11 * macts) + x1) (mNow (Int.toNat x1)))] H := hP
        have hD : va_D A [eO mO 6 [.int (zI mth), .ref mQtext, .int (zI mmany), .int (zI mcur), .int (zI mst), .int (zI mtok), .int (zI mval), .ref mQnow, .ref mQfresh, .ref mQwas, .int (zI macts), .ref mQisKept, .ref mQkept, .ref mQheard, .ref mQnumber, .ref mQlowUp, .ref mQlowDown, .ref mQhighUp, .ref mQhighDown, .int (zI mlev), .ref mQseen, .int (zI memp), .ref mQfirst], eA mQnow (cy 0) 11 mNow, eA mQwas (cy 0) 110 (zup mWas ((11 * macts) + x1) (mNow (Int.toNat x1)))] := hD
        refine lv_iinc (v := zI (x1 + 1)) (lv' := [(1, .int (zI (x1 + 1))), (0, .ref mO)]) hx hb dX7_keepAct_76 hl (k := 1) rfl (zI_add _ _) (by decide) rfl (fun ls hl => ?_)
        refine lv_goto (tgt := 50) hx hb dX7_keepAct_79 (by decide) ?_
        have hf := zq_some hf
        exact hf _ _ _ hP hD hS (lv_sub hl [1, 0] rfl)
      · refine lv_aload_n hx hb dX7_keepAct_82 rfl (lv_at hl 0 rfl) ?_
        refine lv_dup hx hb dX7_keepAct_83 rfl ?_
        refine va_get (D := D) (ci := 6) (v := .int (zI macts)) (C := RX7) (T := TX7) (N := 23) hx hb hts u_X7_keepAct_X7 hown hK.1 hP 0 rfl rfl 10 (by decide) (hts _ m_X7_keepAct_1) (fun _ h9 => h9) rfl dX7_keepAct_84 ?_
        refine lv_iconst (v := zI 1) hx hb dX7_keepAct_87 rfl ?_
        refine zz_iadd hx hb dX7_keepAct_88 ?_
        refine va_put (D := D) (ci := 6) (v := .int (zI (macts + 1))) (ty := .int) (C := RX7) (T := TX7) (N := 23) hx hb hts u_X7_keepAct_X7 tyX7 tyX7_ok nmX7 hown hK.1 hP hD hS 0 rfl rfl 10 (by decide) (hts _ m_X7_keepAct_1) (fun _ h9 => h9) rfl (tyX7_ok 10 (by decide)) rfl rfl (Nat.le_of_ble_eq_true rfl) dX7_keepAct_89 (fun H locs hP hD hS => ?_)
        have hP : va_P D vwCl [eO mO 6 [.int (zI mth), .ref mQtext, .int (zI mmany), .int (zI mcur), .int (zI mst), .int (zI mtok), .int (zI mval), .ref mQnow, .ref mQfresh, .ref mQwas, .int (zI (macts + 1)), .ref mQisKept, .ref mQkept, .ref mQheard, .ref mQnumber, .ref mQlowUp, .ref mQlowDown, .ref mQhighUp, .ref mQhighDown, .int (zI mlev), .ref mQseen, .int (zI memp), .ref mQfirst], eA mQnow (cy 0) 11 mNow, eA mQwas (cy 0) 110 mWas] H := hP
        have hD : va_D A [eO mO 6 [.int (zI mth), .ref mQtext, .int (zI mmany), .int (zI mcur), .int (zI mst), .int (zI mtok), .int (zI mval), .ref mQnow, .ref mQfresh, .ref mQwas, .int (zI (macts + 1)), .ref mQisKept, .ref mQkept, .ref mQheard, .ref mQnumber, .ref mQlowUp, .ref mQlowDown, .ref mQhighUp, .ref mQhighDown, .int (zI mlev), .ref mQseen, .int (zI memp), .ref mQfirst], eA mQnow (cy 0) 11 mNow, eA mQwas (cy 0) 110 mWas] := hD
        have hf := zq_some hf
        cases hf
        exact W.vret hx hb hr (fun t ht hW => ⟨⟨(), rfl, trivial, by rw [ht]; exact hP, hD⟩, hS.F ht⟩) hS.2.2 dX7_keepAct_92
    | n + 2, hf => exact hf.elim)
  unfold f_X7_keepAct at hf
  refine lv_aload_n hx hb dX7_keepAct_0 rfl (lv_at hl 0 rfl) ?_
  refine va_get (D := D) (ci := 6) (v := .int (zI macts)) (C := RX7) (T := TX7) (N := 23) hx hb hts u_X7_keepAct_X7 hown hK.1 hP 0 rfl rfl 10 (by decide) (hts _ m_X7_keepAct_1) (fun _ h9 => h9) rfl dX7_keepAct_1 ?_
  refine lv_bipush (v := zI 10) hx hb dX7_keepAct_4 (by decide) ?_
  refine zz_icmp_ne (tgt := 48) hx hb dX7_keepAct_6 (by decide) hf (fun hc hf => ?_) (fun hc hf => ?_)
  · refine lv_iconst (v := zI 0) hx hb dX7_keepAct_9 rfl ?_
    refine lv_istore_n (lv' := [(1, .int (zI 0)), (0, .ref mO)]) hx hb dX7_keepAct_10 rfl hl (by decide) rfl (fun ls hl => ?_)
    exact key _ (zq_eq hf) _ _ _ hP hD hS (lv_sub hl [1, 0] rfl)
  · refine lv_iconst (v := zI 0) hx hb dX7_keepAct_48 rfl ?_
    refine lv_istore_n (lv' := [(1, .int (zI 0)), (0, .ref mO)]) hx hb dX7_keepAct_49 rfl hl (by decide) rfl (fun ls hl => ?_)
    exact key _ (zq_eq hf) _ _ _ hP hD hS (lv_sub hl [1, 0] rfl)

noncomputable def f_X7_adds (p1 : Int) (macts : Int) (mNow : Nat → Int) (mWas : Nat → Int) : Option (Int × Int × Int × (Nat → Int) × (Nat → Int)) :=
  gd (zR p1) <|
  (f_X7_in p1 0 2999).bind fun r11 =>
  gd (zR r11) <|
  if r11 = 0 then
    some ((-1), 0, macts, mNow, mWas)
  else
    (f_X7_placeOf p1 mNow).bind fun r24 =>
    gd (zR r24) <|
    if r24 < 0 then
      gd (zR (mNow 0) ∧ zR 7) <|
      if (mNow 0) = 7 then
        some ((-3), 0, macts, mNow, mWas)
      else
        (f_X7_keepAct macts mNow mWas).bind fun (macts_48, mWas_48) =>
        (f_X7_put p1 mNow).bind fun qR_56 =>
        (f_X7_placeOf p1 qR_56).bind fun r64 =>
        some (r64, 0, macts_48, qR_56, mWas_48)
    else
      some ((-2), 0, macts, mNow, mWas)
theorem m_X7_adds_1 : (.fieldLink RX7 1 "PulseTurnsModel" "thrown" "I" : Cond) ∈ wsX7_adds := List.mem_of_getElem? (i := 1) rfl
theorem m_X7_adds_2 : (.constantLong RX7 123 (2999) : Cond) ∈ wsX7_adds := List.mem_of_getElem? (i := 2) rfl
theorem m_X7_adds_3 : (.fieldLink RX7 46 "PulseTurnsModel" "now" "[I" : Cond) ∈ wsX7_adds := List.mem_of_getElem? (i := 3) rfl
theorem u_X7_adds_X7 : ∀ w ∈ wsX70, w ∈ wsX7_adds := fun w h => List.mem_cons_of_mem _ (List.mem_append_right _ h)
set_option maxRecDepth 100000 in
set_option maxHeartbeats 4000000 in
theorem c_X7_adds (l : Launch) (D : va_G) (cy : Nat → ClassId) (mO mQtext mQnow mQfresh mQwas mQisKept mQkept mQheard mQnumber mQlowUp mQlowDown mQhighUp mQhighDown mQseen mQfirst : Nat) (sz : Nat) (p1 : Int) (mth : Int) (mmany : Int) (mcur : Int) (mst : Int) (mtok : Int) (mval : Int) (macts : Int) (mlev : Int) (memp : Int) (mNow : Nat → Int) (mWas : Nat → Int) {r : Int} {mth' : Int} {macts' : Int} {mNow' : Nat → Int} {mWas' : Nat → Int} (hf : f_X7_adds p1 macts mNow mWas = some (r, mth', macts', mNow', mWas')) : zMi l yX7_adds wsX7_adds ({ frames := 2, cells := 0, slots := 0, locals := 45 }) D cy sz [.ref mO, .int (zI p1)] [eO mO 6 [.int (zI mth), .ref mQtext, .int (zI mmany), .int (zI mcur), .int (zI mst), .int (zI mtok), .int (zI mval), .ref mQnow, .ref mQfresh, .ref mQwas, .int (zI macts), .ref mQisKept, .ref mQkept, .ref mQheard, .ref mQnumber, .ref mQlowUp, .ref mQlowDown, .ref mQhighUp, .ref mQhighDown, .int (zI mlev), .ref mQseen, .int (zI memp), .ref mQfirst], eA mQnow (cy 0) 11 mNow, eA mQwas (cy 0) 110 mWas] [eO mO 6 [.int (zI mth'), .ref mQtext, .int (zI mmany), .int (zI mcur), .int (zI mst), .int (zI mtok), .int (zI mval), .ref mQnow, .ref mQfresh, .ref mQwas, .int (zI macts'), .ref mQisKept, .ref mQkept, .ref mQheard, .ref mQnumber, .ref mQlowUp, .ref mQlowDown, .ref mQhighUp, .ref mQhighDown, .int (zI mlev), .ref mQseen, .int (zI memp), .ref mQfirst], eA mQnow (cy 0) 11 mNow', eA mQwas (cy 0) 110 mWas'] (zI r) := by
  refine Met.ofW (cc := cX7_adds) (maxL := 2) (ret := (some .int)) (by decide) rfl ?_
  intro p e s m args below meth c s₁ B hml hv
  obtain ⟨rfl, hsz, hP, hK, hD0⟩ := hv
  have hx := B.exec
  have hb := B.bytes
  have hr := B.returns
  have hts := atoms_spec (ws := wsX7_adds) B.pre
  have hown : s.vm.findClass RX7 = some m.cls := findClass_of_methodNamed B.named
  have hlocks := B.notSynchronized
  subst hsz
  have hD := hD0.self (sz := s.heap.size)
  generalize hAe : va_A [eO mO 6 [.int (zI mth), .ref mQtext, .int (zI mmany), .int (zI mcur), .int (zI mst), .int (zI mtok), .int (zI mval), .ref mQnow, .ref mQfresh, .ref mQwas, .int (zI macts), .ref mQisKept, .ref mQkept, .ref mQheard, .ref mQnumber, .ref mQlowUp, .ref mQlowDown, .ref mQhighUp, .ref mQhighDown, .int (zI mlev), .ref mQseen, .int (zI memp), .ref mQfirst], eA mQnow (cy 0) 11 mNow, eA mQwas (cy 0) 110 mWas] s.heap.size = A at hD ⊢
  have hA : ∀ q : Nat, s.heap.size ≤ q → A q := fun q h => by rw [← hAe]; exact Or.inr h
  have hS : va_S A s.heap s.heap [] := va_S.rf
  have hl := lv_entry ([.ref mO, .int (zI p1)]) (n := 2) (Nat.le_of_ble_eq_true rfl)
  rw [lg_entry_eq]
  generalize (lg_sl ([.ref mO, .int (zI p1)]) ++ List.replicate (2 - (lg_sl ([.ref mO, .int (zI p1)])).length) Slot.unset).toArray = ls at hl ⊢
  have hl : lv_has ls 2 [(0, .ref mO), (1, .int (zI p1))] := hl
  have hf := zq_of hf
  unfold f_X7_adds at hf
  refine lv_aload_n hx hb dX7_adds_0 rfl (lv_at hl 0 rfl) ?_
  refine lv_iconst (v := zI 0) hx hb dX7_adds_1 rfl ?_
  refine va_put (D := D) (ci := 6) (v := .int (zI 0)) (ty := .int) (C := RX7) (T := TX7) (N := 23) hx hb hts u_X7_adds_X7 tyX7 tyX7_ok nmX7 hown hK.1 hP hD hS 0 rfl rfl 0 (by decide) (hts _ m_X7_adds_1) (fun _ h9 => h9) rfl (tyX7_ok 0 (by decide)) rfl rfl (Nat.le_of_ble_eq_true rfl) dX7_adds_2 (fun H locs hP hD hS => ?_)
  have hP : va_P D vwCl [eO mO 6 [.int (zI 0), .ref mQtext, .int (zI mmany), .int (zI mcur), .int (zI mst), .int (zI mtok), .int (zI mval), .ref mQnow, .ref mQfresh, .ref mQwas, .int (zI macts), .ref mQisKept, .ref mQkept, .ref mQheard, .ref mQnumber, .ref mQlowUp, .ref mQlowDown, .ref mQhighUp, .ref mQhighDown, .int (zI mlev), .ref mQseen, .int (zI memp), .ref mQfirst], eA mQnow (cy 0) 11 mNow, eA mQwas (cy 0) 110 mWas] H := hP
  have hD : va_D A [eO mO 6 [.int (zI 0), .ref mQtext, .int (zI mmany), .int (zI mcur), .int (zI mst), .int (zI mtok), .int (zI mval), .ref mQnow, .ref mQfresh, .ref mQwas, .int (zI macts), .ref mQisKept, .ref mQkept, .ref mQheard, .ref mQnumber, .ref mQlowUp, .ref mQlowDown, .ref mQhighUp, .ref mQhighDown, .int (zI mlev), .ref mQseen, .int (zI memp), .ref mQfirst], eA mQnow (cy 0) 11 mNow, eA mQwas (cy 0) 110 mWas] := hD
  refine lv_iload_n hx hb dX7_adds_5 rfl (lv_at hl 1 rfl) ?_
  obtain ⟨hg, hf⟩ := zq_gd hf
  refine lv_i2l (v := zL p1) hx hb dX7_adds_6 (zL_i hg) ?_
  refine lv_lconst (v := zL 0) hx hb dX7_adds_7 (by decide) ?_
  refine lv_ldc2 (v := zL 2999) hx hb hown (hts _ m_X7_adds_2) dX7_adds_8 ?_
  obtain ⟨r11, hc11, hf⟩ := zq_bind hf
  refine zcallSi (wr := [eO mO 6 [.int (zI 0), .ref mQtext, .int (zI mmany), .int (zI mcur), .int (zI mst), .int (zI mtok), .int (zI mval), .ref mQnow, .ref mQfresh, .ref mQwas, .int (zI macts), .ref mQisKept, .ref mQkept, .ref mQheard, .ref mQnumber, .ref mQlowUp, .ref mQlowDown, .ref mQhighUp, .ref mQhighDown, .int (zI mlev), .ref mQseen, .int (zI memp), .ref mQfirst], eA mQnow (cy 0) 11 mNow, eA mQwas (cy 0) 110 mWas]) (rest := []) ⟨hx, hb, hml, hown, hts⟩ (c_X7_in l D cy H.size p1 0 2999 hc11) (va_cwS 3 hts gX7_adds_X7_in rfl rfl rfl (by decide +kernel) ⟨Nat.le_of_ble_eq_true rfl, Nat.le_of_ble_eq_true rfl⟩) hK hP hD hS hA [] [0, 1, 2] rfl rfl rfl rfl (by decide) rfl hl.1 rfl (Nat.le_of_ble_eq_true rfl) dX7_adds_11 ⟨Nat.zero_le _, Nat.zero_le _⟩ (fun H locs hP hD hS => ?_)
  have hP : va_P D vwCl [eO mO 6 [.int (zI 0), .ref mQtext, .int (zI mmany), .int (zI mcur), .int (zI mst), .int (zI mtok), .int (zI mval), .ref mQnow, .ref mQfresh, .ref mQwas, .int (zI macts), .ref mQisKept, .ref mQkept, .ref mQheard, .ref mQnumber, .ref mQlowUp, .ref mQlowDown, .ref mQhighUp, .ref mQhighDown, .int (zI mlev), .ref mQseen, .int (zI memp), .ref mQfirst], eA mQnow (cy 0) 11 mNow, eA mQwas (cy 0) 110 mWas] H := hP.sub [0, 1, 2] rfl
  have hD : va_D A [eO mO 6 [.int (zI 0), .ref mQtext, .int (zI mmany), .int (zI mcur), .int (zI mst), .int (zI mtok), .int (zI mval), .ref mQnow, .ref mQfresh, .ref mQwas, .int (zI macts), .ref mQisKept, .ref mQkept, .ref mQheard, .ref mQnumber, .ref mQlowUp, .ref mQlowDown, .ref mQhighUp, .ref mQhighDown, .int (zI mlev), .ref mQseen, .int (zI memp), .ref mQfirst], eA mQnow (cy 0) 11 mNow, eA mQwas (cy 0) 110 mWas] := hD.sub [0, 1, 2] rfl rfl
  refine zz_if_ne (tgt := 19) hx hb dX7_adds_14 (by decide) hf (fun hc hf => ?_) (fun hc hf => ?_)
  · refine lv_iconst (v := zI (-1)) hx hb dX7_adds_17 rfl ?_
    have hf := zq_some hf
    cases hf
    exact W.iret hx hb hr (fun t ht hW => ⟨⟨_, (), rfl, rfl, by rw [ht]; exact hP, hD⟩, hS.F ht⟩) hS.2.2 dX7_adds_18
  · refine lv_aload_n hx hb dX7_adds_19 rfl (lv_at hl 0 rfl) ?_
    refine va_get (D := D) (ci := 6) (v := .ref mQnow) (C := RX7) (T := TX7) (N := 23) hx hb hts u_X7_adds_X7 hown hK.1 hP 0 rfl rfl 7 (by decide) (hts _ m_X7_adds_3) (fun _ h9 => h9) rfl dX7_adds_20 ?_
    refine lv_iload_n hx hb dX7_adds_23 rfl (lv_at hl 1 rfl) ?_
    obtain ⟨r24, hc24, hf⟩ := zq_bind hf
    refine zcallSi (wr := [eO mO 6 [.int (zI 0), .ref mQtext, .int (zI mmany), .int (zI mcur), .int (zI mst), .int (zI mtok), .int (zI mval), .ref mQnow, .ref mQfresh, .ref mQwas, .int (zI macts), .ref mQisKept, .ref mQkept, .ref mQheard, .ref mQnumber, .ref mQlowUp, .ref mQlowDown, .ref mQhighUp, .ref mQhighDown, .int (zI mlev), .ref mQseen, .int (zI memp), .ref mQfirst], eA mQwas (cy 0) 110 mWas]) (rest := []) ⟨hx, hb, hml, hown, hts⟩ (c_X7_placeOf l D cy mQnow H.size p1 mNow hc24) (va_cwS 2 hts gX7_adds_X7_placeOf rfl rfl rfl (by decide +kernel) ⟨Nat.le_of_ble_eq_true rfl, Nat.le_of_ble_eq_true rfl⟩) hK hP hD hS hA [1] [0, 2] rfl rfl rfl rfl (by decide) rfl hl.1 rfl (Nat.le_of_ble_eq_true rfl) dX7_adds_24 ⟨Nat.zero_le _, Nat.zero_le _⟩ (fun H locs hP hD hS => ?_)
    have hP : va_P D vwCl [eO mO 6 [.int (zI 0), .ref mQtext, .int (zI mmany), .int (zI mcur), .int (zI mst), .int (zI mtok), .int (zI mval), .ref mQnow, .ref mQfresh, .ref mQwas, .int (zI macts), .ref mQisKept, .ref mQkept, .ref mQheard, .ref mQnumber, .ref mQlowUp, .ref mQlowDown, .ref mQhighUp, .ref mQhighDown, .int (zI mlev), .ref mQseen, .int (zI memp), .ref mQfirst], eA mQnow (cy 0) 11 mNow, eA mQwas (cy 0) 110 mWas] H := hP.sub [0, 2, 1] rfl
    have hD : va_D A [eO mO 6 [.int (zI 0), .ref mQtext, .int (zI mmany), .int (zI mcur), .int (zI mst), .int (zI mtok), .int (zI mval), .ref mQnow, .ref mQfresh, .ref mQwas, .int (zI macts), .ref mQisKept, .ref mQkept, .ref mQheard, .ref mQnumber, .ref mQlowUp, .ref mQlowDown, .ref mQhighUp, .ref mQhighDown, .int (zI mlev), .ref mQseen, .int (zI memp), .ref mQfirst], eA mQnow (cy 0) 11 mNow, eA mQwas (cy 0) 110 mWas] := hD.sub [0, 2, 1] rfl rfl
    refine zz_if_lt (tgt := 33) hx hb dX7_adds_27 (by decide) hf (fun hc hf => ?_) (fun hc hf => ?_)
    · refine lv_aload_n hx hb dX7_adds_33 rfl (lv_at hl 0 rfl) ?_
      refine va_get (D := D) (ci := 6) (v := .ref mQnow) (C := RX7) (T := TX7) (N := 23) hx hb hts u_X7_adds_X7 hown hK.1 hP 0 rfl rfl 7 (by decide) (hts _ m_X7_adds_3) (fun _ h9 => h9) rfl dX7_adds_34 ?_
      refine lv_iconst (v := zI 0) hx hb dX7_adds_37 rfl ?_
      refine zz_iald (i := 0) hx hb hK hP 1 rfl (Nat.le_of_ble_eq_true rfl) (by decide) dX7_adds_38 ?_
      refine lv_bipush (v := zI 7) hx hb dX7_adds_39 (by decide) ?_
      refine zz_icmp_ne (tgt := 47) hx hb dX7_adds_41 (by decide) hf (fun hc hf => ?_) (fun hc hf => ?_)
      · refine lv_bipush (v := zI (-3)) hx hb dX7_adds_44 (by decide) ?_
        have hf := zq_some hf
        cases hf
        exact W.iret hx hb hr (fun t ht hW => ⟨⟨_, (), rfl, rfl, by rw [ht]; exact hP, hD⟩, hS.F ht⟩) hS.2.2 dX7_adds_46
      · refine lv_aload_n hx hb dX7_adds_47 rfl (lv_at hl 0 rfl) ?_
        obtain ⟨⟨macts_48, mWas_48⟩, hc48, hf⟩ := zq_bind hf
        refine zcallVv (wr := []) (rest := []) ⟨hx, hb, hml, hown, hts⟩ (c_X7_keepAct l D cy mO mQtext mQnow mQfresh mQwas mQisKept mQkept mQheard mQnumber mQlowUp mQlowDown mQhighUp mQhighDown mQseen mQfirst H.size 0 mmany mcur mst mtok mval macts mlev memp mNow mWas hc48) (cwV 0 hts gX7_adds_X7_keepAct rfl rfl rfl (by decide +kernel) ⟨Nat.le_of_ble_eq_true rfl, Nat.le_of_ble_eq_true rfl⟩) hK hP hD hS hA [0, 1, 2] [] rfl rfl rfl rfl (by decide) (va_recv hK.1 hP (ci := 6) (q0 := 0) rfl rfl) rfl hl.1 rfl (Nat.le_of_ble_eq_true rfl) dX7_adds_48 ⟨Nat.zero_le _, Nat.zero_le _⟩ (fun H locs hP hD hS => ?_)
        have hP : va_P D vwCl [eO mO 6 [.int (zI 0), .ref mQtext, .int (zI mmany), .int (zI mcur), .int (zI mst), .int (zI mtok), .int (zI mval), .ref mQnow, .ref mQfresh, .ref mQwas, .int (zI macts_48), .ref mQisKept, .ref mQkept, .ref mQheard, .ref mQnumber, .ref mQlowUp, .ref mQlowDown, .ref mQhighUp, .ref mQhighDown, .int (zI mlev), .ref mQseen, .int (zI memp), .ref mQfirst], eA mQnow (cy 0) 11 mNow, eA mQwas (cy 0) 110 mWas_48] H := hP.sub [0, 1, 2] rfl
        have hD : va_D A [eO mO 6 [.int (zI 0), .ref mQtext, .int (zI mmany), .int (zI mcur), .int (zI mst), .int (zI mtok), .int (zI mval), .ref mQnow, .ref mQfresh, .ref mQwas, .int (zI macts_48), .ref mQisKept, .ref mQkept, .ref mQheard, .ref mQnumber, .ref mQlowUp, .ref mQlowDown, .ref mQhighUp, .ref mQhighDown, .int (zI mlev), .ref mQseen, .int (zI memp), .ref mQfirst], eA mQnow (cy 0) 11 mNow, eA mQwas (cy 0) 110 mWas_48] := hD.sub [0, 1, 2] rfl rfl
        refine lv_aload_n hx hb dX7_adds_51 rfl (lv_at hl 0 rfl) ?_
        refine va_get (D := D) (ci := 6) (v := .ref mQnow) (C := RX7) (T := TX7) (N := 23) hx hb hts u_X7_adds_X7 hown hK.1 hP 0 rfl rfl 7 (by decide) (hts _ m_X7_adds_3) (fun _ h9 => h9) rfl dX7_adds_52 ?_
        refine lv_iload_n hx hb dX7_adds_55 rfl (lv_at hl 1 rfl) ?_
        obtain ⟨qR_56, hc56, hf⟩ := zq_bind hf
        refine zcallSv (wr := [eO mO 6 [.int (zI 0), .ref mQtext, .int (zI mmany), .int (zI mcur), .int (zI mst), .int (zI mtok), .int (zI mval), .ref mQnow, .ref mQfresh, .ref mQwas, .int (zI macts_48), .ref mQisKept, .ref mQkept, .ref mQheard, .ref mQnumber, .ref mQlowUp, .ref mQlowDown, .ref mQhighUp, .ref mQhighDown, .int (zI mlev), .ref mQseen, .int (zI memp), .ref mQfirst], eA mQwas (cy 0) 110 mWas_48]) (rest := []) ⟨hx, hb, hml, hown, hts⟩ (c_X7_put l D cy mQnow H.size p1 mNow hc56) (va_cwS 2 hts gX7_adds_X7_put rfl rfl rfl (by decide +kernel) ⟨Nat.le_of_ble_eq_true rfl, Nat.le_of_ble_eq_true rfl⟩) hK hP hD hS hA [1] [0, 2] rfl rfl rfl rfl (by decide) rfl hl.1 rfl (Nat.le_of_ble_eq_true rfl) dX7_adds_56 ⟨Nat.zero_le _, Nat.zero_le _⟩ (fun H locs hP hD hS => ?_)
        have hP : va_P D vwCl [eO mO 6 [.int (zI 0), .ref mQtext, .int (zI mmany), .int (zI mcur), .int (zI mst), .int (zI mtok), .int (zI mval), .ref mQnow, .ref mQfresh, .ref mQwas, .int (zI macts_48), .ref mQisKept, .ref mQkept, .ref mQheard, .ref mQnumber, .ref mQlowUp, .ref mQlowDown, .ref mQhighUp, .ref mQhighDown, .int (zI mlev), .ref mQseen, .int (zI memp), .ref mQfirst], eA mQnow (cy 0) 11 qR_56, eA mQwas (cy 0) 110 mWas_48] H := hP.sub [0, 2, 1] rfl
        have hD : va_D A [eO mO 6 [.int (zI 0), .ref mQtext, .int (zI mmany), .int (zI mcur), .int (zI mst), .int (zI mtok), .int (zI mval), .ref mQnow, .ref mQfresh, .ref mQwas, .int (zI macts_48), .ref mQisKept, .ref mQkept, .ref mQheard, .ref mQnumber, .ref mQlowUp, .ref mQlowDown, .ref mQhighUp, .ref mQhighDown, .int (zI mlev), .ref mQseen, .int (zI memp), .ref mQfirst], eA mQnow (cy 0) 11 qR_56, eA mQwas (cy 0) 110 mWas_48] := hD.sub [0, 2, 1] rfl rfl
        refine lv_aload_n hx hb dX7_adds_59 rfl (lv_at hl 0 rfl) ?_
        refine va_get (D := D) (ci := 6) (v := .ref mQnow) (C := RX7) (T := TX7) (N := 23) hx hb hts u_X7_adds_X7 hown hK.1 hP 0 rfl rfl 7 (by decide) (hts _ m_X7_adds_3) (fun _ h9 => h9) rfl dX7_adds_60 ?_
        refine lv_iload_n hx hb dX7_adds_63 rfl (lv_at hl 1 rfl) ?_
        obtain ⟨r64, hc64, hf⟩ := zq_bind hf
        refine zcallSi (wr := [eO mO 6 [.int (zI 0), .ref mQtext, .int (zI mmany), .int (zI mcur), .int (zI mst), .int (zI mtok), .int (zI mval), .ref mQnow, .ref mQfresh, .ref mQwas, .int (zI macts_48), .ref mQisKept, .ref mQkept, .ref mQheard, .ref mQnumber, .ref mQlowUp, .ref mQlowDown, .ref mQhighUp, .ref mQhighDown, .int (zI mlev), .ref mQseen, .int (zI memp), .ref mQfirst], eA mQwas (cy 0) 110 mWas_48]) (rest := []) ⟨hx, hb, hml, hown, hts⟩ (c_X7_placeOf l D cy mQnow H.size p1 qR_56 hc64) (va_cwS 2 hts gX7_adds_X7_placeOf rfl rfl rfl (by decide +kernel) ⟨Nat.le_of_ble_eq_true rfl, Nat.le_of_ble_eq_true rfl⟩) hK hP hD hS hA [1] [0, 2] rfl rfl rfl rfl (by decide) rfl hl.1 rfl (Nat.le_of_ble_eq_true rfl) dX7_adds_64 ⟨Nat.zero_le _, Nat.zero_le _⟩ (fun H locs hP hD hS => ?_)
        have hP : va_P D vwCl [eO mO 6 [.int (zI 0), .ref mQtext, .int (zI mmany), .int (zI mcur), .int (zI mst), .int (zI mtok), .int (zI mval), .ref mQnow, .ref mQfresh, .ref mQwas, .int (zI macts_48), .ref mQisKept, .ref mQkept, .ref mQheard, .ref mQnumber, .ref mQlowUp, .ref mQlowDown, .ref mQhighUp, .ref mQhighDown, .int (zI mlev), .ref mQseen, .int (zI memp), .ref mQfirst], eA mQnow (cy 0) 11 qR_56, eA mQwas (cy 0) 110 mWas_48] H := hP.sub [0, 2, 1] rfl
        have hD : va_D A [eO mO 6 [.int (zI 0), .ref mQtext, .int (zI mmany), .int (zI mcur), .int (zI mst), .int (zI mtok), .int (zI mval), .ref mQnow, .ref mQfresh, .ref mQwas, .int (zI macts_48), .ref mQisKept, .ref mQkept, .ref mQheard, .ref mQnumber, .ref mQlowUp, .ref mQlowDown, .ref mQhighUp, .ref mQhighDown, .int (zI mlev), .ref mQseen, .int (zI memp), .ref mQfirst], eA mQnow (cy 0) 11 qR_56, eA mQwas (cy 0) 110 mWas_48] := hD.sub [0, 2, 1] rfl rfl
        have hf := zq_some hf
        cases hf
        exact W.iret hx hb hr (fun t ht hW => ⟨⟨_, (), rfl, rfl, by rw [ht]; exact hP, hD⟩, hS.F ht⟩) hS.2.2 dX7_adds_67
    · refine lv_bipush (v := zI (-2)) hx hb dX7_adds_30 (by decide) ?_
      have hf := zq_some hf
      cases hf
      exact W.iret hx hb hr (fun t ht hW => ⟨⟨_, (), rfl, rfl, by rw [ht]; exact hP, hD⟩, hS.F ht⟩) hS.2.2 dX7_adds_32

noncomputable def f_X7_strikes (p1 : Int) (macts : Int) (mNow : Nat → Int) (mWas : Nat → Int) : Option (Int × Int × Int × (Nat → Int) × (Nat → Int)) :=
  (f_X7_isArrival p1 mNow).bind fun r7 =>
  gd (zR r7) <|
  if r7 = 0 then
    some ((-1), 0, macts, mNow, mWas)
  else
    (f_X7_keepAct macts mNow mWas).bind fun (macts_16, mWas_16) =>
    gd (zin (4 + p1) 11) <|
    zlt (mNow (Int.toNat (4 + p1))) fun v27 =>
    (f_X7_drop p1 mNow).bind fun qR_33 =>
    some (v27, 0, macts_16, qR_33, mWas_16)
theorem m_X7_strikes_1 : (.fieldLink RX7 1 "PulseTurnsModel" "thrown" "I" : Cond) ∈ wsX7_strikes := List.mem_of_getElem? (i := 1) rfl
theorem m_X7_strikes_2 : (.fieldLink RX7 46 "PulseTurnsModel" "now" "[I" : Cond) ∈ wsX7_strikes := List.mem_of_getElem? (i := 2) rfl
theorem u_X7_strikes_X7 : ∀ w ∈ wsX70, w ∈ wsX7_strikes := fun w h => List.mem_cons_of_mem _ (List.mem_append_right _ h)
set_option maxRecDepth 100000 in
set_option maxHeartbeats 4000000 in
theorem c_X7_strikes (l : Launch) (D : va_G) (cy : Nat → ClassId) (mO mQtext mQnow mQfresh mQwas mQisKept mQkept mQheard mQnumber mQlowUp mQlowDown mQhighUp mQhighDown mQseen mQfirst : Nat) (sz : Nat) (p1 : Int) (mth : Int) (mmany : Int) (mcur : Int) (mst : Int) (mtok : Int) (mval : Int) (macts : Int) (mlev : Int) (memp : Int) (mNow : Nat → Int) (mWas : Nat → Int) {r : Int} {mth' : Int} {macts' : Int} {mNow' : Nat → Int} {mWas' : Nat → Int} (hf : f_X7_strikes p1 macts mNow mWas = some (r, mth', macts', mNow', mWas')) : zMi l yX7_strikes wsX7_strikes ({ frames := 2, cells := 0, slots := 0, locals := 46 }) D cy sz [.ref mO, .int (zI p1)] [eO mO 6 [.int (zI mth), .ref mQtext, .int (zI mmany), .int (zI mcur), .int (zI mst), .int (zI mtok), .int (zI mval), .ref mQnow, .ref mQfresh, .ref mQwas, .int (zI macts), .ref mQisKept, .ref mQkept, .ref mQheard, .ref mQnumber, .ref mQlowUp, .ref mQlowDown, .ref mQhighUp, .ref mQhighDown, .int (zI mlev), .ref mQseen, .int (zI memp), .ref mQfirst], eA mQnow (cy 0) 11 mNow, eA mQwas (cy 0) 110 mWas] [eO mO 6 [.int (zI mth'), .ref mQtext, .int (zI mmany), .int (zI mcur), .int (zI mst), .int (zI mtok), .int (zI mval), .ref mQnow, .ref mQfresh, .ref mQwas, .int (zI macts'), .ref mQisKept, .ref mQkept, .ref mQheard, .ref mQnumber, .ref mQlowUp, .ref mQlowDown, .ref mQhighUp, .ref mQhighDown, .int (zI mlev), .ref mQseen, .int (zI memp), .ref mQfirst], eA mQnow (cy 0) 11 mNow', eA mQwas (cy 0) 110 mWas'] (zI r) := by
  refine Met.ofW (cc := cX7_strikes) (maxL := 3) (ret := (some .int)) (by decide) rfl ?_
  intro p e s m args below meth c s₁ B hml hv
  obtain ⟨rfl, hsz, hP, hK, hD0⟩ := hv
  have hx := B.exec
  have hb := B.bytes
  have hr := B.returns
  have hts := atoms_spec (ws := wsX7_strikes) B.pre
  have hown : s.vm.findClass RX7 = some m.cls := findClass_of_methodNamed B.named
  have hlocks := B.notSynchronized
  subst hsz
  have hD := hD0.self (sz := s.heap.size)
  generalize hAe : va_A [eO mO 6 [.int (zI mth), .ref mQtext, .int (zI mmany), .int (zI mcur), .int (zI mst), .int (zI mtok), .int (zI mval), .ref mQnow, .ref mQfresh, .ref mQwas, .int (zI macts), .ref mQisKept, .ref mQkept, .ref mQheard, .ref mQnumber, .ref mQlowUp, .ref mQlowDown, .ref mQhighUp, .ref mQhighDown, .int (zI mlev), .ref mQseen, .int (zI memp), .ref mQfirst], eA mQnow (cy 0) 11 mNow, eA mQwas (cy 0) 110 mWas] s.heap.size = A at hD ⊢
  have hA : ∀ q : Nat, s.heap.size ≤ q → A q := fun q h => by rw [← hAe]; exact Or.inr h
  have hS : va_S A s.heap s.heap [] := va_S.rf
  have hl := lv_entry ([.ref mO, .int (zI p1)]) (n := 3) (Nat.le_of_ble_eq_true rfl)
  rw [lg_entry_eq]
  generalize (lg_sl ([.ref mO, .int (zI p1)]) ++ List.replicate (3 - (lg_sl ([.ref mO, .int (zI p1)])).length) Slot.unset).toArray = ls at hl ⊢
  have hl : lv_has ls 3 [(0, .ref mO), (1, .int (zI p1))] := hl
  have hf := zq_of hf
  unfold f_X7_strikes at hf
  refine lv_aload_n hx hb dX7_strikes_0 rfl (lv_at hl 0 rfl) ?_
  refine lv_iconst (v := zI 0) hx hb dX7_strikes_1 rfl ?_
  refine va_put (D := D) (ci := 6) (v := .int (zI 0)) (ty := .int) (C := RX7) (T := TX7) (N := 23) hx hb hts u_X7_strikes_X7 tyX7 tyX7_ok nmX7 hown hK.1 hP hD hS 0 rfl rfl 0 (by decide) (hts _ m_X7_strikes_1) (fun _ h9 => h9) rfl (tyX7_ok 0 (by decide)) rfl rfl (Nat.le_of_ble_eq_true rfl) dX7_strikes_2 (fun H locs hP hD hS => ?_)
  have hP : va_P D vwCl [eO mO 6 [.int (zI 0), .ref mQtext, .int (zI mmany), .int (zI mcur), .int (zI mst), .int (zI mtok), .int (zI mval), .ref mQnow, .ref mQfresh, .ref mQwas, .int (zI macts), .ref mQisKept, .ref mQkept, .ref mQheard, .ref mQnumber, .ref mQlowUp, .ref mQlowDown, .ref mQhighUp, .ref mQhighDown, .int (zI mlev), .ref mQseen, .int (zI memp), .ref mQfirst], eA mQnow (cy 0) 11 mNow, eA mQwas (cy 0) 110 mWas] H := hP
  have hD : va_D A [eO mO 6 [.int (zI 0), .ref mQtext, .int (zI mmany), .int (zI mcur), .int (zI mst), .int (zI mtok), .int (zI mval), .ref mQnow, .ref mQfresh, .ref mQwas, .int (zI macts), .ref mQisKept, .ref mQkept, .ref mQheard, .ref mQnumber, .ref mQlowUp, .ref mQlowDown, .ref mQhighUp, .ref mQhighDown, .int (zI mlev), .ref mQseen, .int (zI memp), .ref mQfirst], eA mQnow (cy 0) 11 mNow, eA mQwas (cy 0) 110 mWas] := hD
  refine lv_aload_n hx hb dX7_strikes_5 rfl (lv_at hl 0 rfl) ?_
  refine lv_iload_n hx hb dX7_strikes_6 rfl (lv_at hl 1 rfl) ?_
  obtain ⟨r7, hc7, hf⟩ := zq_bind hf
  refine zcallVi (wr := [eA mQwas (cy 0) 110 mWas]) (rest := []) ⟨hx, hb, hml, hown, hts⟩ (c_X7_isArrival l D cy mO mQtext mQnow mQfresh mQwas mQisKept mQkept mQheard mQnumber mQlowUp mQlowDown mQhighUp mQhighDown mQseen mQfirst H.size p1 0 mmany mcur mst mtok mval macts mlev memp mNow hc7) (cwV 1 hts gX7_strikes_X7_isArrival rfl rfl rfl (by decide +kernel) ⟨Nat.le_of_ble_eq_true rfl, Nat.le_of_ble_eq_true rfl⟩) hK hP hD hS hA [0, 1] [2] rfl rfl rfl rfl (by decide) (va_recv hK.1 hP (ci := 6) (q0 := 0) rfl rfl) rfl hl.1 rfl (Nat.le_of_ble_eq_true rfl) dX7_strikes_7 ⟨Nat.zero_le _, Nat.zero_le _⟩ (fun H locs hP hD hS => ?_)
  have hP : va_P D vwCl [eO mO 6 [.int (zI 0), .ref mQtext, .int (zI mmany), .int (zI mcur), .int (zI mst), .int (zI mtok), .int (zI mval), .ref mQnow, .ref mQfresh, .ref mQwas, .int (zI macts), .ref mQisKept, .ref mQkept, .ref mQheard, .ref mQnumber, .ref mQlowUp, .ref mQlowDown, .ref mQhighUp, .ref mQhighDown, .int (zI mlev), .ref mQseen, .int (zI memp), .ref mQfirst], eA mQnow (cy 0) 11 mNow, eA mQwas (cy 0) 110 mWas] H := hP.sub [1, 2, 0] rfl
  have hD : va_D A [eO mO 6 [.int (zI 0), .ref mQtext, .int (zI mmany), .int (zI mcur), .int (zI mst), .int (zI mtok), .int (zI mval), .ref mQnow, .ref mQfresh, .ref mQwas, .int (zI macts), .ref mQisKept, .ref mQkept, .ref mQheard, .ref mQnumber, .ref mQlowUp, .ref mQlowDown, .ref mQhighUp, .ref mQhighDown, .int (zI mlev), .ref mQseen, .int (zI memp), .ref mQfirst], eA mQnow (cy 0) 11 mNow, eA mQwas (cy 0) 110 mWas] := hD.sub [1, 2, 0] rfl rfl
  refine zz_if_ne (tgt := 15) hx hb dX7_strikes_10 (by decide) hf (fun hc hf => ?_) (fun hc hf => ?_)
  · refine lv_iconst (v := zI (-1)) hx hb dX7_strikes_13 rfl ?_
    have hf := zq_some hf
    cases hf
    exact W.iret hx hb hr (fun t ht hW => ⟨⟨_, (), rfl, rfl, by rw [ht]; exact hP, hD⟩, hS.F ht⟩) hS.2.2 dX7_strikes_14
  · refine lv_aload_n hx hb dX7_strikes_15 rfl (lv_at hl 0 rfl) ?_
    obtain ⟨⟨macts_16, mWas_16⟩, hc16, hf⟩ := zq_bind hf
    refine zcallVv (wr := []) (rest := []) ⟨hx, hb, hml, hown, hts⟩ (c_X7_keepAct l D cy mO mQtext mQnow mQfresh mQwas mQisKept mQkept mQheard mQnumber mQlowUp mQlowDown mQhighUp mQhighDown mQseen mQfirst H.size 0 mmany mcur mst mtok mval macts mlev memp mNow mWas hc16) (cwV 0 hts gX7_strikes_X7_keepAct rfl rfl rfl (by decide +kernel) ⟨Nat.le_of_ble_eq_true rfl, Nat.le_of_ble_eq_true rfl⟩) hK hP hD hS hA [0, 1, 2] [] rfl rfl rfl rfl (by decide) (va_recv hK.1 hP (ci := 6) (q0 := 0) rfl rfl) rfl hl.1 rfl (Nat.le_of_ble_eq_true rfl) dX7_strikes_16 ⟨Nat.zero_le _, Nat.zero_le _⟩ (fun H locs hP hD hS => ?_)
    have hP : va_P D vwCl [eO mO 6 [.int (zI 0), .ref mQtext, .int (zI mmany), .int (zI mcur), .int (zI mst), .int (zI mtok), .int (zI mval), .ref mQnow, .ref mQfresh, .ref mQwas, .int (zI macts_16), .ref mQisKept, .ref mQkept, .ref mQheard, .ref mQnumber, .ref mQlowUp, .ref mQlowDown, .ref mQhighUp, .ref mQhighDown, .int (zI mlev), .ref mQseen, .int (zI memp), .ref mQfirst], eA mQnow (cy 0) 11 mNow, eA mQwas (cy 0) 110 mWas_16] H := hP.sub [0, 1, 2] rfl
    have hD : va_D A [eO mO 6 [.int (zI 0), .ref mQtext, .int (zI mmany), .int (zI mcur), .int (zI mst), .int (zI mtok), .int (zI mval), .ref mQnow, .ref mQfresh, .ref mQwas, .int (zI macts_16), .ref mQisKept, .ref mQkept, .ref mQheard, .ref mQnumber, .ref mQlowUp, .ref mQlowDown, .ref mQhighUp, .ref mQhighDown, .int (zI mlev), .ref mQseen, .int (zI memp), .ref mQfirst], eA mQnow (cy 0) 11 mNow, eA mQwas (cy 0) 110 mWas_16] := hD.sub [0, 1, 2] rfl rfl
    refine lv_aload_n hx hb dX7_strikes_19 rfl (lv_at hl 0 rfl) ?_
    refine va_get (D := D) (ci := 6) (v := .ref mQnow) (C := RX7) (T := TX7) (N := 23) hx hb hts u_X7_strikes_X7 hown hK.1 hP 0 rfl rfl 7 (by decide) (hts _ m_X7_strikes_2) (fun _ h9 => h9) rfl dX7_strikes_20 ?_
    refine lv_iconst (v := zI 4) hx hb dX7_strikes_23 rfl ?_
    refine lv_iload_n hx hb dX7_strikes_24 rfl (lv_at hl 1 rfl) ?_
    refine zz_iadd hx hb dX7_strikes_25 ?_
    obtain ⟨hg, hf⟩ := zq_gd hf
    refine zz_iald (i := (4 + p1)) hx hb hK hP 1 rfl (Nat.le_of_ble_eq_true rfl) hg dX7_strikes_26 ?_
    obtain ⟨v27, e27, hf⟩ := zq_lt hf
    refine zz_top e27 ?_
    refine lv_istore_n (lv' := [(2, .int (zI v27)), (0, .ref mO), (1, .int (zI p1))]) hx hb dX7_strikes_27 rfl hl (by decide) rfl (fun ls hl => ?_)
    refine lv_aload_n hx hb dX7_strikes_28 rfl (lv_at hl 1 rfl) ?_
    refine va_get (D := D) (ci := 6) (v := .ref mQnow) (C := RX7) (T := TX7) (N := 23) hx hb hts u_X7_strikes_X7 hown hK.1 hP 0 rfl rfl 7 (by decide) (hts _ m_X7_strikes_2) (fun _ h9 => h9) rfl dX7_strikes_29 ?_
    refine lv_iload_n hx hb dX7_strikes_32 rfl (lv_at hl 2 rfl) ?_
    obtain ⟨qR_33, hc33, hf⟩ := zq_bind hf
    refine zcallSv (wr := [eO mO 6 [.int (zI 0), .ref mQtext, .int (zI mmany), .int (zI mcur), .int (zI mst), .int (zI mtok), .int (zI mval), .ref mQnow, .ref mQfresh, .ref mQwas, .int (zI macts_16), .ref mQisKept, .ref mQkept, .ref mQheard, .ref mQnumber, .ref mQlowUp, .ref mQlowDown, .ref mQhighUp, .ref mQhighDown, .int (zI mlev), .ref mQseen, .int (zI memp), .ref mQfirst], eA mQwas (cy 0) 110 mWas_16]) (rest := []) ⟨hx, hb, hml, hown, hts⟩ (c_X7_drop l D cy mQnow H.size p1 mNow hc33) (va_cwS 2 hts gX7_strikes_X7_drop rfl rfl rfl (by decide +kernel) ⟨Nat.le_of_ble_eq_true rfl, Nat.le_of_ble_eq_true rfl⟩) hK hP hD hS hA [1] [0, 2] rfl rfl rfl rfl (by decide) rfl hl.1 rfl (Nat.le_of_ble_eq_true rfl) dX7_strikes_33 ⟨Nat.zero_le _, Nat.zero_le _⟩ (fun H locs hP hD hS => ?_)
    have hP : va_P D vwCl [eO mO 6 [.int (zI 0), .ref mQtext, .int (zI mmany), .int (zI mcur), .int (zI mst), .int (zI mtok), .int (zI mval), .ref mQnow, .ref mQfresh, .ref mQwas, .int (zI macts_16), .ref mQisKept, .ref mQkept, .ref mQheard, .ref mQnumber, .ref mQlowUp, .ref mQlowDown, .ref mQhighUp, .ref mQhighDown, .int (zI mlev), .ref mQseen, .int (zI memp), .ref mQfirst], eA mQnow (cy 0) 11 qR_33, eA mQwas (cy 0) 110 mWas_16] H := hP.sub [0, 2, 1] rfl
    have hD : va_D A [eO mO 6 [.int (zI 0), .ref mQtext, .int (zI mmany), .int (zI mcur), .int (zI mst), .int (zI mtok), .int (zI mval), .ref mQnow, .ref mQfresh, .ref mQwas, .int (zI macts_16), .ref mQisKept, .ref mQkept, .ref mQheard, .ref mQnumber, .ref mQlowUp, .ref mQlowDown, .ref mQhighUp, .ref mQhighDown, .int (zI mlev), .ref mQseen, .int (zI memp), .ref mQfirst], eA mQnow (cy 0) 11 qR_33, eA mQwas (cy 0) 110 mWas_16] := hD.sub [0, 2, 1] rfl rfl
    refine lv_iload_n hx hb dX7_strikes_36 rfl (lv_at hl 0 rfl) ?_
    have hf := zq_some hf
    cases hf
    exact W.iret hx hb hr (fun t ht hW => ⟨⟨_, (), rfl, rfl, by rw [ht]; exact hP, hD⟩, hS.F ht⟩) hS.2.2 dX7_strikes_37

noncomputable def f_X7_begin_n (mNow : Nat → Int) (mHeard : Nat → Int) (mNum : Nat → Int) (mLU : Nat → Int) (mLD : Nat → Int) (mHU : Nat → Int) (mHD : Nat → Int) : Option (Int × (Nat → Int) × (Nat → Int) × (Nat → Int) × (Nat → Int) × (Nat → Int) × (Nat → Int)) :=
  (f_X7_copyAll mNow mHeard).bind fun tR_5 =>
  some (0, tR_5, (zup mNum 0 0), (zup mLU 0 (tR_5 1)), (zup mLD 0 1), (zup mHU 0 (tR_5 2)), (zup mHD 0 1))
theorem m_X7_begin_1 : (.fieldLink RX7 62 "PulseTurnsModel" "heard" "[I" : Cond) ∈ wsX7_begin := List.mem_of_getElem? (i := 1) rfl
theorem m_X7_begin_2 : (.fieldLink RX7 141 "PulseTurnsModel" "level" "I" : Cond) ∈ wsX7_begin := List.mem_of_getElem? (i := 2) rfl
theorem m_X7_begin_3 : (.fieldLink RX7 65 "PulseTurnsModel" "number" "[I" : Cond) ∈ wsX7_begin := List.mem_of_getElem? (i := 3) rfl
theorem m_X7_begin_4 : (.fieldLink RX7 68 "PulseTurnsModel" "lowUp" "[I" : Cond) ∈ wsX7_begin := List.mem_of_getElem? (i := 4) rfl
theorem m_X7_begin_5 : (.fieldLink RX7 71 "PulseTurnsModel" "lowDown" "[I" : Cond) ∈ wsX7_begin := List.mem_of_getElem? (i := 5) rfl
theorem m_X7_begin_6 : (.fieldLink RX7 74 "PulseTurnsModel" "highUp" "[I" : Cond) ∈ wsX7_begin := List.mem_of_getElem? (i := 6) rfl
theorem m_X7_begin_7 : (.fieldLink RX7 77 "PulseTurnsModel" "highDown" "[I" : Cond) ∈ wsX7_begin := List.mem_of_getElem? (i := 7) rfl
theorem u_X7_begin_X7 : ∀ w ∈ wsX70, w ∈ wsX7_begin := fun w h => List.mem_cons_of_mem _ (List.mem_append_right _ h)
set_option maxRecDepth 100000 in
set_option maxHeartbeats 4000000 in
theorem c_X7_begin_n (l : Launch) (D : va_G) (cy : Nat → ClassId) (mO mQtext mQnow mQfresh mQwas mQisKept mQkept mQheard mQnumber mQlowUp mQlowDown mQhighUp mQhighDown mQseen mQfirst : Nat) (sz : Nat) (mth : Int) (mmany : Int) (mcur : Int) (mst : Int) (mtok : Int) (mval : Int) (macts : Int) (mlev : Int) (memp : Int) (mNow : Nat → Int) (mHeard : Nat → Int) (mNum : Nat → Int) (mLU : Nat → Int) (mLD : Nat → Int) (mHU : Nat → Int) (mHD : Nat → Int) {mlev' : Int} {mHeard' : Nat → Int} {mNum' : Nat → Int} {mLU' : Nat → Int} {mLD' : Nat → Int} {mHU' : Nat → Int} {mHD' : Nat → Int} (hf : f_X7_begin_n mNow mHeard mNum mLU mLD mHU mHD = some (mlev', mHeard', mNum', mLU', mLD', mHU', mHD')) : zMv l yX7_begin wsX7_begin ({ frames := 1, cells := 0, slots := 0, locals := 22 }) D cy sz [.ref mO, .ref mQnow] [eO mO 6 [.int (zI mth), .ref mQtext, .int (zI mmany), .int (zI mcur), .int (zI mst), .int (zI mtok), .int (zI mval), .ref mQnow, .ref mQfresh, .ref mQwas, .int (zI macts), .ref mQisKept, .ref mQkept, .ref mQheard, .ref mQnumber, .ref mQlowUp, .ref mQlowDown, .ref mQhighUp, .ref mQhighDown, .int (zI mlev), .ref mQseen, .int (zI memp), .ref mQfirst], eA mQnow (cy 0) 11 mNow, eA mQheard (cy 0) 11 mHeard, eA mQnumber (cy 0) 7 mNum, eA mQlowUp (cy 0) 7 mLU, eA mQlowDown (cy 0) 7 mLD, eA mQhighUp (cy 0) 7 mHU, eA mQhighDown (cy 0) 7 mHD] [eO mO 6 [.int (zI mth), .ref mQtext, .int (zI mmany), .int (zI mcur), .int (zI mst), .int (zI mtok), .int (zI mval), .ref mQnow, .ref mQfresh, .ref mQwas, .int (zI macts), .ref mQisKept, .ref mQkept, .ref mQheard, .ref mQnumber, .ref mQlowUp, .ref mQlowDown, .ref mQhighUp, .ref mQhighDown, .int (zI mlev'), .ref mQseen, .int (zI memp), .ref mQfirst], eA mQnow (cy 0) 11 mNow, eA mQheard (cy 0) 11 mHeard', eA mQnumber (cy 0) 7 mNum', eA mQlowUp (cy 0) 7 mLU', eA mQlowDown (cy 0) 7 mLD', eA mQhighUp (cy 0) 7 mHU', eA mQhighDown (cy 0) 7 mHD'] := by
  refine Met.ofW (cc := cX7_begin) (maxL := 2) (ret := none) (by decide) rfl ?_
  intro p e s m args below meth c s₁ B hml hv
  obtain ⟨rfl, hsz, hP, hK, hD0⟩ := hv
  have hx := B.exec
  have hb := B.bytes
  have hr := B.returns
  have hts := atoms_spec (ws := wsX7_begin) B.pre
  have hown : s.vm.findClass RX7 = some m.cls := findClass_of_methodNamed B.named
  have hlocks := B.notSynchronized
  subst hsz
  have hD := hD0.self (sz := s.heap.size)
  generalize hAe : va_A [eO mO 6 [.int (zI mth), .ref mQtext, .int (zI mmany), .int (zI mcur), .int (zI mst), .int (zI mtok), .int (zI mval), .ref mQnow, .ref mQfresh, .ref mQwas, .int (zI macts), .ref mQisKept, .ref mQkept, .ref mQheard, .ref mQnumber, .ref mQlowUp, .ref mQlowDown, .ref mQhighUp, .ref mQhighDown, .int (zI mlev), .ref mQseen, .int (zI memp), .ref mQfirst], eA mQnow (cy 0) 11 mNow, eA mQheard (cy 0) 11 mHeard, eA mQnumber (cy 0) 7 mNum, eA mQlowUp (cy 0) 7 mLU, eA mQlowDown (cy 0) 7 mLD, eA mQhighUp (cy 0) 7 mHU, eA mQhighDown (cy 0) 7 mHD] s.heap.size = A at hD ⊢
  have hA : ∀ q : Nat, s.heap.size ≤ q → A q := fun q h => by rw [← hAe]; exact Or.inr h
  have hS : va_S A s.heap s.heap [] := va_S.rf
  have hl := lv_entry ([.ref mO, .ref mQnow]) (n := 2) (Nat.le_of_ble_eq_true rfl)
  rw [lg_entry_eq]
  generalize (lg_sl ([.ref mO, .ref mQnow]) ++ List.replicate (2 - (lg_sl ([.ref mO, .ref mQnow])).length) Slot.unset).toArray = ls at hl ⊢
  have hl : lv_has ls 2 [(0, .ref mO), (1, .ref mQnow)] := hl
  have hf := zq_of hf
  unfold f_X7_begin_n at hf
  refine lv_aload_n hx hb dX7_begin_0 rfl (lv_at hl 1 rfl) ?_
  refine lv_aload_n hx hb dX7_begin_1 rfl (lv_at hl 0 rfl) ?_
  refine va_get (D := D) (ci := 6) (v := .ref mQheard) (C := RX7) (T := TX7) (N := 23) hx hb hts u_X7_begin_X7 hown hK.1 hP 0 rfl rfl 13 (by decide) (hts _ m_X7_begin_1) (fun _ h9 => h9) rfl dX7_begin_2 ?_
  obtain ⟨tR_5, hc5, hf⟩ := zq_bind hf
  refine zcallSv (wr := [eO mO 6 [.int (zI mth), .ref mQtext, .int (zI mmany), .int (zI mcur), .int (zI mst), .int (zI mtok), .int (zI mval), .ref mQnow, .ref mQfresh, .ref mQwas, .int (zI macts), .ref mQisKept, .ref mQkept, .ref mQheard, .ref mQnumber, .ref mQlowUp, .ref mQlowDown, .ref mQhighUp, .ref mQhighDown, .int (zI mlev), .ref mQseen, .int (zI memp), .ref mQfirst], eA mQnumber (cy 0) 7 mNum, eA mQlowUp (cy 0) 7 mLU, eA mQlowDown (cy 0) 7 mLD, eA mQhighUp (cy 0) 7 mHU, eA mQhighDown (cy 0) 7 mHD]) (rest := []) ⟨hx, hb, hml, hown, hts⟩ (c_X7_copyAll l D cy mQnow mQheard s.heap.size mNow mHeard hc5) (va_cwS 2 hts gX7_begin_X7_copyAll rfl rfl rfl (by decide +kernel) ⟨Nat.le_of_ble_eq_true rfl, Nat.le_of_ble_eq_true rfl⟩) hK hP hD hS hA [1, 2] [0, 3, 4, 5, 6, 7] rfl rfl rfl rfl (by decide) rfl hl.1 rfl (Nat.le_of_ble_eq_true rfl) dX7_begin_5 ⟨Nat.zero_le _, Nat.zero_le _⟩ (fun H locs hP hD hS => ?_)
  have hP : va_P D vwCl [eO mO 6 [.int (zI mth), .ref mQtext, .int (zI mmany), .int (zI mcur), .int (zI mst), .int (zI mtok), .int (zI mval), .ref mQnow, .ref mQfresh, .ref mQwas, .int (zI macts), .ref mQisKept, .ref mQkept, .ref mQheard, .ref mQnumber, .ref mQlowUp, .ref mQlowDown, .ref mQhighUp, .ref mQhighDown, .int (zI mlev), .ref mQseen, .int (zI memp), .ref mQfirst], eA mQnow (cy 0) 11 mNow, eA mQheard (cy 0) 11 tR_5, eA mQnumber (cy 0) 7 mNum, eA mQlowUp (cy 0) 7 mLU, eA mQlowDown (cy 0) 7 mLD, eA mQhighUp (cy 0) 7 mHU, eA mQhighDown (cy 0) 7 mHD] H := hP.sub [0, 6, 7, 1, 2, 3, 4, 5] rfl
  have hD : va_D A [eO mO 6 [.int (zI mth), .ref mQtext, .int (zI mmany), .int (zI mcur), .int (zI mst), .int (zI mtok), .int (zI mval), .ref mQnow, .ref mQfresh, .ref mQwas, .int (zI macts), .ref mQisKept, .ref mQkept, .ref mQheard, .ref mQnumber, .ref mQlowUp, .ref mQlowDown, .ref mQhighUp, .ref mQhighDown, .int (zI mlev), .ref mQseen, .int (zI memp), .ref mQfirst], eA mQnow (cy 0) 11 mNow, eA mQheard (cy 0) 11 tR_5, eA mQnumber (cy 0) 7 mNum, eA mQlowUp (cy 0) 7 mLU, eA mQlowDown (cy 0) 7 mLD, eA mQhighUp (cy 0) 7 mHU, eA mQhighDown (cy 0) 7 mHD] := hD.sub [0, 6, 7, 1, 2, 3, 4, 5] rfl rfl
  refine lv_aload_n hx hb dX7_begin_8 rfl (lv_at hl 0 rfl) ?_
  refine lv_iconst (v := zI 0) hx hb dX7_begin_9 rfl ?_
  refine va_put (D := D) (ci := 6) (v := .int (zI 0)) (ty := .int) (C := RX7) (T := TX7) (N := 23) hx hb hts u_X7_begin_X7 tyX7 tyX7_ok nmX7 hown hK.1 hP hD hS 0 rfl rfl 19 (by decide) (hts _ m_X7_begin_2) (fun _ h9 => h9) rfl (tyX7_ok 19 (by decide)) rfl rfl (Nat.le_of_ble_eq_true rfl) dX7_begin_10 (fun H locs hP hD hS => ?_)
  have hP : va_P D vwCl [eO mO 6 [.int (zI mth), .ref mQtext, .int (zI mmany), .int (zI mcur), .int (zI mst), .int (zI mtok), .int (zI mval), .ref mQnow, .ref mQfresh, .ref mQwas, .int (zI macts), .ref mQisKept, .ref mQkept, .ref mQheard, .ref mQnumber, .ref mQlowUp, .ref mQlowDown, .ref mQhighUp, .ref mQhighDown, .int (zI 0), .ref mQseen, .int (zI memp), .ref mQfirst], eA mQnow (cy 0) 11 mNow, eA mQheard (cy 0) 11 tR_5, eA mQnumber (cy 0) 7 mNum, eA mQlowUp (cy 0) 7 mLU, eA mQlowDown (cy 0) 7 mLD, eA mQhighUp (cy 0) 7 mHU, eA mQhighDown (cy 0) 7 mHD] H := hP
  have hD : va_D A [eO mO 6 [.int (zI mth), .ref mQtext, .int (zI mmany), .int (zI mcur), .int (zI mst), .int (zI mtok), .int (zI mval), .ref mQnow, .ref mQfresh, .ref mQwas, .int (zI macts), .ref mQisKept, .ref mQkept, .ref mQheard, .ref mQnumber, .ref mQlowUp, .ref mQlowDown, .ref mQhighUp, .ref mQhighDown, .int (zI 0), .ref mQseen, .int (zI memp), .ref mQfirst], eA mQnow (cy 0) 11 mNow, eA mQheard (cy 0) 11 tR_5, eA mQnumber (cy 0) 7 mNum, eA mQlowUp (cy 0) 7 mLU, eA mQlowDown (cy 0) 7 mLD, eA mQhighUp (cy 0) 7 mHU, eA mQhighDown (cy 0) 7 mHD] := hD
  refine lv_aload_n hx hb dX7_begin_13 rfl (lv_at hl 0 rfl) ?_
  refine va_get (D := D) (ci := 6) (v := .ref mQnumber) (C := RX7) (T := TX7) (N := 23) hx hb hts u_X7_begin_X7 hown hK.1 hP 0 rfl rfl 14 (by decide) (hts _ m_X7_begin_3) (fun _ h9 => h9) rfl dX7_begin_14 ?_
  refine lv_iconst (v := zI 0) hx hb dX7_begin_17 rfl ?_
  refine lv_iconst (v := zI 0) hx hb dX7_begin_18 rfl ?_
  refine zz_iast (i := 0) hx hb hK hP hD hS 3 rfl (Nat.le_of_ble_eq_true rfl) (by decide) dX7_begin_19 (fun H locs hP hD hS => ?_)
  have hP : va_P D vwCl [eO mO 6 [.int (zI mth), .ref mQtext, .int (zI mmany), .int (zI mcur), .int (zI mst), .int (zI mtok), .int (zI mval), .ref mQnow, .ref mQfresh, .ref mQwas, .int (zI macts), .ref mQisKept, .ref mQkept, .ref mQheard, .ref mQnumber, .ref mQlowUp, .ref mQlowDown, .ref mQhighUp, .ref mQhighDown, .int (zI 0), .ref mQseen, .int (zI memp), .ref mQfirst], eA mQnow (cy 0) 11 mNow, eA mQheard (cy 0) 11 tR_5, eA mQnumber (cy 0) 7 (zup mNum 0 0), eA mQlowUp (cy 0) 7 mLU, eA mQlowDown (cy 0) 7 mLD, eA mQhighUp (cy 0) 7 mHU, eA mQhighDown (cy 0) 7 mHD] H := hP
  have hD : va_D A [eO mO 6 [.int (zI mth), .ref mQtext, .int (zI mmany), .int (zI mcur), .int (zI mst), .int (zI mtok), .int (zI mval), .ref mQnow, .ref mQfresh, .ref mQwas, .int (zI macts), .ref mQisKept, .ref mQkept, .ref mQheard, .ref mQnumber, .ref mQlowUp, .ref mQlowDown, .ref mQhighUp, .ref mQhighDown, .int (zI 0), .ref mQseen, .int (zI memp), .ref mQfirst], eA mQnow (cy 0) 11 mNow, eA mQheard (cy 0) 11 tR_5, eA mQnumber (cy 0) 7 (zup mNum 0 0), eA mQlowUp (cy 0) 7 mLU, eA mQlowDown (cy 0) 7 mLD, eA mQhighUp (cy 0) 7 mHU, eA mQhighDown (cy 0) 7 mHD] := hD
  refine lv_aload_n hx hb dX7_begin_20 rfl (lv_at hl 0 rfl) ?_
  refine va_get (D := D) (ci := 6) (v := .ref mQlowUp) (C := RX7) (T := TX7) (N := 23) hx hb hts u_X7_begin_X7 hown hK.1 hP 0 rfl rfl 15 (by decide) (hts _ m_X7_begin_4) (fun _ h9 => h9) rfl dX7_begin_21 ?_
  refine lv_iconst (v := zI 0) hx hb dX7_begin_24 rfl ?_
  refine lv_aload_n hx hb dX7_begin_25 rfl (lv_at hl 0 rfl) ?_
  refine va_get (D := D) (ci := 6) (v := .ref mQheard) (C := RX7) (T := TX7) (N := 23) hx hb hts u_X7_begin_X7 hown hK.1 hP 0 rfl rfl 13 (by decide) (hts _ m_X7_begin_1) (fun _ h9 => h9) rfl dX7_begin_26 ?_
  refine lv_iconst (v := zI 1) hx hb dX7_begin_29 rfl ?_
  refine zz_iald (i := 1) hx hb hK hP 2 rfl (Nat.le_of_ble_eq_true rfl) (by decide) dX7_begin_30 ?_
  refine zz_iast (i := 0) hx hb hK hP hD hS 4 rfl (Nat.le_of_ble_eq_true rfl) (by decide) dX7_begin_31 (fun H locs hP hD hS => ?_)
  have hP : va_P D vwCl [eO mO 6 [.int (zI mth), .ref mQtext, .int (zI mmany), .int (zI mcur), .int (zI mst), .int (zI mtok), .int (zI mval), .ref mQnow, .ref mQfresh, .ref mQwas, .int (zI macts), .ref mQisKept, .ref mQkept, .ref mQheard, .ref mQnumber, .ref mQlowUp, .ref mQlowDown, .ref mQhighUp, .ref mQhighDown, .int (zI 0), .ref mQseen, .int (zI memp), .ref mQfirst], eA mQnow (cy 0) 11 mNow, eA mQheard (cy 0) 11 tR_5, eA mQnumber (cy 0) 7 (zup mNum 0 0), eA mQlowUp (cy 0) 7 (zup mLU 0 (tR_5 1)), eA mQlowDown (cy 0) 7 mLD, eA mQhighUp (cy 0) 7 mHU, eA mQhighDown (cy 0) 7 mHD] H := hP
  have hD : va_D A [eO mO 6 [.int (zI mth), .ref mQtext, .int (zI mmany), .int (zI mcur), .int (zI mst), .int (zI mtok), .int (zI mval), .ref mQnow, .ref mQfresh, .ref mQwas, .int (zI macts), .ref mQisKept, .ref mQkept, .ref mQheard, .ref mQnumber, .ref mQlowUp, .ref mQlowDown, .ref mQhighUp, .ref mQhighDown, .int (zI 0), .ref mQseen, .int (zI memp), .ref mQfirst], eA mQnow (cy 0) 11 mNow, eA mQheard (cy 0) 11 tR_5, eA mQnumber (cy 0) 7 (zup mNum 0 0), eA mQlowUp (cy 0) 7 (zup mLU 0 (tR_5 1)), eA mQlowDown (cy 0) 7 mLD, eA mQhighUp (cy 0) 7 mHU, eA mQhighDown (cy 0) 7 mHD] := hD
  refine lv_aload_n hx hb dX7_begin_32 rfl (lv_at hl 0 rfl) ?_
  refine va_get (D := D) (ci := 6) (v := .ref mQlowDown) (C := RX7) (T := TX7) (N := 23) hx hb hts u_X7_begin_X7 hown hK.1 hP 0 rfl rfl 16 (by decide) (hts _ m_X7_begin_5) (fun _ h9 => h9) rfl dX7_begin_33 ?_
  refine lv_iconst (v := zI 0) hx hb dX7_begin_36 rfl ?_
  refine lv_iconst (v := zI 1) hx hb dX7_begin_37 rfl ?_
  refine zz_iast (i := 0) hx hb hK hP hD hS 5 rfl (Nat.le_of_ble_eq_true rfl) (by decide) dX7_begin_38 (fun H locs hP hD hS => ?_)
  have hP : va_P D vwCl [eO mO 6 [.int (zI mth), .ref mQtext, .int (zI mmany), .int (zI mcur), .int (zI mst), .int (zI mtok), .int (zI mval), .ref mQnow, .ref mQfresh, .ref mQwas, .int (zI macts), .ref mQisKept, .ref mQkept, .ref mQheard, .ref mQnumber, .ref mQlowUp, .ref mQlowDown, .ref mQhighUp, .ref mQhighDown, .int (zI 0), .ref mQseen, .int (zI memp), .ref mQfirst], eA mQnow (cy 0) 11 mNow, eA mQheard (cy 0) 11 tR_5, eA mQnumber (cy 0) 7 (zup mNum 0 0), eA mQlowUp (cy 0) 7 (zup mLU 0 (tR_5 1)), eA mQlowDown (cy 0) 7 (zup mLD 0 1), eA mQhighUp (cy 0) 7 mHU, eA mQhighDown (cy 0) 7 mHD] H := hP
  have hD : va_D A [eO mO 6 [.int (zI mth), .ref mQtext, .int (zI mmany), .int (zI mcur), .int (zI mst), .int (zI mtok), .int (zI mval), .ref mQnow, .ref mQfresh, .ref mQwas, .int (zI macts), .ref mQisKept, .ref mQkept, .ref mQheard, .ref mQnumber, .ref mQlowUp, .ref mQlowDown, .ref mQhighUp, .ref mQhighDown, .int (zI 0), .ref mQseen, .int (zI memp), .ref mQfirst], eA mQnow (cy 0) 11 mNow, eA mQheard (cy 0) 11 tR_5, eA mQnumber (cy 0) 7 (zup mNum 0 0), eA mQlowUp (cy 0) 7 (zup mLU 0 (tR_5 1)), eA mQlowDown (cy 0) 7 (zup mLD 0 1), eA mQhighUp (cy 0) 7 mHU, eA mQhighDown (cy 0) 7 mHD] := hD
  refine lv_aload_n hx hb dX7_begin_39 rfl (lv_at hl 0 rfl) ?_
  refine va_get (D := D) (ci := 6) (v := .ref mQhighUp) (C := RX7) (T := TX7) (N := 23) hx hb hts u_X7_begin_X7 hown hK.1 hP 0 rfl rfl 17 (by decide) (hts _ m_X7_begin_6) (fun _ h9 => h9) rfl dX7_begin_40 ?_
  refine lv_iconst (v := zI 0) hx hb dX7_begin_43 rfl ?_
  refine lv_aload_n hx hb dX7_begin_44 rfl (lv_at hl 0 rfl) ?_
  refine va_get (D := D) (ci := 6) (v := .ref mQheard) (C := RX7) (T := TX7) (N := 23) hx hb hts u_X7_begin_X7 hown hK.1 hP 0 rfl rfl 13 (by decide) (hts _ m_X7_begin_1) (fun _ h9 => h9) rfl dX7_begin_45 ?_
  refine lv_iconst (v := zI 2) hx hb dX7_begin_48 rfl ?_
  refine zz_iald (i := 2) hx hb hK hP 2 rfl (Nat.le_of_ble_eq_true rfl) (by decide) dX7_begin_49 ?_
  refine zz_iast (i := 0) hx hb hK hP hD hS 6 rfl (Nat.le_of_ble_eq_true rfl) (by decide) dX7_begin_50 (fun H locs hP hD hS => ?_)
  have hP : va_P D vwCl [eO mO 6 [.int (zI mth), .ref mQtext, .int (zI mmany), .int (zI mcur), .int (zI mst), .int (zI mtok), .int (zI mval), .ref mQnow, .ref mQfresh, .ref mQwas, .int (zI macts), .ref mQisKept, .ref mQkept, .ref mQheard, .ref mQnumber, .ref mQlowUp, .ref mQlowDown, .ref mQhighUp, .ref mQhighDown, .int (zI 0), .ref mQseen, .int (zI memp), .ref mQfirst], eA mQnow (cy 0) 11 mNow, eA mQheard (cy 0) 11 tR_5, eA mQnumber (cy 0) 7 (zup mNum 0 0), eA mQlowUp (cy 0) 7 (zup mLU 0 (tR_5 1)), eA mQlowDown (cy 0) 7 (zup mLD 0 1), eA mQhighUp (cy 0) 7 (zup mHU 0 (tR_5 2)), eA mQhighDown (cy 0) 7 mHD] H := hP
  have hD : va_D A [eO mO 6 [.int (zI mth), .ref mQtext, .int (zI mmany), .int (zI mcur), .int (zI mst), .int (zI mtok), .int (zI mval), .ref mQnow, .ref mQfresh, .ref mQwas, .int (zI macts), .ref mQisKept, .ref mQkept, .ref mQheard, .ref mQnumber, .ref mQlowUp, .ref mQlowDown, .ref mQhighUp, .ref mQhighDown, .int (zI 0), .ref mQseen, .int (zI memp), .ref mQfirst], eA mQnow (cy 0) 11 mNow, eA mQheard (cy 0) 11 tR_5, eA mQnumber (cy 0) 7 (zup mNum 0 0), eA mQlowUp (cy 0) 7 (zup mLU 0 (tR_5 1)), eA mQlowDown (cy 0) 7 (zup mLD 0 1), eA mQhighUp (cy 0) 7 (zup mHU 0 (tR_5 2)), eA mQhighDown (cy 0) 7 mHD] := hD
  refine lv_aload_n hx hb dX7_begin_51 rfl (lv_at hl 0 rfl) ?_
  refine va_get (D := D) (ci := 6) (v := .ref mQhighDown) (C := RX7) (T := TX7) (N := 23) hx hb hts u_X7_begin_X7 hown hK.1 hP 0 rfl rfl 18 (by decide) (hts _ m_X7_begin_7) (fun _ h9 => h9) rfl dX7_begin_52 ?_
  refine lv_iconst (v := zI 0) hx hb dX7_begin_55 rfl ?_
  refine lv_iconst (v := zI 1) hx hb dX7_begin_56 rfl ?_
  refine zz_iast (i := 0) hx hb hK hP hD hS 7 rfl (Nat.le_of_ble_eq_true rfl) (by decide) dX7_begin_57 (fun H locs hP hD hS => ?_)
  have hP : va_P D vwCl [eO mO 6 [.int (zI mth), .ref mQtext, .int (zI mmany), .int (zI mcur), .int (zI mst), .int (zI mtok), .int (zI mval), .ref mQnow, .ref mQfresh, .ref mQwas, .int (zI macts), .ref mQisKept, .ref mQkept, .ref mQheard, .ref mQnumber, .ref mQlowUp, .ref mQlowDown, .ref mQhighUp, .ref mQhighDown, .int (zI 0), .ref mQseen, .int (zI memp), .ref mQfirst], eA mQnow (cy 0) 11 mNow, eA mQheard (cy 0) 11 tR_5, eA mQnumber (cy 0) 7 (zup mNum 0 0), eA mQlowUp (cy 0) 7 (zup mLU 0 (tR_5 1)), eA mQlowDown (cy 0) 7 (zup mLD 0 1), eA mQhighUp (cy 0) 7 (zup mHU 0 (tR_5 2)), eA mQhighDown (cy 0) 7 (zup mHD 0 1)] H := hP
  have hD : va_D A [eO mO 6 [.int (zI mth), .ref mQtext, .int (zI mmany), .int (zI mcur), .int (zI mst), .int (zI mtok), .int (zI mval), .ref mQnow, .ref mQfresh, .ref mQwas, .int (zI macts), .ref mQisKept, .ref mQkept, .ref mQheard, .ref mQnumber, .ref mQlowUp, .ref mQlowDown, .ref mQhighUp, .ref mQhighDown, .int (zI 0), .ref mQseen, .int (zI memp), .ref mQfirst], eA mQnow (cy 0) 11 mNow, eA mQheard (cy 0) 11 tR_5, eA mQnumber (cy 0) 7 (zup mNum 0 0), eA mQlowUp (cy 0) 7 (zup mLU 0 (tR_5 1)), eA mQlowDown (cy 0) 7 (zup mLD 0 1), eA mQhighUp (cy 0) 7 (zup mHU 0 (tR_5 2)), eA mQhighDown (cy 0) 7 (zup mHD 0 1)] := hD
  have hf := zq_some hf
  cases hf
  exact W.vret hx hb hr (fun t ht hW => ⟨⟨(), rfl, trivial, by rw [ht]; exact hP, hD⟩, hS.F ht⟩) hS.2.2 dX7_begin_58

noncomputable def f_X7_begin_f (mFresh : Nat → Int) (mHeard : Nat → Int) (mNum : Nat → Int) (mLU : Nat → Int) (mLD : Nat → Int) (mHU : Nat → Int) (mHD : Nat → Int) : Option (Int × (Nat → Int) × (Nat → Int) × (Nat → Int) × (Nat → Int) × (Nat → Int) × (Nat → Int)) :=
  (f_X7_copyAll mFresh mHeard).bind fun tR_5 =>
  some (0, tR_5, (zup mNum 0 0), (zup mLU 0 (tR_5 1)), (zup mLD 0 1), (zup mHU 0 (tR_5 2)), (zup mHD 0 1))

set_option maxRecDepth 100000 in
set_option maxHeartbeats 4000000 in
theorem c_X7_begin_f (l : Launch) (D : va_G) (cy : Nat → ClassId) (mO mQtext mQnow mQfresh mQwas mQisKept mQkept mQheard mQnumber mQlowUp mQlowDown mQhighUp mQhighDown mQseen mQfirst : Nat) (sz : Nat) (mth : Int) (mmany : Int) (mcur : Int) (mst : Int) (mtok : Int) (mval : Int) (macts : Int) (mlev : Int) (memp : Int) (mFresh : Nat → Int) (mHeard : Nat → Int) (mNum : Nat → Int) (mLU : Nat → Int) (mLD : Nat → Int) (mHU : Nat → Int) (mHD : Nat → Int) {mlev' : Int} {mHeard' : Nat → Int} {mNum' : Nat → Int} {mLU' : Nat → Int} {mLD' : Nat → Int} {mHU' : Nat → Int} {mHD' : Nat → Int} (hf : f_X7_begin_f mFresh mHeard mNum mLU mLD mHU mHD = some (mlev', mHeard', mNum', mLU', mLD', mHU', mHD')) : zMv l yX7_begin wsX7_begin ({ frames := 1, cells := 0, slots := 0, locals := 22 }) D cy sz [.ref mO, .ref mQfresh] [eO mO 6 [.int (zI mth), .ref mQtext, .int (zI mmany), .int (zI mcur), .int (zI mst), .int (zI mtok), .int (zI mval), .ref mQnow, .ref mQfresh, .ref mQwas, .int (zI macts), .ref mQisKept, .ref mQkept, .ref mQheard, .ref mQnumber, .ref mQlowUp, .ref mQlowDown, .ref mQhighUp, .ref mQhighDown, .int (zI mlev), .ref mQseen, .int (zI memp), .ref mQfirst], eA mQfresh (cy 0) 11 mFresh, eA mQheard (cy 0) 11 mHeard, eA mQnumber (cy 0) 7 mNum, eA mQlowUp (cy 0) 7 mLU, eA mQlowDown (cy 0) 7 mLD, eA mQhighUp (cy 0) 7 mHU, eA mQhighDown (cy 0) 7 mHD] [eO mO 6 [.int (zI mth), .ref mQtext, .int (zI mmany), .int (zI mcur), .int (zI mst), .int (zI mtok), .int (zI mval), .ref mQnow, .ref mQfresh, .ref mQwas, .int (zI macts), .ref mQisKept, .ref mQkept, .ref mQheard, .ref mQnumber, .ref mQlowUp, .ref mQlowDown, .ref mQhighUp, .ref mQhighDown, .int (zI mlev'), .ref mQseen, .int (zI memp), .ref mQfirst], eA mQfresh (cy 0) 11 mFresh, eA mQheard (cy 0) 11 mHeard', eA mQnumber (cy 0) 7 mNum', eA mQlowUp (cy 0) 7 mLU', eA mQlowDown (cy 0) 7 mLD', eA mQhighUp (cy 0) 7 mHU', eA mQhighDown (cy 0) 7 mHD'] := by
  refine Met.ofW (cc := cX7_begin) (maxL := 2) (ret := none) (by decide) rfl ?_
  intro p e s m args below meth c s₁ B hml hv
  obtain ⟨rfl, hsz, hP, hK, hD0⟩ := hv
  have hx := B.exec
  have hb := B.bytes
  have hr := B.returns
  have hts := atoms_spec (ws := wsX7_begin) B.pre
  have hown : s.vm.findClass RX7 = some m.cls := findClass_of_methodNamed B.named
  have hlocks := B.notSynchronized
  subst hsz
  have hD := hD0.self (sz := s.heap.size)
  generalize hAe : va_A [eO mO 6 [.int (zI mth), .ref mQtext, .int (zI mmany), .int (zI mcur), .int (zI mst), .int (zI mtok), .int (zI mval), .ref mQnow, .ref mQfresh, .ref mQwas, .int (zI macts), .ref mQisKept, .ref mQkept, .ref mQheard, .ref mQnumber, .ref mQlowUp, .ref mQlowDown, .ref mQhighUp, .ref mQhighDown, .int (zI mlev), .ref mQseen, .int (zI memp), .ref mQfirst], eA mQfresh (cy 0) 11 mFresh, eA mQheard (cy 0) 11 mHeard, eA mQnumber (cy 0) 7 mNum, eA mQlowUp (cy 0) 7 mLU, eA mQlowDown (cy 0) 7 mLD, eA mQhighUp (cy 0) 7 mHU, eA mQhighDown (cy 0) 7 mHD] s.heap.size = A at hD ⊢
  have hA : ∀ q : Nat, s.heap.size ≤ q → A q := fun q h => by rw [← hAe]; exact Or.inr h
  have hS : va_S A s.heap s.heap [] := va_S.rf
  have hl := lv_entry ([.ref mO, .ref mQfresh]) (n := 2) (Nat.le_of_ble_eq_true rfl)
  rw [lg_entry_eq]
  generalize (lg_sl ([.ref mO, .ref mQfresh]) ++ List.replicate (2 - (lg_sl ([.ref mO, .ref mQfresh])).length) Slot.unset).toArray = ls at hl ⊢
  have hl : lv_has ls 2 [(0, .ref mO), (1, .ref mQfresh)] := hl
  have hf := zq_of hf
  unfold f_X7_begin_f at hf
  refine lv_aload_n hx hb dX7_begin_0 rfl (lv_at hl 1 rfl) ?_
  refine lv_aload_n hx hb dX7_begin_1 rfl (lv_at hl 0 rfl) ?_
  refine va_get (D := D) (ci := 6) (v := .ref mQheard) (C := RX7) (T := TX7) (N := 23) hx hb hts u_X7_begin_X7 hown hK.1 hP 0 rfl rfl 13 (by decide) (hts _ m_X7_begin_1) (fun _ h9 => h9) rfl dX7_begin_2 ?_
  obtain ⟨tR_5, hc5, hf⟩ := zq_bind hf
  refine zcallSv (wr := [eO mO 6 [.int (zI mth), .ref mQtext, .int (zI mmany), .int (zI mcur), .int (zI mst), .int (zI mtok), .int (zI mval), .ref mQnow, .ref mQfresh, .ref mQwas, .int (zI macts), .ref mQisKept, .ref mQkept, .ref mQheard, .ref mQnumber, .ref mQlowUp, .ref mQlowDown, .ref mQhighUp, .ref mQhighDown, .int (zI mlev), .ref mQseen, .int (zI memp), .ref mQfirst], eA mQnumber (cy 0) 7 mNum, eA mQlowUp (cy 0) 7 mLU, eA mQlowDown (cy 0) 7 mLD, eA mQhighUp (cy 0) 7 mHU, eA mQhighDown (cy 0) 7 mHD]) (rest := []) ⟨hx, hb, hml, hown, hts⟩ (c_X7_copyAll l D cy mQfresh mQheard s.heap.size mFresh mHeard hc5) (va_cwS 2 hts gX7_begin_X7_copyAll rfl rfl rfl (by decide +kernel) ⟨Nat.le_of_ble_eq_true rfl, Nat.le_of_ble_eq_true rfl⟩) hK hP hD hS hA [1, 2] [0, 3, 4, 5, 6, 7] rfl rfl rfl rfl (by decide) rfl hl.1 rfl (Nat.le_of_ble_eq_true rfl) dX7_begin_5 ⟨Nat.zero_le _, Nat.zero_le _⟩ (fun H locs hP hD hS => ?_)
  have hP : va_P D vwCl [eO mO 6 [.int (zI mth), .ref mQtext, .int (zI mmany), .int (zI mcur), .int (zI mst), .int (zI mtok), .int (zI mval), .ref mQnow, .ref mQfresh, .ref mQwas, .int (zI macts), .ref mQisKept, .ref mQkept, .ref mQheard, .ref mQnumber, .ref mQlowUp, .ref mQlowDown, .ref mQhighUp, .ref mQhighDown, .int (zI mlev), .ref mQseen, .int (zI memp), .ref mQfirst], eA mQfresh (cy 0) 11 mFresh, eA mQheard (cy 0) 11 tR_5, eA mQnumber (cy 0) 7 mNum, eA mQlowUp (cy 0) 7 mLU, eA mQlowDown (cy 0) 7 mLD, eA mQhighUp (cy 0) 7 mHU, eA mQhighDown (cy 0) 7 mHD] H := hP.sub [0, 6, 7, 1, 2, 3, 4, 5] rfl
  have hD : va_D A [eO mO 6 [.int (zI mth), .ref mQtext, .int (zI mmany), .int (zI mcur), .int (zI mst), .int (zI mtok), .int (zI mval), .ref mQnow, .ref mQfresh, .ref mQwas, .int (zI macts), .ref mQisKept, .ref mQkept, .ref mQheard, .ref mQnumber, .ref mQlowUp, .ref mQlowDown, .ref mQhighUp, .ref mQhighDown, .int (zI mlev), .ref mQseen, .int (zI memp), .ref mQfirst], eA mQfresh (cy 0) 11 mFresh, eA mQheard (cy 0) 11 tR_5, eA mQnumber (cy 0) 7 mNum, eA mQlowUp (cy 0) 7 mLU, eA mQlowDown (cy 0) 7 mLD, eA mQhighUp (cy 0) 7 mHU, eA mQhighDown (cy 0) 7 mHD] := hD.sub [0, 6, 7, 1, 2, 3, 4, 5] rfl rfl
  refine lv_aload_n hx hb dX7_begin_8 rfl (lv_at hl 0 rfl) ?_
  refine lv_iconst (v := zI 0) hx hb dX7_begin_9 rfl ?_
  refine va_put (D := D) (ci := 6) (v := .int (zI 0)) (ty := .int) (C := RX7) (T := TX7) (N := 23) hx hb hts u_X7_begin_X7 tyX7 tyX7_ok nmX7 hown hK.1 hP hD hS 0 rfl rfl 19 (by decide) (hts _ m_X7_begin_2) (fun _ h9 => h9) rfl (tyX7_ok 19 (by decide)) rfl rfl (Nat.le_of_ble_eq_true rfl) dX7_begin_10 (fun H locs hP hD hS => ?_)
  have hP : va_P D vwCl [eO mO 6 [.int (zI mth), .ref mQtext, .int (zI mmany), .int (zI mcur), .int (zI mst), .int (zI mtok), .int (zI mval), .ref mQnow, .ref mQfresh, .ref mQwas, .int (zI macts), .ref mQisKept, .ref mQkept, .ref mQheard, .ref mQnumber, .ref mQlowUp, .ref mQlowDown, .ref mQhighUp, .ref mQhighDown, .int (zI 0), .ref mQseen, .int (zI memp), .ref mQfirst], eA mQfresh (cy 0) 11 mFresh, eA mQheard (cy 0) 11 tR_5, eA mQnumber (cy 0) 7 mNum, eA mQlowUp (cy 0) 7 mLU, eA mQlowDown (cy 0) 7 mLD, eA mQhighUp (cy 0) 7 mHU, eA mQhighDown (cy 0) 7 mHD] H := hP
  have hD : va_D A [eO mO 6 [.int (zI mth), .ref mQtext, .int (zI mmany), .int (zI mcur), .int (zI mst), .int (zI mtok), .int (zI mval), .ref mQnow, .ref mQfresh, .ref mQwas, .int (zI macts), .ref mQisKept, .ref mQkept, .ref mQheard, .ref mQnumber, .ref mQlowUp, .ref mQlowDown, .ref mQhighUp, .ref mQhighDown, .int (zI 0), .ref mQseen, .int (zI memp), .ref mQfirst], eA mQfresh (cy 0) 11 mFresh, eA mQheard (cy 0) 11 tR_5, eA mQnumber (cy 0) 7 mNum, eA mQlowUp (cy 0) 7 mLU, eA mQlowDown (cy 0) 7 mLD, eA mQhighUp (cy 0) 7 mHU, eA mQhighDown (cy 0) 7 mHD] := hD
  refine lv_aload_n hx hb dX7_begin_13 rfl (lv_at hl 0 rfl) ?_
  refine va_get (D := D) (ci := 6) (v := .ref mQnumber) (C := RX7) (T := TX7) (N := 23) hx hb hts u_X7_begin_X7 hown hK.1 hP 0 rfl rfl 14 (by decide) (hts _ m_X7_begin_3) (fun _ h9 => h9) rfl dX7_begin_14 ?_
  refine lv_iconst (v := zI 0) hx hb dX7_begin_17 rfl ?_
  refine lv_iconst (v := zI 0) hx hb dX7_begin_18 rfl ?_
  refine zz_iast (i := 0) hx hb hK hP hD hS 3 rfl (Nat.le_of_ble_eq_true rfl) (by decide) dX7_begin_19 (fun H locs hP hD hS => ?_)
  have hP : va_P D vwCl [eO mO 6 [.int (zI mth), .ref mQtext, .int (zI mmany), .int (zI mcur), .int (zI mst), .int (zI mtok), .int (zI mval), .ref mQnow, .ref mQfresh, .ref mQwas, .int (zI macts), .ref mQisKept, .ref mQkept, .ref mQheard, .ref mQnumber, .ref mQlowUp, .ref mQlowDown, .ref mQhighUp, .ref mQhighDown, .int (zI 0), .ref mQseen, .int (zI memp), .ref mQfirst], eA mQfresh (cy 0) 11 mFresh, eA mQheard (cy 0) 11 tR_5, eA mQnumber (cy 0) 7 (zup mNum 0 0), eA mQlowUp (cy 0) 7 mLU, eA mQlowDown (cy 0) 7 mLD, eA mQhighUp (cy 0) 7 mHU, eA mQhighDown (cy 0) 7 mHD] H := hP
  have hD : va_D A [eO mO 6 [.int (zI mth), .ref mQtext, .int (zI mmany), .int (zI mcur), .int (zI mst), .int (zI mtok), .int (zI mval), .ref mQnow, .ref mQfresh, .ref mQwas, .int (zI macts), .ref mQisKept, .ref mQkept, .ref mQheard, .ref mQnumber, .ref mQlowUp, .ref mQlowDown, .ref mQhighUp, .ref mQhighDown, .int (zI 0), .ref mQseen, .int (zI memp), .ref mQfirst], eA mQfresh (cy 0) 11 mFresh, eA mQheard (cy 0) 11 tR_5, eA mQnumber (cy 0) 7 (zup mNum 0 0), eA mQlowUp (cy 0) 7 mLU, eA mQlowDown (cy 0) 7 mLD, eA mQhighUp (cy 0) 7 mHU, eA mQhighDown (cy 0) 7 mHD] := hD
  refine lv_aload_n hx hb dX7_begin_20 rfl (lv_at hl 0 rfl) ?_
  refine va_get (D := D) (ci := 6) (v := .ref mQlowUp) (C := RX7) (T := TX7) (N := 23) hx hb hts u_X7_begin_X7 hown hK.1 hP 0 rfl rfl 15 (by decide) (hts _ m_X7_begin_4) (fun _ h9 => h9) rfl dX7_begin_21 ?_
  refine lv_iconst (v := zI 0) hx hb dX7_begin_24 rfl ?_
  refine lv_aload_n hx hb dX7_begin_25 rfl (lv_at hl 0 rfl) ?_
  refine va_get (D := D) (ci := 6) (v := .ref mQheard) (C := RX7) (T := TX7) (N := 23) hx hb hts u_X7_begin_X7 hown hK.1 hP 0 rfl rfl 13 (by decide) (hts _ m_X7_begin_1) (fun _ h9 => h9) rfl dX7_begin_26 ?_
  refine lv_iconst (v := zI 1) hx hb dX7_begin_29 rfl ?_
  refine zz_iald (i := 1) hx hb hK hP 2 rfl (Nat.le_of_ble_eq_true rfl) (by decide) dX7_begin_30 ?_
  refine zz_iast (i := 0) hx hb hK hP hD hS 4 rfl (Nat.le_of_ble_eq_true rfl) (by decide) dX7_begin_31 (fun H locs hP hD hS => ?_)
  have hP : va_P D vwCl [eO mO 6 [.int (zI mth), .ref mQtext, .int (zI mmany), .int (zI mcur), .int (zI mst), .int (zI mtok), .int (zI mval), .ref mQnow, .ref mQfresh, .ref mQwas, .int (zI macts), .ref mQisKept, .ref mQkept, .ref mQheard, .ref mQnumber, .ref mQlowUp, .ref mQlowDown, .ref mQhighUp, .ref mQhighDown, .int (zI 0), .ref mQseen, .int (zI memp), .ref mQfirst], eA mQfresh (cy 0) 11 mFresh, eA mQheard (cy 0) 11 tR_5, eA mQnumber (cy 0) 7 (zup mNum 0 0), eA mQlowUp (cy 0) 7 (zup mLU 0 (tR_5 1)), eA mQlowDown (cy 0) 7 mLD, eA mQhighUp (cy 0) 7 mHU, eA mQhighDown (cy 0) 7 mHD] H := hP
  have hD : va_D A [eO mO 6 [.int (zI mth), .ref mQtext, .int (zI mmany), .int (zI mcur), .int (zI mst), .int (zI mtok), .int (zI mval), .ref mQnow, .ref mQfresh, .ref mQwas, .int (zI macts), .ref mQisKept, .ref mQkept, .ref mQheard, .ref mQnumber, .ref mQlowUp, .ref mQlowDown, .ref mQhighUp, .ref mQhighDown, .int (zI 0), .ref mQseen, .int (zI memp), .ref mQfirst], eA mQfresh (cy 0) 11 mFresh, eA mQheard (cy 0) 11 tR_5, eA mQnumber (cy 0) 7 (zup mNum 0 0), eA mQlowUp (cy 0) 7 (zup mLU 0 (tR_5 1)), eA mQlowDown (cy 0) 7 mLD, eA mQhighUp (cy 0) 7 mHU, eA mQhighDown (cy 0) 7 mHD] := hD
  refine lv_aload_n hx hb dX7_begin_32 rfl (lv_at hl 0 rfl) ?_
  refine va_get (D := D) (ci := 6) (v := .ref mQlowDown) (C := RX7) (T := TX7) (N := 23) hx hb hts u_X7_begin_X7 hown hK.1 hP 0 rfl rfl 16 (by decide) (hts _ m_X7_begin_5) (fun _ h9 => h9) rfl dX7_begin_33 ?_
  refine lv_iconst (v := zI 0) hx hb dX7_begin_36 rfl ?_
  refine lv_iconst (v := zI 1) hx hb dX7_begin_37 rfl ?_
  refine zz_iast (i := 0) hx hb hK hP hD hS 5 rfl (Nat.le_of_ble_eq_true rfl) (by decide) dX7_begin_38 (fun H locs hP hD hS => ?_)
  have hP : va_P D vwCl [eO mO 6 [.int (zI mth), .ref mQtext, .int (zI mmany), .int (zI mcur), .int (zI mst), .int (zI mtok), .int (zI mval), .ref mQnow, .ref mQfresh, .ref mQwas, .int (zI macts), .ref mQisKept, .ref mQkept, .ref mQheard, .ref mQnumber, .ref mQlowUp, .ref mQlowDown, .ref mQhighUp, .ref mQhighDown, .int (zI 0), .ref mQseen, .int (zI memp), .ref mQfirst], eA mQfresh (cy 0) 11 mFresh, eA mQheard (cy 0) 11 tR_5, eA mQnumber (cy 0) 7 (zup mNum 0 0), eA mQlowUp (cy 0) 7 (zup mLU 0 (tR_5 1)), eA mQlowDown (cy 0) 7 (zup mLD 0 1), eA mQhighUp (cy 0) 7 mHU, eA mQhighDown (cy 0) 7 mHD] H := hP
  have hD : va_D A [eO mO 6 [.int (zI mth), .ref mQtext, .int (zI mmany), .int (zI mcur), .int (zI mst), .int (zI mtok), .int (zI mval), .ref mQnow, .ref mQfresh, .ref mQwas, .int (zI macts), .ref mQisKept, .ref mQkept, .ref mQheard, .ref mQnumber, .ref mQlowUp, .ref mQlowDown, .ref mQhighUp, .ref mQhighDown, .int (zI 0), .ref mQseen, .int (zI memp), .ref mQfirst], eA mQfresh (cy 0) 11 mFresh, eA mQheard (cy 0) 11 tR_5, eA mQnumber (cy 0) 7 (zup mNum 0 0), eA mQlowUp (cy 0) 7 (zup mLU 0 (tR_5 1)), eA mQlowDown (cy 0) 7 (zup mLD 0 1), eA mQhighUp (cy 0) 7 mHU, eA mQhighDown (cy 0) 7 mHD] := hD
  refine lv_aload_n hx hb dX7_begin_39 rfl (lv_at hl 0 rfl) ?_
  refine va_get (D := D) (ci := 6) (v := .ref mQhighUp) (C := RX7) (T := TX7) (N := 23) hx hb hts u_X7_begin_X7 hown hK.1 hP 0 rfl rfl 17 (by decide) (hts _ m_X7_begin_6) (fun _ h9 => h9) rfl dX7_begin_40 ?_
  refine lv_iconst (v := zI 0) hx hb dX7_begin_43 rfl ?_
  refine lv_aload_n hx hb dX7_begin_44 rfl (lv_at hl 0 rfl) ?_
  refine va_get (D := D) (ci := 6) (v := .ref mQheard) (C := RX7) (T := TX7) (N := 23) hx hb hts u_X7_begin_X7 hown hK.1 hP 0 rfl rfl 13 (by decide) (hts _ m_X7_begin_1) (fun _ h9 => h9) rfl dX7_begin_45 ?_
  refine lv_iconst (v := zI 2) hx hb dX7_begin_48 rfl ?_
  refine zz_iald (i := 2) hx hb hK hP 2 rfl (Nat.le_of_ble_eq_true rfl) (by decide) dX7_begin_49 ?_
  refine zz_iast (i := 0) hx hb hK hP hD hS 6 rfl (Nat.le_of_ble_eq_true rfl) (by decide) dX7_begin_50 (fun H locs hP hD hS => ?_)
  have hP : va_P D vwCl [eO mO 6 [.int (zI mth), .ref mQtext, .int (zI mmany), .int (zI mcur), .int (zI mst), .int (zI mtok), .int (zI mval), .ref mQnow, .ref mQfresh, .ref mQwas, .int (zI macts), .ref mQisKept, .ref mQkept, .ref mQheard, .ref mQnumber, .ref mQlowUp, .ref mQlowDown, .ref mQhighUp, .ref mQhighDown, .int (zI 0), .ref mQseen, .int (zI memp), .ref mQfirst], eA mQfresh (cy 0) 11 mFresh, eA mQheard (cy 0) 11 tR_5, eA mQnumber (cy 0) 7 (zup mNum 0 0), eA mQlowUp (cy 0) 7 (zup mLU 0 (tR_5 1)), eA mQlowDown (cy 0) 7 (zup mLD 0 1), eA mQhighUp (cy 0) 7 (zup mHU 0 (tR_5 2)), eA mQhighDown (cy 0) 7 mHD] H := hP
  have hD : va_D A [eO mO 6 [.int (zI mth), .ref mQtext, .int (zI mmany), .int (zI mcur), .int (zI mst), .int (zI mtok), .int (zI mval), .ref mQnow, .ref mQfresh, .ref mQwas, .int (zI macts), .ref mQisKept, .ref mQkept, .ref mQheard, .ref mQnumber, .ref mQlowUp, .ref mQlowDown, .ref mQhighUp, .ref mQhighDown, .int (zI 0), .ref mQseen, .int (zI memp), .ref mQfirst], eA mQfresh (cy 0) 11 mFresh, eA mQheard (cy 0) 11 tR_5, eA mQnumber (cy 0) 7 (zup mNum 0 0), eA mQlowUp (cy 0) 7 (zup mLU 0 (tR_5 1)), eA mQlowDown (cy 0) 7 (zup mLD 0 1), eA mQhighUp (cy 0) 7 (zup mHU 0 (tR_5 2)), eA mQhighDown (cy 0) 7 mHD] := hD
  refine lv_aload_n hx hb dX7_begin_51 rfl (lv_at hl 0 rfl) ?_
  refine va_get (D := D) (ci := 6) (v := .ref mQhighDown) (C := RX7) (T := TX7) (N := 23) hx hb hts u_X7_begin_X7 hown hK.1 hP 0 rfl rfl 18 (by decide) (hts _ m_X7_begin_7) (fun _ h9 => h9) rfl dX7_begin_52 ?_
  refine lv_iconst (v := zI 0) hx hb dX7_begin_55 rfl ?_
  refine lv_iconst (v := zI 1) hx hb dX7_begin_56 rfl ?_
  refine zz_iast (i := 0) hx hb hK hP hD hS 7 rfl (Nat.le_of_ble_eq_true rfl) (by decide) dX7_begin_57 (fun H locs hP hD hS => ?_)
  have hP : va_P D vwCl [eO mO 6 [.int (zI mth), .ref mQtext, .int (zI mmany), .int (zI mcur), .int (zI mst), .int (zI mtok), .int (zI mval), .ref mQnow, .ref mQfresh, .ref mQwas, .int (zI macts), .ref mQisKept, .ref mQkept, .ref mQheard, .ref mQnumber, .ref mQlowUp, .ref mQlowDown, .ref mQhighUp, .ref mQhighDown, .int (zI 0), .ref mQseen, .int (zI memp), .ref mQfirst], eA mQfresh (cy 0) 11 mFresh, eA mQheard (cy 0) 11 tR_5, eA mQnumber (cy 0) 7 (zup mNum 0 0), eA mQlowUp (cy 0) 7 (zup mLU 0 (tR_5 1)), eA mQlowDown (cy 0) 7 (zup mLD 0 1), eA mQhighUp (cy 0) 7 (zup mHU 0 (tR_5 2)), eA mQhighDown (cy 0) 7 (zup mHD 0 1)] H := hP
  have hD : va_D A [eO mO 6 [.int (zI mth), .ref mQtext, .int (zI mmany), .int (zI mcur), .int (zI mst), .int (zI mtok), .int (zI mval), .ref mQnow, .ref mQfresh, .ref mQwas, .int (zI macts), .ref mQisKept, .ref mQkept, .ref mQheard, .ref mQnumber, .ref mQlowUp, .ref mQlowDown, .ref mQhighUp, .ref mQhighDown, .int (zI 0), .ref mQseen, .int (zI memp), .ref mQfirst], eA mQfresh (cy 0) 11 mFresh, eA mQheard (cy 0) 11 tR_5, eA mQnumber (cy 0) 7 (zup mNum 0 0), eA mQlowUp (cy 0) 7 (zup mLU 0 (tR_5 1)), eA mQlowDown (cy 0) 7 (zup mLD 0 1), eA mQhighUp (cy 0) 7 (zup mHU 0 (tR_5 2)), eA mQhighDown (cy 0) 7 (zup mHD 0 1)] := hD
  have hf := zq_some hf
  cases hf
  exact W.vret hx hb hr (fun t ht hW => ⟨⟨(), rfl, trivial, by rw [ht]; exact hP, hD⟩, hS.F ht⟩) hS.2.2 dX7_begin_58

noncomputable def f_X7_isBeyond (p1 : Int) (mHeard : Nat → Int) (mNum : Nat → Int) (mLU : Nat → Int) (mLD : Nat → Int) : Option (Int) :=
  (f_X7_apart 0 p1 mHeard).bind fun r6 =>
  gd (zin (p1 - 1) 7) <|
  gd (zin p1 7) <|
  gd (zin (p1 - 1) 7) <|
  gd (zR ((r6 + (2 * (mHeard 3))) * (mLD (Int.toNat (p1 - 1)))) ∧ zR ((mNum (Int.toNat p1)) * (mLU (Int.toNat (p1 - 1))))) <|
  if ((r6 + (2 * (mHeard 3))) * (mLD (Int.toNat (p1 - 1)))) < ((mNum (Int.toNat p1)) * (mLU (Int.toNat (p1 - 1)))) then
    some 1
  else
    some 0
theorem m_X7_isBeyond_1 : (.fieldLink RX7 62 "PulseTurnsModel" "heard" "[I" : Cond) ∈ wsX7_isBeyond := List.mem_of_getElem? (i := 1) rfl
theorem m_X7_isBeyond_2 : (.fieldLink RX7 71 "PulseTurnsModel" "lowDown" "[I" : Cond) ∈ wsX7_isBeyond := List.mem_of_getElem? (i := 2) rfl
theorem m_X7_isBeyond_3 : (.fieldLink RX7 65 "PulseTurnsModel" "number" "[I" : Cond) ∈ wsX7_isBeyond := List.mem_of_getElem? (i := 3) rfl
theorem m_X7_isBeyond_4 : (.fieldLink RX7 68 "PulseTurnsModel" "lowUp" "[I" : Cond) ∈ wsX7_isBeyond := List.mem_of_getElem? (i := 4) rfl
theorem u_X7_isBeyond_X7 : ∀ w ∈ wsX70, w ∈ wsX7_isBeyond := fun w h => List.mem_cons_of_mem _ (List.mem_append_right _ h)
set_option maxRecDepth 100000 in
set_option maxHeartbeats 4000000 in
theorem c_X7_isBeyond (l : Launch) (D : va_G) (cy : Nat → ClassId) (mO mQtext mQnow mQfresh mQwas mQisKept mQkept mQheard mQnumber mQlowUp mQlowDown mQhighUp mQhighDown mQseen mQfirst : Nat) (sz : Nat) (p1 : Int) (mth : Int) (mmany : Int) (mcur : Int) (mst : Int) (mtok : Int) (mval : Int) (macts : Int) (mlev : Int) (memp : Int) (mHeard : Nat → Int) (mNum : Nat → Int) (mLU : Nat → Int) (mLD : Nat → Int) {r : Int} (hf : f_X7_isBeyond p1 mHeard mNum mLU mLD = some r) : zMi l yX7_isBeyond wsX7_isBeyond ({ frames := 1, cells := 0, slots := 0, locals := 22 }) D cy sz [.ref mO, .int (zI p1)] [eO mO 6 [.int (zI mth), .ref mQtext, .int (zI mmany), .int (zI mcur), .int (zI mst), .int (zI mtok), .int (zI mval), .ref mQnow, .ref mQfresh, .ref mQwas, .int (zI macts), .ref mQisKept, .ref mQkept, .ref mQheard, .ref mQnumber, .ref mQlowUp, .ref mQlowDown, .ref mQhighUp, .ref mQhighDown, .int (zI mlev), .ref mQseen, .int (zI memp), .ref mQfirst], eA mQheard (cy 0) 11 mHeard, eA mQnumber (cy 0) 7 mNum, eA mQlowUp (cy 0) 7 mLU, eA mQlowDown (cy 0) 7 mLD] [eO mO 6 [.int (zI mth), .ref mQtext, .int (zI mmany), .int (zI mcur), .int (zI mst), .int (zI mtok), .int (zI mval), .ref mQnow, .ref mQfresh, .ref mQwas, .int (zI macts), .ref mQisKept, .ref mQkept, .ref mQheard, .ref mQnumber, .ref mQlowUp, .ref mQlowDown, .ref mQhighUp, .ref mQhighDown, .int (zI mlev), .ref mQseen, .int (zI memp), .ref mQfirst], eA mQheard (cy 0) 11 mHeard, eA mQnumber (cy 0) 7 mNum, eA mQlowUp (cy 0) 7 mLU, eA mQlowDown (cy 0) 7 mLD] (zI r) := by
  refine Met.ofW (cc := cX7_isBeyond) (maxL := 2) (ret := (some .boolean)) (by decide) rfl ?_
  intro p e s m args below meth c s₁ B hml hv
  obtain ⟨rfl, hsz, hP, hK, hD0⟩ := hv
  have hx := B.exec
  have hb := B.bytes
  have hr := B.returns
  have hts := atoms_spec (ws := wsX7_isBeyond) B.pre
  have hown : s.vm.findClass RX7 = some m.cls := findClass_of_methodNamed B.named
  have hlocks := B.notSynchronized
  subst hsz
  have hD := hD0.self (sz := s.heap.size)
  generalize hAe : va_A [eO mO 6 [.int (zI mth), .ref mQtext, .int (zI mmany), .int (zI mcur), .int (zI mst), .int (zI mtok), .int (zI mval), .ref mQnow, .ref mQfresh, .ref mQwas, .int (zI macts), .ref mQisKept, .ref mQkept, .ref mQheard, .ref mQnumber, .ref mQlowUp, .ref mQlowDown, .ref mQhighUp, .ref mQhighDown, .int (zI mlev), .ref mQseen, .int (zI memp), .ref mQfirst], eA mQheard (cy 0) 11 mHeard, eA mQnumber (cy 0) 7 mNum, eA mQlowUp (cy 0) 7 mLU, eA mQlowDown (cy 0) 7 mLD] s.heap.size = A at hD ⊢
  have hA : ∀ q : Nat, s.heap.size ≤ q → A q := fun q h => by rw [← hAe]; exact Or.inr h
  have hS : va_S A s.heap s.heap [] := va_S.rf
  have hl := lv_entry ([.ref mO, .int (zI p1)]) (n := 2) (Nat.le_of_ble_eq_true rfl)
  rw [lg_entry_eq]
  generalize (lg_sl ([.ref mO, .int (zI p1)]) ++ List.replicate (2 - (lg_sl ([.ref mO, .int (zI p1)])).length) Slot.unset).toArray = ls at hl ⊢
  have hl : lv_has ls 2 [(0, .ref mO), (1, .int (zI p1))] := hl
  have hf := zq_of hf
  unfold f_X7_isBeyond at hf
  refine lv_aload_n hx hb dX7_isBeyond_0 rfl (lv_at hl 0 rfl) ?_
  refine va_get (D := D) (ci := 6) (v := .ref mQheard) (C := RX7) (T := TX7) (N := 23) hx hb hts u_X7_isBeyond_X7 hown hK.1 hP 0 rfl rfl 13 (by decide) (hts _ m_X7_isBeyond_1) (fun _ h9 => h9) rfl dX7_isBeyond_1 ?_
  refine lv_iconst (v := zI 0) hx hb dX7_isBeyond_4 rfl ?_
  refine lv_iload_n hx hb dX7_isBeyond_5 rfl (lv_at hl 1 rfl) ?_
  obtain ⟨r6, hc6, hf⟩ := zq_bind hf
  refine zcallSi (wr := [eO mO 6 [.int (zI mth), .ref mQtext, .int (zI mmany), .int (zI mcur), .int (zI mst), .int (zI mtok), .int (zI mval), .ref mQnow, .ref mQfresh, .ref mQwas, .int (zI macts), .ref mQisKept, .ref mQkept, .ref mQheard, .ref mQnumber, .ref mQlowUp, .ref mQlowDown, .ref mQhighUp, .ref mQhighDown, .int (zI mlev), .ref mQseen, .int (zI memp), .ref mQfirst], eA mQnumber (cy 0) 7 mNum, eA mQlowUp (cy 0) 7 mLU, eA mQlowDown (cy 0) 7 mLD]) (rest := []) ⟨hx, hb, hml, hown, hts⟩ (c_X7_apart l D cy mQheard s.heap.size 0 p1 mHeard hc6) (va_cwS 3 hts gX7_isBeyond_X7_apart rfl rfl rfl (by decide +kernel) ⟨Nat.le_of_ble_eq_true rfl, Nat.le_of_ble_eq_true rfl⟩) hK hP hD hS hA [1] [0, 2, 3, 4] rfl rfl rfl rfl (by decide) rfl hl.1 rfl (Nat.le_of_ble_eq_true rfl) dX7_isBeyond_6 ⟨Nat.zero_le _, Nat.zero_le _⟩ (fun H locs hP hD hS => ?_)
  have hP : va_P D vwCl [eO mO 6 [.int (zI mth), .ref mQtext, .int (zI mmany), .int (zI mcur), .int (zI mst), .int (zI mtok), .int (zI mval), .ref mQnow, .ref mQfresh, .ref mQwas, .int (zI macts), .ref mQisKept, .ref mQkept, .ref mQheard, .ref mQnumber, .ref mQlowUp, .ref mQlowDown, .ref mQhighUp, .ref mQhighDown, .int (zI mlev), .ref mQseen, .int (zI memp), .ref mQfirst], eA mQheard (cy 0) 11 mHeard, eA mQnumber (cy 0) 7 mNum, eA mQlowUp (cy 0) 7 mLU, eA mQlowDown (cy 0) 7 mLD] H := hP.sub [0, 4, 1, 2, 3] rfl
  have hD : va_D A [eO mO 6 [.int (zI mth), .ref mQtext, .int (zI mmany), .int (zI mcur), .int (zI mst), .int (zI mtok), .int (zI mval), .ref mQnow, .ref mQfresh, .ref mQwas, .int (zI macts), .ref mQisKept, .ref mQkept, .ref mQheard, .ref mQnumber, .ref mQlowUp, .ref mQlowDown, .ref mQhighUp, .ref mQhighDown, .int (zI mlev), .ref mQseen, .int (zI memp), .ref mQfirst], eA mQheard (cy 0) 11 mHeard, eA mQnumber (cy 0) 7 mNum, eA mQlowUp (cy 0) 7 mLU, eA mQlowDown (cy 0) 7 mLD] := hD.sub [0, 4, 1, 2, 3] rfl rfl
  refine lv_iconst (v := zI 2) hx hb dX7_isBeyond_9 rfl ?_
  refine lv_aload_n hx hb dX7_isBeyond_10 rfl (lv_at hl 0 rfl) ?_
  refine va_get (D := D) (ci := 6) (v := .ref mQheard) (C := RX7) (T := TX7) (N := 23) hx hb hts u_X7_isBeyond_X7 hown hK.1 hP 0 rfl rfl 13 (by decide) (hts _ m_X7_isBeyond_1) (fun _ h9 => h9) rfl dX7_isBeyond_11 ?_
  refine lv_iconst (v := zI 3) hx hb dX7_isBeyond_14 rfl ?_
  refine zz_iald (i := 3) hx hb hK hP 1 rfl (Nat.le_of_ble_eq_true rfl) (by decide) dX7_isBeyond_15 ?_
  refine zz_imul hx hb dX7_isBeyond_16 ?_
  refine zz_iadd hx hb dX7_isBeyond_17 ?_
  refine lv_aload_n hx hb dX7_isBeyond_18 rfl (lv_at hl 0 rfl) ?_
  refine va_get (D := D) (ci := 6) (v := .ref mQlowDown) (C := RX7) (T := TX7) (N := 23) hx hb hts u_X7_isBeyond_X7 hown hK.1 hP 0 rfl rfl 16 (by decide) (hts _ m_X7_isBeyond_2) (fun _ h9 => h9) rfl dX7_isBeyond_19 ?_
  refine lv_iload_n hx hb dX7_isBeyond_22 rfl (lv_at hl 1 rfl) ?_
  refine lv_iconst (v := zI 1) hx hb dX7_isBeyond_23 rfl ?_
  refine zz_isub hx hb dX7_isBeyond_24 ?_
  obtain ⟨hg, hf⟩ := zq_gd hf
  refine zz_iald (i := (p1 - 1)) hx hb hK hP 4 rfl (Nat.le_of_ble_eq_true rfl) hg dX7_isBeyond_25 ?_
  refine zz_imul hx hb dX7_isBeyond_26 ?_
  refine lv_aload_n hx hb dX7_isBeyond_27 rfl (lv_at hl 0 rfl) ?_
  refine va_get (D := D) (ci := 6) (v := .ref mQnumber) (C := RX7) (T := TX7) (N := 23) hx hb hts u_X7_isBeyond_X7 hown hK.1 hP 0 rfl rfl 14 (by decide) (hts _ m_X7_isBeyond_3) (fun _ h9 => h9) rfl dX7_isBeyond_28 ?_
  refine lv_iload_n hx hb dX7_isBeyond_31 rfl (lv_at hl 1 rfl) ?_
  obtain ⟨hg, hf⟩ := zq_gd hf
  refine zz_iald (i := p1) hx hb hK hP 2 rfl (Nat.le_of_ble_eq_true rfl) hg dX7_isBeyond_32 ?_
  refine lv_aload_n hx hb dX7_isBeyond_33 rfl (lv_at hl 0 rfl) ?_
  refine va_get (D := D) (ci := 6) (v := .ref mQlowUp) (C := RX7) (T := TX7) (N := 23) hx hb hts u_X7_isBeyond_X7 hown hK.1 hP 0 rfl rfl 15 (by decide) (hts _ m_X7_isBeyond_4) (fun _ h9 => h9) rfl dX7_isBeyond_34 ?_
  refine lv_iload_n hx hb dX7_isBeyond_37 rfl (lv_at hl 1 rfl) ?_
  refine lv_iconst (v := zI 1) hx hb dX7_isBeyond_38 rfl ?_
  refine zz_isub hx hb dX7_isBeyond_39 ?_
  obtain ⟨hg, hf⟩ := zq_gd hf
  refine zz_iald (i := (p1 - 1)) hx hb hK hP 3 rfl (Nat.le_of_ble_eq_true rfl) hg dX7_isBeyond_40 ?_
  refine zz_imul hx hb dX7_isBeyond_41 ?_
  refine zz_icmp_ge (tgt := 49) hx hb dX7_isBeyond_42 (by decide) hf (fun hc hf => ?_) (fun hc hf => ?_)
  · refine lv_iconst (v := zI 1) hx hb dX7_isBeyond_45 rfl ?_
    refine lv_goto (tgt := 50) hx hb dX7_isBeyond_46 (by decide) ?_
    have hf := zq_some hf
    cases hf
    exact W.zret hx hb hr rfl (fun t ht hW => ⟨⟨_, (), rfl, rfl, by rw [ht]; exact hP, hD⟩, hS.F ht⟩) hS.2.2 dX7_isBeyond_50
  · refine lv_iconst (v := zI 0) hx hb dX7_isBeyond_49 rfl ?_
    have hf := zq_some hf
    cases hf
    exact W.zret hx hb hr rfl (fun t ht hW => ⟨⟨_, (), rfl, rfl, by rw [ht]; exact hP, hD⟩, hS.F ht⟩) hS.2.2 dX7_isBeyond_50

noncomputable def st_X7_doesCut (p1 : Int) (mHeard : Nat → Int) (mNum : Nat → Int) : (Nat × Int × Int × Int × Int × Int × (Nat → Int) × (Nat → Int) × (Nat → Int) × (Nat → Int)) → Option ((Nat × Int × Int × Int × Int × Int × (Nat → Int) × (Nat → Int) × (Nat → Int) × (Nat → Int)) ⊕ (Int × (Nat → Int) × (Nat → Int) × (Nat → Int) × (Nat → Int))) := fun v => match v with
  | (0, x2, x3, x4, x5, x6, mLU, mLD, mHU, mHD) =>
  gd (zR x2 ∧ zR p1) <|
  if x2 < p1 then
    (f_X7_apart x2 p1 mHeard).bind fun r69 =>
    gd (zin p1 7) <|
    gd (zin x2 7) <|
    zlt ((mNum (Int.toNat p1)) - (mNum (Int.toNat x2))) fun v86 =>
    zlt (r69 - (2 * (mHeard 3))) fun v98 =>
    zlt (r69 + (2 * (mHeard 3))) fun v110 =>
    gd (zin p1 7) <|
    gd (zin p1 7) <|
    gd (zR (v98 * (mLD (Int.toNat p1))) ∧ zR ((mLU (Int.toNat p1)) * v86)) <|
    if (v98 * (mLD (Int.toNat p1))) ≤ ((mLU (Int.toNat p1)) * v86) then
      some (.inl (1, x2, r69, v86, v98, v110, mLU, mLD, mHU, mHD))
    else
      gd (zin p1 7) <|
      gd (zin p1 7) <|
      some (.inl (1, x2, r69, v86, v98, v110, (zup mLU p1 v98), (zup mLD p1 v86), mHU, mHD))
  else
    gd (zin p1 7) <|
    gd (zin p1 7) <|
    gd (zin p1 7) <|
    gd (zin p1 7) <|
    gd (zR ((mLU (Int.toNat p1)) * (mHD (Int.toNat p1))) ∧ zR ((mHU (Int.toNat p1)) * (mLD (Int.toNat p1)))) <|
    if ((mLU (Int.toNat p1)) * (mHD (Int.toNat p1))) ≤ ((mHU (Int.toNat p1)) * (mLD (Int.toNat p1))) then
      some (.inr (1, mLU, mLD, mHU, mHD))
    else
      some (.inr (0, mLU, mLD, mHU, mHD))
  | (1, x2, x3, x4, x5, x6, mLU, mLD, mHU, mHD) =>
  gd (zin p1 7) <|
  gd (zin p1 7) <|
  gd (zR (x6 * (mHD (Int.toNat p1))) ∧ zR ((mHU (Int.toNat p1)) * x4)) <|
  if (x6 * (mHD (Int.toNat p1))) < ((mHU (Int.toNat p1)) * x4) then
    gd (zin p1 7) <|
    gd (zin p1 7) <|
    some (.inl (0, (x2 + 1), 0, 0, 0, 0, mLU, mLD, (zup mHU p1 x6), (zup mHD p1 x4)))
  else
    some (.inl (0, (x2 + 1), 0, 0, 0, 0, mLU, mLD, mHU, mHD))
  | _ => none
noncomputable def f_X7_doesCut (p1 : Int) (mHeard : Nat → Int) (mNum : Nat → Int) (mLU : Nat → Int) (mLD : Nat → Int) (mHU : Nat → Int) (mHD : Nat → Int) : Option (Int × (Nat → Int) × (Nat → Int) × (Nat → Int) × (Nat → Int)) :=
  gd (zin (p1 - 1) 7) <|
  gd (zin p1 7) <|
  gd (zin (p1 - 1) 7) <|
  gd (zin p1 7) <|
  gd (zin (p1 - 1) 7) <|
  gd (zin p1 7) <|
  gd (zin (p1 - 1) 7) <|
  gd (zin p1 7) <|
  zev (st_X7_doesCut p1 mHeard mNum) (0, 0, 0, 0, 0, 0, (zup mLU p1 (mLU (Int.toNat (p1 - 1)))), (zup mLD p1 (mLD (Int.toNat (p1 - 1)))), (zup mHU p1 (mHU (Int.toNat (p1 - 1)))), (zup mHD p1 (mHD (Int.toNat (p1 - 1)))))
theorem m_X7_doesCut_1 : (.fieldLink RX7 68 "PulseTurnsModel" "lowUp" "[I" : Cond) ∈ wsX7_doesCut := List.mem_of_getElem? (i := 1) rfl
theorem m_X7_doesCut_2 : (.fieldLink RX7 71 "PulseTurnsModel" "lowDown" "[I" : Cond) ∈ wsX7_doesCut := List.mem_of_getElem? (i := 2) rfl
theorem m_X7_doesCut_3 : (.fieldLink RX7 74 "PulseTurnsModel" "highUp" "[I" : Cond) ∈ wsX7_doesCut := List.mem_of_getElem? (i := 3) rfl
theorem m_X7_doesCut_4 : (.fieldLink RX7 77 "PulseTurnsModel" "highDown" "[I" : Cond) ∈ wsX7_doesCut := List.mem_of_getElem? (i := 4) rfl
theorem m_X7_doesCut_5 : (.fieldLink RX7 62 "PulseTurnsModel" "heard" "[I" : Cond) ∈ wsX7_doesCut := List.mem_of_getElem? (i := 5) rfl
theorem m_X7_doesCut_6 : (.fieldLink RX7 65 "PulseTurnsModel" "number" "[I" : Cond) ∈ wsX7_doesCut := List.mem_of_getElem? (i := 6) rfl
theorem u_X7_doesCut_X7 : ∀ w ∈ wsX70, w ∈ wsX7_doesCut := fun w h => List.mem_cons_of_mem _ (List.mem_append_right _ h)
set_option maxRecDepth 100000 in
set_option maxHeartbeats 4000000 in
theorem c_X7_doesCut (l : Launch) (D : va_G) (cy : Nat → ClassId) (mO mQtext mQnow mQfresh mQwas mQisKept mQkept mQheard mQnumber mQlowUp mQlowDown mQhighUp mQhighDown mQseen mQfirst : Nat) (sz : Nat) (p1 : Int) (mth : Int) (mmany : Int) (mcur : Int) (mst : Int) (mtok : Int) (mval : Int) (macts : Int) (mlev : Int) (memp : Int) (mHeard : Nat → Int) (mNum : Nat → Int) (mLU : Nat → Int) (mLD : Nat → Int) (mHU : Nat → Int) (mHD : Nat → Int) {r : Int} {mLU' : Nat → Int} {mLD' : Nat → Int} {mHU' : Nat → Int} {mHD' : Nat → Int} (hf : f_X7_doesCut p1 mHeard mNum mLU mLD mHU mHD = some (r, mLU', mLD', mHU', mHD')) : zMi l yX7_doesCut wsX7_doesCut ({ frames := 1, cells := 0, slots := 0, locals := 22 }) D cy sz [.ref mO, .int (zI p1)] [eO mO 6 [.int (zI mth), .ref mQtext, .int (zI mmany), .int (zI mcur), .int (zI mst), .int (zI mtok), .int (zI mval), .ref mQnow, .ref mQfresh, .ref mQwas, .int (zI macts), .ref mQisKept, .ref mQkept, .ref mQheard, .ref mQnumber, .ref mQlowUp, .ref mQlowDown, .ref mQhighUp, .ref mQhighDown, .int (zI mlev), .ref mQseen, .int (zI memp), .ref mQfirst], eA mQheard (cy 0) 11 mHeard, eA mQnumber (cy 0) 7 mNum, eA mQlowUp (cy 0) 7 mLU, eA mQlowDown (cy 0) 7 mLD, eA mQhighUp (cy 0) 7 mHU, eA mQhighDown (cy 0) 7 mHD] [eO mO 6 [.int (zI mth), .ref mQtext, .int (zI mmany), .int (zI mcur), .int (zI mst), .int (zI mtok), .int (zI mval), .ref mQnow, .ref mQfresh, .ref mQwas, .int (zI macts), .ref mQisKept, .ref mQkept, .ref mQheard, .ref mQnumber, .ref mQlowUp, .ref mQlowDown, .ref mQhighUp, .ref mQhighDown, .int (zI mlev), .ref mQseen, .int (zI memp), .ref mQfirst], eA mQheard (cy 0) 11 mHeard, eA mQnumber (cy 0) 7 mNum, eA mQlowUp (cy 0) 7 mLU', eA mQlowDown (cy 0) 7 mLD', eA mQhighUp (cy 0) 7 mHU', eA mQhighDown (cy 0) 7 mHD'] (zI r) := by
  refine Met.ofW (cc := cX7_doesCut) (maxL := 7) (ret := (some .boolean)) (by decide) rfl ?_
  intro p e s m args below meth c s₁ B hml hv
  obtain ⟨rfl, hsz, hP, hK, hD0⟩ := hv
  have hx := B.exec
  have hb := B.bytes
  have hr := B.returns
  have hts := atoms_spec (ws := wsX7_doesCut) B.pre
  have hown : s.vm.findClass RX7 = some m.cls := findClass_of_methodNamed B.named
  have hlocks := B.notSynchronized
  subst hsz
  have hD := hD0.self (sz := s.heap.size)
  generalize hAe : va_A [eO mO 6 [.int (zI mth), .ref mQtext, .int (zI mmany), .int (zI mcur), .int (zI mst), .int (zI mtok), .int (zI mval), .ref mQnow, .ref mQfresh, .ref mQwas, .int (zI macts), .ref mQisKept, .ref mQkept, .ref mQheard, .ref mQnumber, .ref mQlowUp, .ref mQlowDown, .ref mQhighUp, .ref mQhighDown, .int (zI mlev), .ref mQseen, .int (zI memp), .ref mQfirst], eA mQheard (cy 0) 11 mHeard, eA mQnumber (cy 0) 7 mNum, eA mQlowUp (cy 0) 7 mLU, eA mQlowDown (cy 0) 7 mLD, eA mQhighUp (cy 0) 7 mHU, eA mQhighDown (cy 0) 7 mHD] s.heap.size = A at hD ⊢
  have hA : ∀ q : Nat, s.heap.size ≤ q → A q := fun q h => by rw [← hAe]; exact Or.inr h
  have hS : va_S A s.heap s.heap [] := va_S.rf
  have hl := lv_entry ([.ref mO, .int (zI p1)]) (n := 7) (Nat.le_of_ble_eq_true rfl)
  rw [lg_entry_eq]
  generalize (lg_sl ([.ref mO, .int (zI p1)]) ++ List.replicate (7 - (lg_sl ([.ref mO, .int (zI p1)])).length) Slot.unset).toArray = ls at hl ⊢
  have hl : lv_has ls 7 [(0, .ref mO), (1, .int (zI p1))] := hl
  have hf := zq_of hf
  have key := zloop (st := st_X7_doesCut p1 mHeard mNum) (res := (r, mLU', mLD', mHU', mHD')) (K := fun v => match v with
    | (0, x2, x3, x4, x5, x6, mLU, mLD, mHU, mHD) => ∀ (H : Heap) (locs : List Loc) (ls : Array Slot), va_P D vwCl [eO mO 6 [.int (zI mth), .ref mQtext, .int (zI mmany), .int (zI mcur), .int (zI mst), .int (zI mtok), .int (zI mval), .ref mQnow, .ref mQfresh, .ref mQwas, .int (zI macts), .ref mQisKept, .ref mQkept, .ref mQheard, .ref mQnumber, .ref mQlowUp, .ref mQlowDown, .ref mQhighUp, .ref mQhighDown, .int (zI mlev), .ref mQseen, .int (zI memp), .ref mQfirst], eA mQheard (cy 0) 11 mHeard, eA mQnumber (cy 0) 7 mNum, eA mQlowUp (cy 0) 7 mLU, eA mQlowDown (cy 0) 7 mLD, eA mQhighUp (cy 0) 7 mHU, eA mQhighDown (cy 0) 7 mHD] H → va_D A [eO mO 6 [.int (zI mth), .ref mQtext, .int (zI mmany), .int (zI mcur), .int (zI mst), .int (zI mtok), .int (zI mval), .ref mQnow, .ref mQfresh, .ref mQwas, .int (zI macts), .ref mQisKept, .ref mQkept, .ref mQheard, .ref mQnumber, .ref mQlowUp, .ref mQlowDown, .ref mQhighUp, .ref mQhighDown, .int (zI mlev), .ref mQseen, .int (zI memp), .ref mQfirst], eA mQheard (cy 0) 11 mHeard, eA mQnumber (cy 0) 7 mNum, eA mQlowUp (cy 0) 7 mLU, eA mQlowDown (cy 0) 7 mLD, eA mQhighUp (cy 0) 7 mHU, eA mQhighDown (cy 0) 7 mHD] → va_S A s.heap H locs → lv_has ls 7 [(0, .ref mO), (1, .int (zI p1)), (2, .int (zI x2))] → zGi p l e wsX7_doesCut ({ frames := 1, cells := 0, slots := 0, locals := 22 }) s m [.ref mO, .int (zI p1)] below meth c A D [eO mO 6 [.int (zI mth), .ref mQtext, .int (zI mmany), .int (zI mcur), .int (zI mst), .int (zI mtok), .int (zI mval), .ref mQnow, .ref mQfresh, .ref mQwas, .int (zI macts), .ref mQisKept, .ref mQkept, .ref mQheard, .ref mQnumber, .ref mQlowUp, .ref mQlowDown, .ref mQhighUp, .ref mQhighDown, .int (zI mlev), .ref mQseen, .int (zI memp), .ref mQfirst], eA mQheard (cy 0) 11 mHeard, eA mQnumber (cy 0) 7 mNum, eA mQlowUp (cy 0) 7 mLU', eA mQlowDown (cy 0) 7 mLD', eA mQhighUp (cy 0) 7 mHU', eA mQhighDown (cy 0) 7 mHD'] (zI r) H locs (F0 m 58 ls [])
    | (1, x2, x3, x4, x5, x6, mLU, mLD, mHU, mHD) => ∀ (H : Heap) (locs : List Loc) (ls : Array Slot), va_P D vwCl [eO mO 6 [.int (zI mth), .ref mQtext, .int (zI mmany), .int (zI mcur), .int (zI mst), .int (zI mtok), .int (zI mval), .ref mQnow, .ref mQfresh, .ref mQwas, .int (zI macts), .ref mQisKept, .ref mQkept, .ref mQheard, .ref mQnumber, .ref mQlowUp, .ref mQlowDown, .ref mQhighUp, .ref mQhighDown, .int (zI mlev), .ref mQseen, .int (zI memp), .ref mQfirst], eA mQheard (cy 0) 11 mHeard, eA mQnumber (cy 0) 7 mNum, eA mQlowUp (cy 0) 7 mLU, eA mQlowDown (cy 0) 7 mLD, eA mQhighUp (cy 0) 7 mHU, eA mQhighDown (cy 0) 7 mHD] H → va_D A [eO mO 6 [.int (zI mth), .ref mQtext, .int (zI mmany), .int (zI mcur), .int (zI mst), .int (zI mtok), .int (zI mval), .ref mQnow, .ref mQfresh, .ref mQwas, .int (zI macts), .ref mQisKept, .ref mQkept, .ref mQheard, .ref mQnumber, .ref mQlowUp, .ref mQlowDown, .ref mQhighUp, .ref mQhighDown, .int (zI mlev), .ref mQseen, .int (zI memp), .ref mQfirst], eA mQheard (cy 0) 11 mHeard, eA mQnumber (cy 0) 7 mNum, eA mQlowUp (cy 0) 7 mLU, eA mQlowDown (cy 0) 7 mLD, eA mQhighUp (cy 0) 7 mHU, eA mQhighDown (cy 0) 7 mHD] → va_S A s.heap H locs → lv_has ls 7 [(0, .ref mO), (1, .int (zI p1)), (2, .int (zI x2)), (3, .int (zI x3)), (4, .int (zI x4)), (5, .int (zI x5)), (6, .int (zI x6))] → zGi p l e wsX7_doesCut ({ frames := 1, cells := 0, slots := 0, locals := 22 }) s m [.ref mO, .int (zI p1)] below meth c A D [eO mO 6 [.int (zI mth), .ref mQtext, .int (zI mmany), .int (zI mcur), .int (zI mst), .int (zI mtok), .int (zI mval), .ref mQnow, .ref mQfresh, .ref mQwas, .int (zI macts), .ref mQisKept, .ref mQkept, .ref mQheard, .ref mQnumber, .ref mQlowUp, .ref mQlowDown, .ref mQhighUp, .ref mQhighDown, .int (zI mlev), .ref mQseen, .int (zI memp), .ref mQfirst], eA mQheard (cy 0) 11 mHeard, eA mQnumber (cy 0) 7 mNum, eA mQlowUp (cy 0) 7 mLU', eA mQlowDown (cy 0) 7 mLD', eA mQhighUp (cy 0) 7 mHU', eA mQhighDown (cy 0) 7 mHD'] (zI r) H locs (F0 m 149 ls [])
    | _ => True) (by
    rintro ⟨k, x2, x3, x4, x5, x6, mLU, mLD, mHU, mHD⟩ hf
    match k, hf with
    | 0, hf =>
      intro H locs ls hP hD hS hl
      unfold st_X7_doesCut at hf
      try dsimp only at hf
      refine lv_iload_n hx hb dX7_doesCut_58 rfl (lv_at hl 2 rfl) ?_
      refine lv_iload_n hx hb dX7_doesCut_59 rfl (lv_at hl 1 rfl) ?_
      refine zz_icmp_ge (tgt := 192) hx hb dX7_doesCut_60 (by decide) hf (fun hc hf => ?_) (fun hc hf => ?_)
      · refine lv_aload_n hx hb dX7_doesCut_63 rfl (lv_at hl 0 rfl) ?_
        refine va_get (D := D) (ci := 6) (v := .ref mQheard) (C := RX7) (T := TX7) (N := 23) hx hb hts u_X7_doesCut_X7 hown hK.1 hP 0 rfl rfl 13 (by decide) (hts _ m_X7_doesCut_5) (fun _ h9 => h9) rfl dX7_doesCut_64 ?_
        refine lv_iload_n hx hb dX7_doesCut_67 rfl (lv_at hl 2 rfl) ?_
        refine lv_iload_n hx hb dX7_doesCut_68 rfl (lv_at hl 1 rfl) ?_
        obtain ⟨r69, hc69, hf⟩ := zq_bind hf
        refine zcallSi (wr := [eO mO 6 [.int (zI mth), .ref mQtext, .int (zI mmany), .int (zI mcur), .int (zI mst), .int (zI mtok), .int (zI mval), .ref mQnow, .ref mQfresh, .ref mQwas, .int (zI macts), .ref mQisKept, .ref mQkept, .ref mQheard, .ref mQnumber, .ref mQlowUp, .ref mQlowDown, .ref mQhighUp, .ref mQhighDown, .int (zI mlev), .ref mQseen, .int (zI memp), .ref mQfirst], eA mQnumber (cy 0) 7 mNum, eA mQlowUp (cy 0) 7 mLU, eA mQlowDown (cy 0) 7 mLD, eA mQhighUp (cy 0) 7 mHU, eA mQhighDown (cy 0) 7 mHD]) (rest := []) ⟨hx, hb, hml, hown, hts⟩ (c_X7_apart l D cy mQheard H.size x2 p1 mHeard hc69) (va_cwS 3 hts gX7_doesCut_X7_apart rfl rfl rfl (by decide +kernel) ⟨Nat.le_of_ble_eq_true rfl, Nat.le_of_ble_eq_true rfl⟩) hK hP hD hS hA [1] [0, 2, 3, 4, 5, 6] rfl rfl rfl rfl (by decide) rfl hl.1 rfl (Nat.le_of_ble_eq_true rfl) dX7_doesCut_69 ⟨Nat.zero_le _, Nat.zero_le _⟩ (fun H locs hP hD hS => ?_)
        have hP : va_P D vwCl [eO mO 6 [.int (zI mth), .ref mQtext, .int (zI mmany), .int (zI mcur), .int (zI mst), .int (zI mtok), .int (zI mval), .ref mQnow, .ref mQfresh, .ref mQwas, .int (zI macts), .ref mQisKept, .ref mQkept, .ref mQheard, .ref mQnumber, .ref mQlowUp, .ref mQlowDown, .ref mQhighUp, .ref mQhighDown, .int (zI mlev), .ref mQseen, .int (zI memp), .ref mQfirst], eA mQheard (cy 0) 11 mHeard, eA mQnumber (cy 0) 7 mNum, eA mQlowUp (cy 0) 7 mLU, eA mQlowDown (cy 0) 7 mLD, eA mQhighUp (cy 0) 7 mHU, eA mQhighDown (cy 0) 7 mHD] H := hP.sub [0, 6, 1, 2, 3, 4, 5] rfl
        have hD : va_D A [eO mO 6 [.int (zI mth), .ref mQtext, .int (zI mmany), .int (zI mcur), .int (zI mst), .int (zI mtok), .int (zI mval), .ref mQnow, .ref mQfresh, .ref mQwas, .int (zI macts), .ref mQisKept, .ref mQkept, .ref mQheard, .ref mQnumber, .ref mQlowUp, .ref mQlowDown, .ref mQhighUp, .ref mQhighDown, .int (zI mlev), .ref mQseen, .int (zI memp), .ref mQfirst], eA mQheard (cy 0) 11 mHeard, eA mQnumber (cy 0) 7 mNum, eA mQlowUp (cy 0) 7 mLU, eA mQlowDown (cy 0) 7 mLD, eA mQhighUp (cy 0) 7 mHU, eA mQhighDown (cy 0) 7 mHD] := hD.sub [0, 6, 1, 2, 3, 4, 5] rfl rfl
        refine lv_istore_n (lv' := [(3, .int (zI r69)), (0, .ref mO), (1, .int (zI p1)), (2, .int (zI x2))]) hx hb dX7_doesCut_72 rfl hl (by decide) rfl (fun ls hl => ?_)
        refine lv_aload_n hx hb dX7_doesCut_73 rfl (lv_at hl 1 rfl) ?_
        refine va_get (D := D) (ci := 6) (v := .ref mQnumber) (C := RX7) (T := TX7) (N := 23) hx hb hts u_X7_doesCut_X7 hown hK.1 hP 0 rfl rfl 14 (by decide) (hts _ m_X7_doesCut_6) (fun _ h9 => h9) rfl dX7_doesCut_74 ?_
        refine lv_iload_n hx hb dX7_doesCut_77 rfl (lv_at hl 2 rfl) ?_
        obtain ⟨hg, hf⟩ := zq_gd hf
        refine zz_iald (i := p1) hx hb hK hP 2 rfl (Nat.le_of_ble_eq_true rfl) hg dX7_doesCut_78 ?_
        refine lv_aload_n hx hb dX7_doesCut_79 rfl (lv_at hl 1 rfl) ?_
        refine va_get (D := D) (ci := 6) (v := .ref mQnumber) (C := RX7) (T := TX7) (N := 23) hx hb hts u_X7_doesCut_X7 hown hK.1 hP 0 rfl rfl 14 (by decide) (hts _ m_X7_doesCut_6) (fun _ h9 => h9) rfl dX7_doesCut_80 ?_
        refine lv_iload_n hx hb dX7_doesCut_83 rfl (lv_at hl 3 rfl) ?_
        obtain ⟨hg, hf⟩ := zq_gd hf
        refine zz_iald (i := x2) hx hb hK hP 2 rfl (Nat.le_of_ble_eq_true rfl) hg dX7_doesCut_84 ?_
        refine zz_isub hx hb dX7_doesCut_85 ?_
        obtain ⟨v86, e86, hf⟩ := zq_lt hf
        refine zz_top e86 ?_
        refine lv_istore (lv' := [(4, .int (zI v86)), (3, .int (zI r69)), (0, .ref mO), (1, .int (zI p1)), (2, .int (zI x2))]) hx hb dX7_doesCut_86 hl (by decide) rfl (fun ls hl => ?_)
        refine lv_iload_n hx hb dX7_doesCut_88 rfl (lv_at hl 1 rfl) ?_
        refine lv_iconst (v := zI 2) hx hb dX7_doesCut_89 rfl ?_
        refine lv_aload_n hx hb dX7_doesCut_90 rfl (lv_at hl 2 rfl) ?_
        refine va_get (D := D) (ci := 6) (v := .ref mQheard) (C := RX7) (T := TX7) (N := 23) hx hb hts u_X7_doesCut_X7 hown hK.1 hP 0 rfl rfl 13 (by decide) (hts _ m_X7_doesCut_5) (fun _ h9 => h9) rfl dX7_doesCut_91 ?_
        refine lv_iconst (v := zI 3) hx hb dX7_doesCut_94 rfl ?_
        refine zz_iald (i := 3) hx hb hK hP 1 rfl (Nat.le_of_ble_eq_true rfl) (by decide) dX7_doesCut_95 ?_
        refine zz_imul hx hb dX7_doesCut_96 ?_
        refine zz_isub hx hb dX7_doesCut_97 ?_
        obtain ⟨v98, e98, hf⟩ := zq_lt hf
        refine zz_top e98 ?_
        refine lv_istore (lv' := [(5, .int (zI v98)), (4, .int (zI v86)), (3, .int (zI r69)), (0, .ref mO), (1, .int (zI p1)), (2, .int (zI x2))]) hx hb dX7_doesCut_98 hl (by decide) rfl (fun ls hl => ?_)
        refine lv_iload_n hx hb dX7_doesCut_100 rfl (lv_at hl 2 rfl) ?_
        refine lv_iconst (v := zI 2) hx hb dX7_doesCut_101 rfl ?_
        refine lv_aload_n hx hb dX7_doesCut_102 rfl (lv_at hl 3 rfl) ?_
        refine va_get (D := D) (ci := 6) (v := .ref mQheard) (C := RX7) (T := TX7) (N := 23) hx hb hts u_X7_doesCut_X7 hown hK.1 hP 0 rfl rfl 13 (by decide) (hts _ m_X7_doesCut_5) (fun _ h9 => h9) rfl dX7_doesCut_103 ?_
        refine lv_iconst (v := zI 3) hx hb dX7_doesCut_106 rfl ?_
        refine zz_iald (i := 3) hx hb hK hP 1 rfl (Nat.le_of_ble_eq_true rfl) (by decide) dX7_doesCut_107 ?_
        refine zz_imul hx hb dX7_doesCut_108 ?_
        refine zz_iadd hx hb dX7_doesCut_109 ?_
        obtain ⟨v110, e110, hf⟩ := zq_lt hf
        refine zz_top e110 ?_
        refine lv_istore (lv' := [(6, .int (zI v110)), (5, .int (zI v98)), (4, .int (zI v86)), (3, .int (zI r69)), (0, .ref mO), (1, .int (zI p1)), (2, .int (zI x2))]) hx hb dX7_doesCut_110 hl (by decide) rfl (fun ls hl => ?_)
        refine lv_iload hx hb dX7_doesCut_112 (lv_at hl 1 rfl) ?_
        refine lv_aload_n hx hb dX7_doesCut_114 rfl (lv_at hl 4 rfl) ?_
        refine va_get (D := D) (ci := 6) (v := .ref mQlowDown) (C := RX7) (T := TX7) (N := 23) hx hb hts u_X7_doesCut_X7 hown hK.1 hP 0 rfl rfl 16 (by decide) (hts _ m_X7_doesCut_2) (fun _ h9 => h9) rfl dX7_doesCut_115 ?_
        refine lv_iload_n hx hb dX7_doesCut_118 rfl (lv_at hl 5 rfl) ?_
        obtain ⟨hg, hf⟩ := zq_gd hf
        refine zz_iald (i := p1) hx hb hK hP 4 rfl (Nat.le_of_ble_eq_true rfl) hg dX7_doesCut_119 ?_
        refine zz_imul hx hb dX7_doesCut_120 ?_
        refine lv_aload_n hx hb dX7_doesCut_121 rfl (lv_at hl 4 rfl) ?_
        refine va_get (D := D) (ci := 6) (v := .ref mQlowUp) (C := RX7) (T := TX7) (N := 23) hx hb hts u_X7_doesCut_X7 hown hK.1 hP 0 rfl rfl 15 (by decide) (hts _ m_X7_doesCut_1) (fun _ h9 => h9) rfl dX7_doesCut_122 ?_
        refine lv_iload_n hx hb dX7_doesCut_125 rfl (lv_at hl 5 rfl) ?_
        obtain ⟨hg, hf⟩ := zq_gd hf
        refine zz_iald (i := p1) hx hb hK hP 3 rfl (Nat.le_of_ble_eq_true rfl) hg dX7_doesCut_126 ?_
        refine lv_iload hx hb dX7_doesCut_127 (lv_at hl 2 rfl) ?_
        refine zz_imul hx hb dX7_doesCut_129 ?_
        refine zz_icmp_le (tgt := 149) hx hb dX7_doesCut_130 (by decide) hf (fun hc hf => ?_) (fun hc hf => ?_)
        · have hf := zq_some hf
          exact hf _ _ _ hP hD hS (lv_sub hl [4, 5, 6, 3, 2, 1, 0] rfl)
        · refine lv_aload_n hx hb dX7_doesCut_133 rfl (lv_at hl 4 rfl) ?_
          refine va_get (D := D) (ci := 6) (v := .ref mQlowUp) (C := RX7) (T := TX7) (N := 23) hx hb hts u_X7_doesCut_X7 hown hK.1 hP 0 rfl rfl 15 (by decide) (hts _ m_X7_doesCut_1) (fun _ h9 => h9) rfl dX7_doesCut_134 ?_
          refine lv_iload_n hx hb dX7_doesCut_137 rfl (lv_at hl 5 rfl) ?_
          refine lv_iload hx hb dX7_doesCut_138 (lv_at hl 1 rfl) ?_
          obtain ⟨hg, hf⟩ := zq_gd hf
          refine zz_iast (i := p1) hx hb hK hP hD hS 3 rfl (Nat.le_of_ble_eq_true rfl) hg dX7_doesCut_140 (fun H locs hP hD hS => ?_)
          have hP : va_P D vwCl [eO mO 6 [.int (zI mth), .ref mQtext, .int (zI mmany), .int (zI mcur), .int (zI mst), .int (zI mtok), .int (zI mval), .ref mQnow, .ref mQfresh, .ref mQwas, .int (zI macts), .ref mQisKept, .ref mQkept, .ref mQheard, .ref mQnumber, .ref mQlowUp, .ref mQlowDown, .ref mQhighUp, .ref mQhighDown, .int (zI mlev), .ref mQseen, .int (zI memp), .ref mQfirst], eA mQheard (cy 0) 11 mHeard, eA mQnumber (cy 0) 7 mNum, eA mQlowUp (cy 0) 7 (zup mLU p1 v98), eA mQlowDown (cy 0) 7 mLD, eA mQhighUp (cy 0) 7 mHU, eA mQhighDown (cy 0) 7 mHD] H := hP
          have hD : va_D A [eO mO 6 [.int (zI mth), .ref mQtext, .int (zI mmany), .int (zI mcur), .int (zI mst), .int (zI mtok), .int (zI mval), .ref mQnow, .ref mQfresh, .ref mQwas, .int (zI macts), .ref mQisKept, .ref mQkept, .ref mQheard, .ref mQnumber, .ref mQlowUp, .ref mQlowDown, .ref mQhighUp, .ref mQhighDown, .int (zI mlev), .ref mQseen, .int (zI memp), .ref mQfirst], eA mQheard (cy 0) 11 mHeard, eA mQnumber (cy 0) 7 mNum, eA mQlowUp (cy 0) 7 (zup mLU p1 v98), eA mQlowDown (cy 0) 7 mLD, eA mQhighUp (cy 0) 7 mHU, eA mQhighDown (cy 0) 7 mHD] := hD
          refine lv_aload_n hx hb dX7_doesCut_141 rfl (lv_at hl 4 rfl) ?_
          refine va_get (D := D) (ci := 6) (v := .ref mQlowDown) (C := RX7) (T := TX7) (N := 23) hx hb hts u_X7_doesCut_X7 hown hK.1 hP 0 rfl rfl 16 (by decide) (hts _ m_X7_doesCut_2) (fun _ h9 => h9) rfl dX7_doesCut_142 ?_
          refine lv_iload_n hx hb dX7_doesCut_145 rfl (lv_at hl 5 rfl) ?_
          refine lv_iload hx hb dX7_doesCut_146 (lv_at hl 2 rfl) ?_
          obtain ⟨hg, hf⟩ := zq_gd hf
          refine zz_iast (i := p1) hx hb hK hP hD hS 4 rfl (Nat.le_of_ble_eq_true rfl) hg dX7_doesCut_148 (fun H locs hP hD hS => ?_)
          have hP : va_P D vwCl [eO mO 6 [.int (zI mth), .ref mQtext, .int (zI mmany), .int (zI mcur), .int (zI mst), .int (zI mtok), .int (zI mval), .ref mQnow, .ref mQfresh, .ref mQwas, .int (zI macts), .ref mQisKept, .ref mQkept, .ref mQheard, .ref mQnumber, .ref mQlowUp, .ref mQlowDown, .ref mQhighUp, .ref mQhighDown, .int (zI mlev), .ref mQseen, .int (zI memp), .ref mQfirst], eA mQheard (cy 0) 11 mHeard, eA mQnumber (cy 0) 7 mNum, eA mQlowUp (cy 0) 7 (zup mLU p1 v98), eA mQlowDown (cy 0) 7 (zup mLD p1 v86), eA mQhighUp (cy 0) 7 mHU, eA mQhighDown (cy 0) 7 mHD] H := hP
          have hD : va_D A [eO mO 6 [.int (zI mth), .ref mQtext, .int (zI mmany), .int (zI mcur), .int (zI mst), .int (zI mtok), .int (zI mval), .ref mQnow, .ref mQfresh, .ref mQwas, .int (zI macts), .ref mQisKept, .ref mQkept, .ref mQheard, .ref mQnumber, .ref mQlowUp, .ref mQlowDown, .ref mQhighUp, .ref mQhighDown, .int (zI mlev), .ref mQseen, .int (zI memp), .ref mQfirst], eA mQheard (cy 0) 11 mHeard, eA mQnumber (cy 0) 7 mNum, eA mQlowUp (cy 0) 7 (zup mLU p1 v98), eA mQlowDown (cy 0) 7 (zup mLD p1 v86), eA mQhighUp (cy 0) 7 mHU, eA mQhighDown (cy 0) 7 mHD] := hD
          have hf := zq_some hf
          exact hf _ _ _ hP hD hS (lv_sub hl [4, 5, 6, 3, 2, 1, 0] rfl)
      · refine lv_aload_n hx hb dX7_doesCut_192 rfl (lv_at hl 0 rfl) ?_
        refine va_get (D := D) (ci := 6) (v := .ref mQlowUp) (C := RX7) (T := TX7) (N := 23) hx hb hts u_X7_doesCut_X7 hown hK.1 hP 0 rfl rfl 15 (by decide) (hts _ m_X7_doesCut_1) (fun _ h9 => h9) rfl dX7_doesCut_193 ?_
        refine lv_iload_n hx hb dX7_doesCut_196 rfl (lv_at hl 1 rfl) ?_
        obtain ⟨hg, hf⟩ := zq_gd hf
        refine zz_iald (i := p1) hx hb hK hP 3 rfl (Nat.le_of_ble_eq_true rfl) hg dX7_doesCut_197 ?_
        refine lv_aload_n hx hb dX7_doesCut_198 rfl (lv_at hl 0 rfl) ?_
        refine va_get (D := D) (ci := 6) (v := .ref mQhighDown) (C := RX7) (T := TX7) (N := 23) hx hb hts u_X7_doesCut_X7 hown hK.1 hP 0 rfl rfl 18 (by decide) (hts _ m_X7_doesCut_4) (fun _ h9 => h9) rfl dX7_doesCut_199 ?_
        refine lv_iload_n hx hb dX7_doesCut_202 rfl (lv_at hl 1 rfl) ?_
        obtain ⟨hg, hf⟩ := zq_gd hf
        refine zz_iald (i := p1) hx hb hK hP 6 rfl (Nat.le_of_ble_eq_true rfl) hg dX7_doesCut_203 ?_
        refine zz_imul hx hb dX7_doesCut_204 ?_
        refine lv_aload_n hx hb dX7_doesCut_205 rfl (lv_at hl 0 rfl) ?_
        refine va_get (D := D) (ci := 6) (v := .ref mQhighUp) (C := RX7) (T := TX7) (N := 23) hx hb hts u_X7_doesCut_X7 hown hK.1 hP 0 rfl rfl 17 (by decide) (hts _ m_X7_doesCut_3) (fun _ h9 => h9) rfl dX7_doesCut_206 ?_
        refine lv_iload_n hx hb dX7_doesCut_209 rfl (lv_at hl 1 rfl) ?_
        obtain ⟨hg, hf⟩ := zq_gd hf
        refine zz_iald (i := p1) hx hb hK hP 5 rfl (Nat.le_of_ble_eq_true rfl) hg dX7_doesCut_210 ?_
        refine lv_aload_n hx hb dX7_doesCut_211 rfl (lv_at hl 0 rfl) ?_
        refine va_get (D := D) (ci := 6) (v := .ref mQlowDown) (C := RX7) (T := TX7) (N := 23) hx hb hts u_X7_doesCut_X7 hown hK.1 hP 0 rfl rfl 16 (by decide) (hts _ m_X7_doesCut_2) (fun _ h9 => h9) rfl dX7_doesCut_212 ?_
        refine lv_iload_n hx hb dX7_doesCut_215 rfl (lv_at hl 1 rfl) ?_
        obtain ⟨hg, hf⟩ := zq_gd hf
        refine zz_iald (i := p1) hx hb hK hP 4 rfl (Nat.le_of_ble_eq_true rfl) hg dX7_doesCut_216 ?_
        refine zz_imul hx hb dX7_doesCut_217 ?_
        refine zz_icmp_gt (tgt := 225) hx hb dX7_doesCut_218 (by decide) hf (fun hc hf => ?_) (fun hc hf => ?_)
        · refine lv_iconst (v := zI 1) hx hb dX7_doesCut_221 rfl ?_
          refine lv_goto (tgt := 226) hx hb dX7_doesCut_222 (by decide) ?_
          have hf := zq_some hf
          cases hf
          exact W.zret hx hb hr rfl (fun t ht hW => ⟨⟨_, (), rfl, rfl, by rw [ht]; exact hP, hD⟩, hS.F ht⟩) hS.2.2 dX7_doesCut_226
        · refine lv_iconst (v := zI 0) hx hb dX7_doesCut_225 rfl ?_
          have hf := zq_some hf
          cases hf
          exact W.zret hx hb hr rfl (fun t ht hW => ⟨⟨_, (), rfl, rfl, by rw [ht]; exact hP, hD⟩, hS.F ht⟩) hS.2.2 dX7_doesCut_226
    | 1, hf =>
      intro H locs ls hP hD hS hl
      unfold st_X7_doesCut at hf
      try dsimp only at hf
      refine lv_iload hx hb dX7_doesCut_149 (lv_at hl 6 rfl) ?_
      refine lv_aload_n hx hb dX7_doesCut_151 rfl (lv_at hl 0 rfl) ?_
      refine va_get (D := D) (ci := 6) (v := .ref mQhighDown) (C := RX7) (T := TX7) (N := 23) hx hb hts u_X7_doesCut_X7 hown hK.1 hP 0 rfl rfl 18 (by decide) (hts _ m_X7_doesCut_4) (fun _ h9 => h9) rfl dX7_doesCut_152 ?_
      refine lv_iload_n hx hb dX7_doesCut_155 rfl (lv_at hl 1 rfl) ?_
      obtain ⟨hg, hf⟩ := zq_gd hf
      refine zz_iald (i := p1) hx hb hK hP 6 rfl (Nat.le_of_ble_eq_true rfl) hg dX7_doesCut_156 ?_
      refine zz_imul hx hb dX7_doesCut_157 ?_
      refine lv_aload_n hx hb dX7_doesCut_158 rfl (lv_at hl 0 rfl) ?_
      refine va_get (D := D) (ci := 6) (v := .ref mQhighUp) (C := RX7) (T := TX7) (N := 23) hx hb hts u_X7_doesCut_X7 hown hK.1 hP 0 rfl rfl 17 (by decide) (hts _ m_X7_doesCut_3) (fun _ h9 => h9) rfl dX7_doesCut_159 ?_
      refine lv_iload_n hx hb dX7_doesCut_162 rfl (lv_at hl 1 rfl) ?_
      obtain ⟨hg, hf⟩ := zq_gd hf
      refine zz_iald (i := p1) hx hb hK hP 5 rfl (Nat.le_of_ble_eq_true rfl) hg dX7_doesCut_163 ?_
      refine lv_iload hx hb dX7_doesCut_164 (lv_at hl 4 rfl) ?_
      refine zz_imul hx hb dX7_doesCut_166 ?_
      refine zz_icmp_ge (tgt := 186) hx hb dX7_doesCut_167 (by decide) hf (fun hc hf => ?_) (fun hc hf => ?_)
      · refine lv_aload_n hx hb dX7_doesCut_170 rfl (lv_at hl 0 rfl) ?_
        refine va_get (D := D) (ci := 6) (v := .ref mQhighUp) (C := RX7) (T := TX7) (N := 23) hx hb hts u_X7_doesCut_X7 hown hK.1 hP 0 rfl rfl 17 (by decide) (hts _ m_X7_doesCut_3) (fun _ h9 => h9) rfl dX7_doesCut_171 ?_
        refine lv_iload_n hx hb dX7_doesCut_174 rfl (lv_at hl 1 rfl) ?_
        refine lv_iload hx hb dX7_doesCut_175 (lv_at hl 6 rfl) ?_
        obtain ⟨hg, hf⟩ := zq_gd hf
        refine zz_iast (i := p1) hx hb hK hP hD hS 5 rfl (Nat.le_of_ble_eq_true rfl) hg dX7_doesCut_177 (fun H locs hP hD hS => ?_)
        have hP : va_P D vwCl [eO mO 6 [.int (zI mth), .ref mQtext, .int (zI mmany), .int (zI mcur), .int (zI mst), .int (zI mtok), .int (zI mval), .ref mQnow, .ref mQfresh, .ref mQwas, .int (zI macts), .ref mQisKept, .ref mQkept, .ref mQheard, .ref mQnumber, .ref mQlowUp, .ref mQlowDown, .ref mQhighUp, .ref mQhighDown, .int (zI mlev), .ref mQseen, .int (zI memp), .ref mQfirst], eA mQheard (cy 0) 11 mHeard, eA mQnumber (cy 0) 7 mNum, eA mQlowUp (cy 0) 7 mLU, eA mQlowDown (cy 0) 7 mLD, eA mQhighUp (cy 0) 7 (zup mHU p1 x6), eA mQhighDown (cy 0) 7 mHD] H := hP
        have hD : va_D A [eO mO 6 [.int (zI mth), .ref mQtext, .int (zI mmany), .int (zI mcur), .int (zI mst), .int (zI mtok), .int (zI mval), .ref mQnow, .ref mQfresh, .ref mQwas, .int (zI macts), .ref mQisKept, .ref mQkept, .ref mQheard, .ref mQnumber, .ref mQlowUp, .ref mQlowDown, .ref mQhighUp, .ref mQhighDown, .int (zI mlev), .ref mQseen, .int (zI memp), .ref mQfirst], eA mQheard (cy 0) 11 mHeard, eA mQnumber (cy 0) 7 mNum, eA mQlowUp (cy 0) 7 mLU, eA mQlowDown (cy 0) 7 mLD, eA mQhighUp (cy 0) 7 (zup mHU p1 x6), eA mQhighDown (cy 0) 7 mHD] := hD
        refine lv_aload_n hx hb dX7_doesCut_178 rfl (lv_at hl 0 rfl) ?_
        refine va_get (D := D) (ci := 6) (v := .ref mQhighDown) (C := RX7) (T := TX7) (N := 23) hx hb hts u_X7_doesCut_X7 hown hK.1 hP 0 rfl rfl 18 (by decide) (hts _ m_X7_doesCut_4) (fun _ h9 => h9) rfl dX7_doesCut_179 ?_
        refine lv_iload_n hx hb dX7_doesCut_182 rfl (lv_at hl 1 rfl) ?_
        refine lv_iload hx hb dX7_doesCut_183 (lv_at hl 4 rfl) ?_
        obtain ⟨hg, hf⟩ := zq_gd hf
        refine zz_iast (i := p1) hx hb hK hP hD hS 6 rfl (Nat.le_of_ble_eq_true rfl) hg dX7_doesCut_185 (fun H locs hP hD hS => ?_)
        have hP : va_P D vwCl [eO mO 6 [.int (zI mth), .ref mQtext, .int (zI mmany), .int (zI mcur), .int (zI mst), .int (zI mtok), .int (zI mval), .ref mQnow, .ref mQfresh, .ref mQwas, .int (zI macts), .ref mQisKept, .ref mQkept, .ref mQheard, .ref mQnumber, .ref mQlowUp, .ref mQlowDown, .ref mQhighUp, .ref mQhighDown, .int (zI mlev), .ref mQseen, .int (zI memp), .ref mQfirst], eA mQheard (cy 0) 11 mHeard, eA mQnumber (cy 0) 7 mNum, eA mQlowUp (cy 0) 7 mLU, eA mQlowDown (cy 0) 7 mLD, eA mQhighUp (cy 0) 7 (zup mHU p1 x6), eA mQhighDown (cy 0) 7 (zup mHD p1 x4)] H := hP
        have hD : va_D A [eO mO 6 [.int (zI mth), .ref mQtext, .int (zI mmany), .int (zI mcur), .int (zI mst), .int (zI mtok), .int (zI mval), .ref mQnow, .ref mQfresh, .ref mQwas, .int (zI macts), .ref mQisKept, .ref mQkept, .ref mQheard, .ref mQnumber, .ref mQlowUp, .ref mQlowDown, .ref mQhighUp, .ref mQhighDown, .int (zI mlev), .ref mQseen, .int (zI memp), .ref mQfirst], eA mQheard (cy 0) 11 mHeard, eA mQnumber (cy 0) 7 mNum, eA mQlowUp (cy 0) 7 mLU, eA mQlowDown (cy 0) 7 mLD, eA mQhighUp (cy 0) 7 (zup mHU p1 x6), eA mQhighDown (cy 0) 7 (zup mHD p1 x4)] := hD
        refine lv_iinc (v := zI (x2 + 1)) (lv' := [(2, .int (zI (x2 + 1))), (0, .ref mO), (1, .int (zI p1)), (3, .int (zI x3)), (4, .int (zI x4)), (5, .int (zI x5)), (6, .int (zI x6))]) hx hb dX7_doesCut_186 hl (k := 2) rfl (zI_add _ _) (by decide) rfl (fun ls hl => ?_)
        refine lv_goto (tgt := 58) hx hb dX7_doesCut_189 (by decide) ?_
        have hf := zq_some hf
        exact hf _ _ _ hP hD hS (lv_sub hl [1, 2, 0] rfl)
      · refine lv_iinc (v := zI (x2 + 1)) (lv' := [(2, .int (zI (x2 + 1))), (0, .ref mO), (1, .int (zI p1)), (3, .int (zI x3)), (4, .int (zI x4)), (5, .int (zI x5)), (6, .int (zI x6))]) hx hb dX7_doesCut_186 hl (k := 2) rfl (zI_add _ _) (by decide) rfl (fun ls hl => ?_)
        refine lv_goto (tgt := 58) hx hb dX7_doesCut_189 (by decide) ?_
        have hf := zq_some hf
        exact hf _ _ _ hP hD hS (lv_sub hl [1, 2, 0] rfl)
    | n + 2, hf => exact hf.elim)
  unfold f_X7_doesCut at hf
  refine lv_aload_n hx hb dX7_doesCut_0 rfl (lv_at hl 0 rfl) ?_
  refine va_get (D := D) (ci := 6) (v := .ref mQlowUp) (C := RX7) (T := TX7) (N := 23) hx hb hts u_X7_doesCut_X7 hown hK.1 hP 0 rfl rfl 15 (by decide) (hts _ m_X7_doesCut_1) (fun _ h9 => h9) rfl dX7_doesCut_1 ?_
  refine lv_iload_n hx hb dX7_doesCut_4 rfl (lv_at hl 1 rfl) ?_
  refine lv_aload_n hx hb dX7_doesCut_5 rfl (lv_at hl 0 rfl) ?_
  refine va_get (D := D) (ci := 6) (v := .ref mQlowUp) (C := RX7) (T := TX7) (N := 23) hx hb hts u_X7_doesCut_X7 hown hK.1 hP 0 rfl rfl 15 (by decide) (hts _ m_X7_doesCut_1) (fun _ h9 => h9) rfl dX7_doesCut_6 ?_
  refine lv_iload_n hx hb dX7_doesCut_9 rfl (lv_at hl 1 rfl) ?_
  refine lv_iconst (v := zI 1) hx hb dX7_doesCut_10 rfl ?_
  refine zz_isub hx hb dX7_doesCut_11 ?_
  obtain ⟨hg, hf⟩ := zq_gd hf
  refine zz_iald (i := (p1 - 1)) hx hb hK hP 3 rfl (Nat.le_of_ble_eq_true rfl) hg dX7_doesCut_12 ?_
  obtain ⟨hg, hf⟩ := zq_gd hf
  refine zz_iast (i := p1) hx hb hK hP hD hS 3 rfl (Nat.le_of_ble_eq_true rfl) hg dX7_doesCut_13 (fun H locs hP hD hS => ?_)
  have hP : va_P D vwCl [eO mO 6 [.int (zI mth), .ref mQtext, .int (zI mmany), .int (zI mcur), .int (zI mst), .int (zI mtok), .int (zI mval), .ref mQnow, .ref mQfresh, .ref mQwas, .int (zI macts), .ref mQisKept, .ref mQkept, .ref mQheard, .ref mQnumber, .ref mQlowUp, .ref mQlowDown, .ref mQhighUp, .ref mQhighDown, .int (zI mlev), .ref mQseen, .int (zI memp), .ref mQfirst], eA mQheard (cy 0) 11 mHeard, eA mQnumber (cy 0) 7 mNum, eA mQlowUp (cy 0) 7 (zup mLU p1 (mLU (Int.toNat (p1 - 1)))), eA mQlowDown (cy 0) 7 mLD, eA mQhighUp (cy 0) 7 mHU, eA mQhighDown (cy 0) 7 mHD] H := hP
  have hD : va_D A [eO mO 6 [.int (zI mth), .ref mQtext, .int (zI mmany), .int (zI mcur), .int (zI mst), .int (zI mtok), .int (zI mval), .ref mQnow, .ref mQfresh, .ref mQwas, .int (zI macts), .ref mQisKept, .ref mQkept, .ref mQheard, .ref mQnumber, .ref mQlowUp, .ref mQlowDown, .ref mQhighUp, .ref mQhighDown, .int (zI mlev), .ref mQseen, .int (zI memp), .ref mQfirst], eA mQheard (cy 0) 11 mHeard, eA mQnumber (cy 0) 7 mNum, eA mQlowUp (cy 0) 7 (zup mLU p1 (mLU (Int.toNat (p1 - 1)))), eA mQlowDown (cy 0) 7 mLD, eA mQhighUp (cy 0) 7 mHU, eA mQhighDown (cy 0) 7 mHD] := hD
  refine lv_aload_n hx hb dX7_doesCut_14 rfl (lv_at hl 0 rfl) ?_
  refine va_get (D := D) (ci := 6) (v := .ref mQlowDown) (C := RX7) (T := TX7) (N := 23) hx hb hts u_X7_doesCut_X7 hown hK.1 hP 0 rfl rfl 16 (by decide) (hts _ m_X7_doesCut_2) (fun _ h9 => h9) rfl dX7_doesCut_15 ?_
  refine lv_iload_n hx hb dX7_doesCut_18 rfl (lv_at hl 1 rfl) ?_
  refine lv_aload_n hx hb dX7_doesCut_19 rfl (lv_at hl 0 rfl) ?_
  refine va_get (D := D) (ci := 6) (v := .ref mQlowDown) (C := RX7) (T := TX7) (N := 23) hx hb hts u_X7_doesCut_X7 hown hK.1 hP 0 rfl rfl 16 (by decide) (hts _ m_X7_doesCut_2) (fun _ h9 => h9) rfl dX7_doesCut_20 ?_
  refine lv_iload_n hx hb dX7_doesCut_23 rfl (lv_at hl 1 rfl) ?_
  refine lv_iconst (v := zI 1) hx hb dX7_doesCut_24 rfl ?_
  refine zz_isub hx hb dX7_doesCut_25 ?_
  obtain ⟨hg, hf⟩ := zq_gd hf
  refine zz_iald (i := (p1 - 1)) hx hb hK hP 4 rfl (Nat.le_of_ble_eq_true rfl) hg dX7_doesCut_26 ?_
  obtain ⟨hg, hf⟩ := zq_gd hf
  refine zz_iast (i := p1) hx hb hK hP hD hS 4 rfl (Nat.le_of_ble_eq_true rfl) hg dX7_doesCut_27 (fun H locs hP hD hS => ?_)
  have hP : va_P D vwCl [eO mO 6 [.int (zI mth), .ref mQtext, .int (zI mmany), .int (zI mcur), .int (zI mst), .int (zI mtok), .int (zI mval), .ref mQnow, .ref mQfresh, .ref mQwas, .int (zI macts), .ref mQisKept, .ref mQkept, .ref mQheard, .ref mQnumber, .ref mQlowUp, .ref mQlowDown, .ref mQhighUp, .ref mQhighDown, .int (zI mlev), .ref mQseen, .int (zI memp), .ref mQfirst], eA mQheard (cy 0) 11 mHeard, eA mQnumber (cy 0) 7 mNum, eA mQlowUp (cy 0) 7 (zup mLU p1 (mLU (Int.toNat (p1 - 1)))), eA mQlowDown (cy 0) 7 (zup mLD p1 (mLD (Int.toNat (p1 - 1)))), eA mQhighUp (cy 0) 7 mHU, eA mQhighDown (cy 0) 7 mHD] H := hP
  have hD : va_D A [eO mO 6 [.int (zI mth), .ref mQtext, .int (zI mmany), .int (zI mcur), .int (zI mst), .int (zI mtok), .int (zI mval), .ref mQnow, .ref mQfresh, .ref mQwas, .int (zI macts), .ref mQisKept, .ref mQkept, .ref mQheard, .ref mQnumber, .ref mQlowUp, .ref mQlowDown, .ref mQhighUp, .ref mQhighDown, .int (zI mlev), .ref mQseen, .int (zI memp), .ref mQfirst], eA mQheard (cy 0) 11 mHeard, eA mQnumber (cy 0) 7 mNum, eA mQlowUp (cy 0) 7 (zup mLU p1 (mLU (Int.toNat (p1 - 1)))), eA mQlowDown (cy 0) 7 (zup mLD p1 (mLD (Int.toNat (p1 - 1)))), eA mQhighUp (cy 0) 7 mHU, eA mQhighDown (cy 0) 7 mHD] := hD
  refine lv_aload_n hx hb dX7_doesCut_28 rfl (lv_at hl 0 rfl) ?_
  refine va_get (D := D) (ci := 6) (v := .ref mQhighUp) (C := RX7) (T := TX7) (N := 23) hx hb hts u_X7_doesCut_X7 hown hK.1 hP 0 rfl rfl 17 (by decide) (hts _ m_X7_doesCut_3) (fun _ h9 => h9) rfl dX7_doesCut_29 ?_
  refine lv_iload_n hx hb dX7_doesCut_32 rfl (lv_at hl 1 rfl) ?_
  refine lv_aload_n hx hb dX7_doesCut_33 rfl (lv_at hl 0 rfl) ?_
  refine va_get (D := D) (ci := 6) (v := .ref mQhighUp) (C := RX7) (T := TX7) (N := 23) hx hb hts u_X7_doesCut_X7 hown hK.1 hP 0 rfl rfl 17 (by decide) (hts _ m_X7_doesCut_3) (fun _ h9 => h9) rfl dX7_doesCut_34 ?_
  refine lv_iload_n hx hb dX7_doesCut_37 rfl (lv_at hl 1 rfl) ?_
  refine lv_iconst (v := zI 1) hx hb dX7_doesCut_38 rfl ?_
  refine zz_isub hx hb dX7_doesCut_39 ?_
  obtain ⟨hg, hf⟩ := zq_gd hf
  refine zz_iald (i := (p1 - 1)) hx hb hK hP 5 rfl (Nat.le_of_ble_eq_true rfl) hg dX7_doesCut_40 ?_
  obtain ⟨hg, hf⟩ := zq_gd hf
  refine zz_iast (i := p1) hx hb hK hP hD hS 5 rfl (Nat.le_of_ble_eq_true rfl) hg dX7_doesCut_41 (fun H locs hP hD hS => ?_)
  have hP : va_P D vwCl [eO mO 6 [.int (zI mth), .ref mQtext, .int (zI mmany), .int (zI mcur), .int (zI mst), .int (zI mtok), .int (zI mval), .ref mQnow, .ref mQfresh, .ref mQwas, .int (zI macts), .ref mQisKept, .ref mQkept, .ref mQheard, .ref mQnumber, .ref mQlowUp, .ref mQlowDown, .ref mQhighUp, .ref mQhighDown, .int (zI mlev), .ref mQseen, .int (zI memp), .ref mQfirst], eA mQheard (cy 0) 11 mHeard, eA mQnumber (cy 0) 7 mNum, eA mQlowUp (cy 0) 7 (zup mLU p1 (mLU (Int.toNat (p1 - 1)))), eA mQlowDown (cy 0) 7 (zup mLD p1 (mLD (Int.toNat (p1 - 1)))), eA mQhighUp (cy 0) 7 (zup mHU p1 (mHU (Int.toNat (p1 - 1)))), eA mQhighDown (cy 0) 7 mHD] H := hP
  have hD : va_D A [eO mO 6 [.int (zI mth), .ref mQtext, .int (zI mmany), .int (zI mcur), .int (zI mst), .int (zI mtok), .int (zI mval), .ref mQnow, .ref mQfresh, .ref mQwas, .int (zI macts), .ref mQisKept, .ref mQkept, .ref mQheard, .ref mQnumber, .ref mQlowUp, .ref mQlowDown, .ref mQhighUp, .ref mQhighDown, .int (zI mlev), .ref mQseen, .int (zI memp), .ref mQfirst], eA mQheard (cy 0) 11 mHeard, eA mQnumber (cy 0) 7 mNum, eA mQlowUp (cy 0) 7 (zup mLU p1 (mLU (Int.toNat (p1 - 1)))), eA mQlowDown (cy 0) 7 (zup mLD p1 (mLD (Int.toNat (p1 - 1)))), eA mQhighUp (cy 0) 7 (zup mHU p1 (mHU (Int.toNat (p1 - 1)))), eA mQhighDown (cy 0) 7 mHD] := hD
  refine lv_aload_n hx hb dX7_doesCut_42 rfl (lv_at hl 0 rfl) ?_
  refine va_get (D := D) (ci := 6) (v := .ref mQhighDown) (C := RX7) (T := TX7) (N := 23) hx hb hts u_X7_doesCut_X7 hown hK.1 hP 0 rfl rfl 18 (by decide) (hts _ m_X7_doesCut_4) (fun _ h9 => h9) rfl dX7_doesCut_43 ?_
  refine lv_iload_n hx hb dX7_doesCut_46 rfl (lv_at hl 1 rfl) ?_
  refine lv_aload_n hx hb dX7_doesCut_47 rfl (lv_at hl 0 rfl) ?_
  refine va_get (D := D) (ci := 6) (v := .ref mQhighDown) (C := RX7) (T := TX7) (N := 23) hx hb hts u_X7_doesCut_X7 hown hK.1 hP 0 rfl rfl 18 (by decide) (hts _ m_X7_doesCut_4) (fun _ h9 => h9) rfl dX7_doesCut_48 ?_
  refine lv_iload_n hx hb dX7_doesCut_51 rfl (lv_at hl 1 rfl) ?_
  refine lv_iconst (v := zI 1) hx hb dX7_doesCut_52 rfl ?_
  refine zz_isub hx hb dX7_doesCut_53 ?_
  obtain ⟨hg, hf⟩ := zq_gd hf
  refine zz_iald (i := (p1 - 1)) hx hb hK hP 6 rfl (Nat.le_of_ble_eq_true rfl) hg dX7_doesCut_54 ?_
  obtain ⟨hg, hf⟩ := zq_gd hf
  refine zz_iast (i := p1) hx hb hK hP hD hS 6 rfl (Nat.le_of_ble_eq_true rfl) hg dX7_doesCut_55 (fun H locs hP hD hS => ?_)
  have hP : va_P D vwCl [eO mO 6 [.int (zI mth), .ref mQtext, .int (zI mmany), .int (zI mcur), .int (zI mst), .int (zI mtok), .int (zI mval), .ref mQnow, .ref mQfresh, .ref mQwas, .int (zI macts), .ref mQisKept, .ref mQkept, .ref mQheard, .ref mQnumber, .ref mQlowUp, .ref mQlowDown, .ref mQhighUp, .ref mQhighDown, .int (zI mlev), .ref mQseen, .int (zI memp), .ref mQfirst], eA mQheard (cy 0) 11 mHeard, eA mQnumber (cy 0) 7 mNum, eA mQlowUp (cy 0) 7 (zup mLU p1 (mLU (Int.toNat (p1 - 1)))), eA mQlowDown (cy 0) 7 (zup mLD p1 (mLD (Int.toNat (p1 - 1)))), eA mQhighUp (cy 0) 7 (zup mHU p1 (mHU (Int.toNat (p1 - 1)))), eA mQhighDown (cy 0) 7 (zup mHD p1 (mHD (Int.toNat (p1 - 1))))] H := hP
  have hD : va_D A [eO mO 6 [.int (zI mth), .ref mQtext, .int (zI mmany), .int (zI mcur), .int (zI mst), .int (zI mtok), .int (zI mval), .ref mQnow, .ref mQfresh, .ref mQwas, .int (zI macts), .ref mQisKept, .ref mQkept, .ref mQheard, .ref mQnumber, .ref mQlowUp, .ref mQlowDown, .ref mQhighUp, .ref mQhighDown, .int (zI mlev), .ref mQseen, .int (zI memp), .ref mQfirst], eA mQheard (cy 0) 11 mHeard, eA mQnumber (cy 0) 7 mNum, eA mQlowUp (cy 0) 7 (zup mLU p1 (mLU (Int.toNat (p1 - 1)))), eA mQlowDown (cy 0) 7 (zup mLD p1 (mLD (Int.toNat (p1 - 1)))), eA mQhighUp (cy 0) 7 (zup mHU p1 (mHU (Int.toNat (p1 - 1)))), eA mQhighDown (cy 0) 7 (zup mHD p1 (mHD (Int.toNat (p1 - 1))))] := hD
  refine lv_iconst (v := zI 0) hx hb dX7_doesCut_56 rfl ?_
  refine lv_istore_n (lv' := [(2, .int (zI 0)), (0, .ref mO), (1, .int (zI p1))]) hx hb dX7_doesCut_57 rfl hl (by decide) rfl (fun ls hl => ?_)
  exact key _ (zq_eq hf) _ _ _ hP hD hS (lv_sub hl [1, 2, 0] rfl)

noncomputable def st_X7_goesOn : (Int × Int × (Nat → Int) × (Nat → Int) × (Nat → Int) × (Nat → Int) × (Nat → Int) × (Nat → Int)) → Option ((Int × Int × (Nat → Int) × (Nat → Int) × (Nat → Int) × (Nat → Int) × (Nat → Int) × (Nat → Int)) ⊕ (Int × Int × (Nat → Int) × (Nat → Int) × (Nat → Int) × (Nat → Int) × (Nat → Int) × (Nat → Int))) := fun (x1, mlev, mHeard, mNum, mLU, mLD, mHU, mHD) =>
  gd (zR mlev) <|
  if mlev ≤ 0 then
    some (.inr (0, 0, (zup mHeard 0 0), mNum, mLU, mLD, mHU, mHD))
  else
    gd (zin mlev 7) <|
    gd (zin mlev 7) <|
    (f_X7_isBeyond mlev mHeard (zup mNum mlev ((mNum (Int.toNat mlev)) + 1)) mLU mLD).bind fun r82 =>
    gd (zR r82) <|
    if r82 = 0 then
      (f_X7_doesCut mlev mHeard (zup mNum mlev ((mNum (Int.toNat mlev)) + 1)) mLU mLD mHU mHD).bind fun (r106, mLU_106, mLD_106, mHU_106, mHD_106) =>
      gd (zR r106) <|
      if r106 = 0 then
        some (.inl (x1, mlev, mHeard, (zup mNum mlev ((mNum (Int.toNat mlev)) + 1)), mLU_106, mLD_106, mHU_106, mHD_106))
      else
        gd (zR mlev ∧ zR x1) <|
        if mlev = x1 then
          some (.inr (1, mlev, mHeard, (zup mNum mlev ((mNum (Int.toNat mlev)) + 1)), mLU_106, mLD_106, mHU_106, mHD_106))
        else
          gd (zin ((mlev + 1) - 1) 7) <|
          gd (zin (mlev + 1) 7) <|
          some (.inl (x1, (mlev + 1), mHeard, (zup (zup mNum mlev ((mNum (Int.toNat mlev)) + 1)) (mlev + 1) ((zup mNum mlev ((mNum (Int.toNat mlev)) + 1)) (Int.toNat ((mlev + 1) - 1)))), mLU_106, mLD_106, mHU_106, mHD_106))
    else
      some (.inl (x1, (mlev - 1), mHeard, (zup mNum mlev ((mNum (Int.toNat mlev)) + 1)), mLU, mLD, mHU, mHD))
noncomputable def f_X7_goesOn (mlev : Int) (mHeard : Nat → Int) (mNum : Nat → Int) (mLU : Nat → Int) (mLD : Nat → Int) (mHU : Nat → Int) (mHD : Nat → Int) : Option (Int × Int × (Nat → Int) × (Nat → Int) × (Nat → Int) × (Nat → Int) × (Nat → Int) × (Nat → Int)) :=
  zlt ((mHeard 0) - 1) fun v8 =>
  gd (zR v8 ∧ zR 1) <|
  if v8 < 1 then
    gd (zR v8) <|
    if v8 = 0 then
      gd (zR mlev) <|
      if mlev = 0 then
        some (1, 1, mHeard, mNum, mLU, mLD, mHU, mHD)
      else
        some (0, 1, mHeard, mNum, mLU, mLD, mHU, mHD)
    else
      some (0, 1, mHeard, mNum, mLU, mLD, mHU, mHD)
  else
    gd (zR mlev) <|
    if mlev = 0 then
      zev (st_X7_goesOn) (v8, 1, mHeard, (zup mNum 1 0), mLU, mLD, mHU, mHD)
    else
      zev (st_X7_goesOn) (v8, mlev, mHeard, mNum, mLU, mLD, mHU, mHD)
theorem m_X7_goesOn_1 : (.fieldLink RX7 62 "PulseTurnsModel" "heard" "[I" : Cond) ∈ wsX7_goesOn := List.mem_of_getElem? (i := 1) rfl
theorem m_X7_goesOn_2 : (.fieldLink RX7 141 "PulseTurnsModel" "level" "I" : Cond) ∈ wsX7_goesOn := List.mem_of_getElem? (i := 2) rfl
theorem m_X7_goesOn_3 : (.fieldLink RX7 65 "PulseTurnsModel" "number" "[I" : Cond) ∈ wsX7_goesOn := List.mem_of_getElem? (i := 3) rfl
theorem u_X7_goesOn_X7 : ∀ w ∈ wsX70, w ∈ wsX7_goesOn := fun w h => List.mem_cons_of_mem _ (List.mem_append_right _ h)
set_option maxRecDepth 100000 in
set_option maxHeartbeats 4000000 in
theorem c_X7_goesOn (l : Launch) (D : va_G) (cy : Nat → ClassId) (mO mQtext mQnow mQfresh mQwas mQisKept mQkept mQheard mQnumber mQlowUp mQlowDown mQhighUp mQhighDown mQseen mQfirst : Nat) (sz : Nat) (mth : Int) (mmany : Int) (mcur : Int) (mst : Int) (mtok : Int) (mval : Int) (macts : Int) (mlev : Int) (memp : Int) (mHeard : Nat → Int) (mNum : Nat → Int) (mLU : Nat → Int) (mLD : Nat → Int) (mHU : Nat → Int) (mHD : Nat → Int) {r : Int} {mlev' : Int} {mHeard' : Nat → Int} {mNum' : Nat → Int} {mLU' : Nat → Int} {mLD' : Nat → Int} {mHU' : Nat → Int} {mHD' : Nat → Int} (hf : f_X7_goesOn mlev mHeard mNum mLU mLD mHU mHD = some (r, mlev', mHeard', mNum', mLU', mLD', mHU', mHD')) : zMi l yX7_goesOn wsX7_goesOn ({ frames := 2, cells := 0, slots := 0, locals := 48 }) D cy sz [.ref mO] [eO mO 6 [.int (zI mth), .ref mQtext, .int (zI mmany), .int (zI mcur), .int (zI mst), .int (zI mtok), .int (zI mval), .ref mQnow, .ref mQfresh, .ref mQwas, .int (zI macts), .ref mQisKept, .ref mQkept, .ref mQheard, .ref mQnumber, .ref mQlowUp, .ref mQlowDown, .ref mQhighUp, .ref mQhighDown, .int (zI mlev), .ref mQseen, .int (zI memp), .ref mQfirst], eA mQheard (cy 0) 11 mHeard, eA mQnumber (cy 0) 7 mNum, eA mQlowUp (cy 0) 7 mLU, eA mQlowDown (cy 0) 7 mLD, eA mQhighUp (cy 0) 7 mHU, eA mQhighDown (cy 0) 7 mHD] [eO mO 6 [.int (zI mth), .ref mQtext, .int (zI mmany), .int (zI mcur), .int (zI mst), .int (zI mtok), .int (zI mval), .ref mQnow, .ref mQfresh, .ref mQwas, .int (zI macts), .ref mQisKept, .ref mQkept, .ref mQheard, .ref mQnumber, .ref mQlowUp, .ref mQlowDown, .ref mQhighUp, .ref mQhighDown, .int (zI mlev'), .ref mQseen, .int (zI memp), .ref mQfirst], eA mQheard (cy 0) 11 mHeard', eA mQnumber (cy 0) 7 mNum', eA mQlowUp (cy 0) 7 mLU', eA mQlowDown (cy 0) 7 mLD', eA mQhighUp (cy 0) 7 mHU', eA mQhighDown (cy 0) 7 mHD'] (zI r) := by
  refine Met.ofW (cc := cX7_goesOn) (maxL := 3) (ret := (some .boolean)) (by decide) rfl ?_
  intro p e s m args below meth c s₁ B hml hv
  obtain ⟨rfl, hsz, hP, hK, hD0⟩ := hv
  have hx := B.exec
  have hb := B.bytes
  have hr := B.returns
  have hts := atoms_spec (ws := wsX7_goesOn) B.pre
  have hown : s.vm.findClass RX7 = some m.cls := findClass_of_methodNamed B.named
  have hlocks := B.notSynchronized
  subst hsz
  have hD := hD0.self (sz := s.heap.size)
  generalize hAe : va_A [eO mO 6 [.int (zI mth), .ref mQtext, .int (zI mmany), .int (zI mcur), .int (zI mst), .int (zI mtok), .int (zI mval), .ref mQnow, .ref mQfresh, .ref mQwas, .int (zI macts), .ref mQisKept, .ref mQkept, .ref mQheard, .ref mQnumber, .ref mQlowUp, .ref mQlowDown, .ref mQhighUp, .ref mQhighDown, .int (zI mlev), .ref mQseen, .int (zI memp), .ref mQfirst], eA mQheard (cy 0) 11 mHeard, eA mQnumber (cy 0) 7 mNum, eA mQlowUp (cy 0) 7 mLU, eA mQlowDown (cy 0) 7 mLD, eA mQhighUp (cy 0) 7 mHU, eA mQhighDown (cy 0) 7 mHD] s.heap.size = A at hD ⊢
  have hA : ∀ q : Nat, s.heap.size ≤ q → A q := fun q h => by rw [← hAe]; exact Or.inr h
  have hS : va_S A s.heap s.heap [] := va_S.rf
  have hl := lv_entry ([.ref mO]) (n := 3) (Nat.le_of_ble_eq_true rfl)
  rw [lg_entry_eq]
  generalize (lg_sl ([.ref mO]) ++ List.replicate (3 - (lg_sl ([.ref mO])).length) Slot.unset).toArray = ls at hl ⊢
  have hl : lv_has ls 3 [(0, .ref mO)] := hl
  have hf := zq_of hf
  have key := zloop (st := st_X7_goesOn) (res := (r, mlev', mHeard', mNum', mLU', mLD', mHU', mHD')) (K := fun (x1, mlev, mHeard, mNum, mLU, mLD, mHU, mHD) => ∀ (H : Heap) (locs : List Loc) (ls : Array Slot), va_P D vwCl [eO mO 6 [.int (zI mth), .ref mQtext, .int (zI mmany), .int (zI mcur), .int (zI mst), .int (zI mtok), .int (zI mval), .ref mQnow, .ref mQfresh, .ref mQwas, .int (zI macts), .ref mQisKept, .ref mQkept, .ref mQheard, .ref mQnumber, .ref mQlowUp, .ref mQlowDown, .ref mQhighUp, .ref mQhighDown, .int (zI mlev), .ref mQseen, .int (zI memp), .ref mQfirst], eA mQheard (cy 0) 11 mHeard, eA mQnumber (cy 0) 7 mNum, eA mQlowUp (cy 0) 7 mLU, eA mQlowDown (cy 0) 7 mLD, eA mQhighUp (cy 0) 7 mHU, eA mQhighDown (cy 0) 7 mHD] H → va_D A [eO mO 6 [.int (zI mth), .ref mQtext, .int (zI mmany), .int (zI mcur), .int (zI mst), .int (zI mtok), .int (zI mval), .ref mQnow, .ref mQfresh, .ref mQwas, .int (zI macts), .ref mQisKept, .ref mQkept, .ref mQheard, .ref mQnumber, .ref mQlowUp, .ref mQlowDown, .ref mQhighUp, .ref mQhighDown, .int (zI mlev), .ref mQseen, .int (zI memp), .ref mQfirst], eA mQheard (cy 0) 11 mHeard, eA mQnumber (cy 0) 7 mNum, eA mQlowUp (cy 0) 7 mLU, eA mQlowDown (cy 0) 7 mLD, eA mQhighUp (cy 0) 7 mHU, eA mQhighDown (cy 0) 7 mHD] → va_S A s.heap H locs → lv_has ls 3 [(0, .ref mO), (1, .int (zI x1))] → zGi p l e wsX7_goesOn ({ frames := 2, cells := 0, slots := 0, locals := 48 }) s m [.ref mO] below meth c A D [eO mO 6 [.int (zI mth), .ref mQtext, .int (zI mmany), .int (zI mcur), .int (zI mst), .int (zI mtok), .int (zI mval), .ref mQnow, .ref mQfresh, .ref mQwas, .int (zI macts), .ref mQisKept, .ref mQkept, .ref mQheard, .ref mQnumber, .ref mQlowUp, .ref mQlowDown, .ref mQhighUp, .ref mQhighDown, .int (zI mlev'), .ref mQseen, .int (zI memp), .ref mQfirst], eA mQheard (cy 0) 11 mHeard', eA mQnumber (cy 0) 7 mNum', eA mQlowUp (cy 0) 7 mLU', eA mQlowDown (cy 0) 7 mLD', eA mQhighUp (cy 0) 7 mHU', eA mQhighDown (cy 0) 7 mHD'] (zI r) H locs (F0 m 57 ls [])) (by
    rintro ⟨x1, mlev, mHeard, mNum, mLU, mLD, mHU, mHD⟩ hf
    intro H locs ls hP hD hS hl
    unfold st_X7_goesOn at hf
    try dsimp only at hf
    refine lv_aload_n hx hb dX7_goesOn_57 rfl (lv_at hl 0 rfl) ?_
    refine va_get (D := D) (ci := 6) (v := .int (zI mlev)) (C := RX7) (T := TX7) (N := 23) hx hb hts u_X7_goesOn_X7 hown hK.1 hP 0 rfl rfl 19 (by decide) (hts _ m_X7_goesOn_2) (fun _ h9 => h9) rfl dX7_goesOn_58 ?_
    refine zz_if_le (tgt := 155) hx hb dX7_goesOn_61 (by decide) hf (fun hc hf => ?_) (fun hc hf => ?_)
    · refine lv_aload_n hx hb dX7_goesOn_155 rfl (lv_at hl 0 rfl) ?_
      refine lv_iconst (v := zI 0) hx hb dX7_goesOn_156 rfl ?_
      refine va_put (D := D) (ci := 6) (v := .int (zI 0)) (ty := .int) (C := RX7) (T := TX7) (N := 23) hx hb hts u_X7_goesOn_X7 tyX7 tyX7_ok nmX7 hown hK.1 hP hD hS 0 rfl rfl 19 (by decide) (hts _ m_X7_goesOn_2) (fun _ h9 => h9) rfl (tyX7_ok 19 (by decide)) rfl rfl (Nat.le_of_ble_eq_true rfl) dX7_goesOn_157 (fun H locs hP hD hS => ?_)
      have hP : va_P D vwCl [eO mO 6 [.int (zI mth), .ref mQtext, .int (zI mmany), .int (zI mcur), .int (zI mst), .int (zI mtok), .int (zI mval), .ref mQnow, .ref mQfresh, .ref mQwas, .int (zI macts), .ref mQisKept, .ref mQkept, .ref mQheard, .ref mQnumber, .ref mQlowUp, .ref mQlowDown, .ref mQhighUp, .ref mQhighDown, .int (zI 0), .ref mQseen, .int (zI memp), .ref mQfirst], eA mQheard (cy 0) 11 mHeard, eA mQnumber (cy 0) 7 mNum, eA mQlowUp (cy 0) 7 mLU, eA mQlowDown (cy 0) 7 mLD, eA mQhighUp (cy 0) 7 mHU, eA mQhighDown (cy 0) 7 mHD] H := hP
      have hD : va_D A [eO mO 6 [.int (zI mth), .ref mQtext, .int (zI mmany), .int (zI mcur), .int (zI mst), .int (zI mtok), .int (zI mval), .ref mQnow, .ref mQfresh, .ref mQwas, .int (zI macts), .ref mQisKept, .ref mQkept, .ref mQheard, .ref mQnumber, .ref mQlowUp, .ref mQlowDown, .ref mQhighUp, .ref mQhighDown, .int (zI 0), .ref mQseen, .int (zI memp), .ref mQfirst], eA mQheard (cy 0) 11 mHeard, eA mQnumber (cy 0) 7 mNum, eA mQlowUp (cy 0) 7 mLU, eA mQlowDown (cy 0) 7 mLD, eA mQhighUp (cy 0) 7 mHU, eA mQhighDown (cy 0) 7 mHD] := hD
      refine lv_aload_n hx hb dX7_goesOn_160 rfl (lv_at hl 0 rfl) ?_
      refine va_get (D := D) (ci := 6) (v := .ref mQheard) (C := RX7) (T := TX7) (N := 23) hx hb hts u_X7_goesOn_X7 hown hK.1 hP 0 rfl rfl 13 (by decide) (hts _ m_X7_goesOn_1) (fun _ h9 => h9) rfl dX7_goesOn_161 ?_
      refine lv_iconst (v := zI 0) hx hb dX7_goesOn_164 rfl ?_
      refine lv_iconst (v := zI 0) hx hb dX7_goesOn_165 rfl ?_
      refine zz_iast (i := 0) hx hb hK hP hD hS 1 rfl (Nat.le_of_ble_eq_true rfl) (by decide) dX7_goesOn_166 (fun H locs hP hD hS => ?_)
      have hP : va_P D vwCl [eO mO 6 [.int (zI mth), .ref mQtext, .int (zI mmany), .int (zI mcur), .int (zI mst), .int (zI mtok), .int (zI mval), .ref mQnow, .ref mQfresh, .ref mQwas, .int (zI macts), .ref mQisKept, .ref mQkept, .ref mQheard, .ref mQnumber, .ref mQlowUp, .ref mQlowDown, .ref mQhighUp, .ref mQhighDown, .int (zI 0), .ref mQseen, .int (zI memp), .ref mQfirst], eA mQheard (cy 0) 11 (zup mHeard 0 0), eA mQnumber (cy 0) 7 mNum, eA mQlowUp (cy 0) 7 mLU, eA mQlowDown (cy 0) 7 mLD, eA mQhighUp (cy 0) 7 mHU, eA mQhighDown (cy 0) 7 mHD] H := hP
      have hD : va_D A [eO mO 6 [.int (zI mth), .ref mQtext, .int (zI mmany), .int (zI mcur), .int (zI mst), .int (zI mtok), .int (zI mval), .ref mQnow, .ref mQfresh, .ref mQwas, .int (zI macts), .ref mQisKept, .ref mQkept, .ref mQheard, .ref mQnumber, .ref mQlowUp, .ref mQlowDown, .ref mQhighUp, .ref mQhighDown, .int (zI 0), .ref mQseen, .int (zI memp), .ref mQfirst], eA mQheard (cy 0) 11 (zup mHeard 0 0), eA mQnumber (cy 0) 7 mNum, eA mQlowUp (cy 0) 7 mLU, eA mQlowDown (cy 0) 7 mLD, eA mQhighUp (cy 0) 7 mHU, eA mQhighDown (cy 0) 7 mHD] := hD
      refine lv_iconst (v := zI 0) hx hb dX7_goesOn_167 rfl ?_
      have hf := zq_some hf
      cases hf
      exact W.zret hx hb hr rfl (fun t ht hW => ⟨⟨_, (), rfl, rfl, by rw [ht]; exact hP, hD⟩, hS.F ht⟩) hS.2.2 dX7_goesOn_168
    · refine lv_aload_n hx hb dX7_goesOn_64 rfl (lv_at hl 0 rfl) ?_
      refine va_get (D := D) (ci := 6) (v := .ref mQnumber) (C := RX7) (T := TX7) (N := 23) hx hb hts u_X7_goesOn_X7 hown hK.1 hP 0 rfl rfl 14 (by decide) (hts _ m_X7_goesOn_3) (fun _ h9 => h9) rfl dX7_goesOn_65 ?_
      refine lv_aload_n hx hb dX7_goesOn_68 rfl (lv_at hl 0 rfl) ?_
      refine va_get (D := D) (ci := 6) (v := .int (zI mlev)) (C := RX7) (T := TX7) (N := 23) hx hb hts u_X7_goesOn_X7 hown hK.1 hP 0 rfl rfl 19 (by decide) (hts _ m_X7_goesOn_2) (fun _ h9 => h9) rfl dX7_goesOn_69 ?_
      refine lv_dup2_11 hx hb dX7_goesOn_72 rfl rfl ?_
      obtain ⟨hg, hf⟩ := zq_gd hf
      refine zz_iald (i := mlev) hx hb hK hP 2 rfl (Nat.le_of_ble_eq_true rfl) hg dX7_goesOn_73 ?_
      refine lv_iconst (v := zI 1) hx hb dX7_goesOn_74 rfl ?_
      refine zz_iadd hx hb dX7_goesOn_75 ?_
      obtain ⟨hg, hf⟩ := zq_gd hf
      refine zz_iast (i := mlev) hx hb hK hP hD hS 2 rfl (Nat.le_of_ble_eq_true rfl) hg dX7_goesOn_76 (fun H locs hP hD hS => ?_)
      have hP : va_P D vwCl [eO mO 6 [.int (zI mth), .ref mQtext, .int (zI mmany), .int (zI mcur), .int (zI mst), .int (zI mtok), .int (zI mval), .ref mQnow, .ref mQfresh, .ref mQwas, .int (zI macts), .ref mQisKept, .ref mQkept, .ref mQheard, .ref mQnumber, .ref mQlowUp, .ref mQlowDown, .ref mQhighUp, .ref mQhighDown, .int (zI mlev), .ref mQseen, .int (zI memp), .ref mQfirst], eA mQheard (cy 0) 11 mHeard, eA mQnumber (cy 0) 7 (zup mNum mlev ((mNum (Int.toNat mlev)) + 1)), eA mQlowUp (cy 0) 7 mLU, eA mQlowDown (cy 0) 7 mLD, eA mQhighUp (cy 0) 7 mHU, eA mQhighDown (cy 0) 7 mHD] H := hP
      have hD : va_D A [eO mO 6 [.int (zI mth), .ref mQtext, .int (zI mmany), .int (zI mcur), .int (zI mst), .int (zI mtok), .int (zI mval), .ref mQnow, .ref mQfresh, .ref mQwas, .int (zI macts), .ref mQisKept, .ref mQkept, .ref mQheard, .ref mQnumber, .ref mQlowUp, .ref mQlowDown, .ref mQhighUp, .ref mQhighDown, .int (zI mlev), .ref mQseen, .int (zI memp), .ref mQfirst], eA mQheard (cy 0) 11 mHeard, eA mQnumber (cy 0) 7 (zup mNum mlev ((mNum (Int.toNat mlev)) + 1)), eA mQlowUp (cy 0) 7 mLU, eA mQlowDown (cy 0) 7 mLD, eA mQhighUp (cy 0) 7 mHU, eA mQhighDown (cy 0) 7 mHD] := hD
      refine lv_aload_n hx hb dX7_goesOn_77 rfl (lv_at hl 0 rfl) ?_
      refine lv_aload_n hx hb dX7_goesOn_78 rfl (lv_at hl 0 rfl) ?_
      refine va_get (D := D) (ci := 6) (v := .int (zI mlev)) (C := RX7) (T := TX7) (N := 23) hx hb hts u_X7_goesOn_X7 hown hK.1 hP 0 rfl rfl 19 (by decide) (hts _ m_X7_goesOn_2) (fun _ h9 => h9) rfl dX7_goesOn_79 ?_
      obtain ⟨r82, hc82, hf⟩ := zq_bind hf
      refine zcallVi (wr := [eA mQhighUp (cy 0) 7 mHU, eA mQhighDown (cy 0) 7 mHD]) (rest := []) ⟨hx, hb, hml, hown, hts⟩ (c_X7_isBeyond l D cy mO mQtext mQnow mQfresh mQwas mQisKept mQkept mQheard mQnumber mQlowUp mQlowDown mQhighUp mQhighDown mQseen mQfirst H.size mlev mth mmany mcur mst mtok mval macts mlev memp mHeard (zup mNum mlev ((mNum (Int.toNat mlev)) + 1)) mLU mLD hc82) (cwV 1 hts gX7_goesOn_X7_isBeyond rfl rfl rfl (by decide +kernel) ⟨Nat.le_of_ble_eq_true rfl, Nat.le_of_ble_eq_true rfl⟩) hK hP hD hS hA [0, 1, 2, 3, 4] [5, 6] rfl rfl rfl rfl (by decide) (va_recv hK.1 hP (ci := 6) (q0 := 0) rfl rfl) rfl hl.1 rfl (Nat.le_of_ble_eq_true rfl) dX7_goesOn_82 ⟨Nat.zero_le _, Nat.zero_le _⟩ (fun H locs hP hD hS => ?_)
      have hP : va_P D vwCl [eO mO 6 [.int (zI mth), .ref mQtext, .int (zI mmany), .int (zI mcur), .int (zI mst), .int (zI mtok), .int (zI mval), .ref mQnow, .ref mQfresh, .ref mQwas, .int (zI macts), .ref mQisKept, .ref mQkept, .ref mQheard, .ref mQnumber, .ref mQlowUp, .ref mQlowDown, .ref mQhighUp, .ref mQhighDown, .int (zI mlev), .ref mQseen, .int (zI memp), .ref mQfirst], eA mQheard (cy 0) 11 mHeard, eA mQnumber (cy 0) 7 (zup mNum mlev ((mNum (Int.toNat mlev)) + 1)), eA mQlowUp (cy 0) 7 mLU, eA mQlowDown (cy 0) 7 mLD, eA mQhighUp (cy 0) 7 mHU, eA mQhighDown (cy 0) 7 mHD] H := hP.sub [2, 3, 4, 5, 6, 0, 1] rfl
      have hD : va_D A [eO mO 6 [.int (zI mth), .ref mQtext, .int (zI mmany), .int (zI mcur), .int (zI mst), .int (zI mtok), .int (zI mval), .ref mQnow, .ref mQfresh, .ref mQwas, .int (zI macts), .ref mQisKept, .ref mQkept, .ref mQheard, .ref mQnumber, .ref mQlowUp, .ref mQlowDown, .ref mQhighUp, .ref mQhighDown, .int (zI mlev), .ref mQseen, .int (zI memp), .ref mQfirst], eA mQheard (cy 0) 11 mHeard, eA mQnumber (cy 0) 7 (zup mNum mlev ((mNum (Int.toNat mlev)) + 1)), eA mQlowUp (cy 0) 7 mLU, eA mQlowDown (cy 0) 7 mLD, eA mQhighUp (cy 0) 7 mHU, eA mQhighDown (cy 0) 7 mHD] := hD.sub [2, 3, 4, 5, 6, 0, 1] rfl rfl
      refine zz_if_eq (tgt := 101) hx hb dX7_goesOn_85 (by decide) hf (fun hc hf => ?_) (fun hc hf => ?_)
      · refine lv_aload_n hx hb dX7_goesOn_101 rfl (lv_at hl 0 rfl) ?_
        refine lv_aload_n hx hb dX7_goesOn_102 rfl (lv_at hl 0 rfl) ?_
        refine va_get (D := D) (ci := 6) (v := .int (zI mlev)) (C := RX7) (T := TX7) (N := 23) hx hb hts u_X7_goesOn_X7 hown hK.1 hP 0 rfl rfl 19 (by decide) (hts _ m_X7_goesOn_2) (fun _ h9 => h9) rfl dX7_goesOn_103 ?_
        obtain ⟨⟨r106, mLU_106, mLD_106, mHU_106, mHD_106⟩, hc106, hf⟩ := zq_bind hf
        refine zcallVi (wr := []) (rest := []) ⟨hx, hb, hml, hown, hts⟩ (c_X7_doesCut l D cy mO mQtext mQnow mQfresh mQwas mQisKept mQkept mQheard mQnumber mQlowUp mQlowDown mQhighUp mQhighDown mQseen mQfirst H.size mlev mth mmany mcur mst mtok mval macts mlev memp mHeard (zup mNum mlev ((mNum (Int.toNat mlev)) + 1)) mLU mLD mHU mHD hc106) (cwV 1 hts gX7_goesOn_X7_doesCut rfl rfl rfl (by decide +kernel) ⟨Nat.le_of_ble_eq_true rfl, Nat.le_of_ble_eq_true rfl⟩) hK hP hD hS hA [0, 1, 2, 3, 4, 5, 6] [] rfl rfl rfl rfl (by decide) (va_recv hK.1 hP (ci := 6) (q0 := 0) rfl rfl) rfl hl.1 rfl (Nat.le_of_ble_eq_true rfl) dX7_goesOn_106 ⟨Nat.zero_le _, Nat.zero_le _⟩ (fun H locs hP hD hS => ?_)
        have hP : va_P D vwCl [eO mO 6 [.int (zI mth), .ref mQtext, .int (zI mmany), .int (zI mcur), .int (zI mst), .int (zI mtok), .int (zI mval), .ref mQnow, .ref mQfresh, .ref mQwas, .int (zI macts), .ref mQisKept, .ref mQkept, .ref mQheard, .ref mQnumber, .ref mQlowUp, .ref mQlowDown, .ref mQhighUp, .ref mQhighDown, .int (zI mlev), .ref mQseen, .int (zI memp), .ref mQfirst], eA mQheard (cy 0) 11 mHeard, eA mQnumber (cy 0) 7 (zup mNum mlev ((mNum (Int.toNat mlev)) + 1)), eA mQlowUp (cy 0) 7 mLU_106, eA mQlowDown (cy 0) 7 mLD_106, eA mQhighUp (cy 0) 7 mHU_106, eA mQhighDown (cy 0) 7 mHD_106] H := hP.sub [0, 1, 2, 3, 4, 5, 6] rfl
        have hD : va_D A [eO mO 6 [.int (zI mth), .ref mQtext, .int (zI mmany), .int (zI mcur), .int (zI mst), .int (zI mtok), .int (zI mval), .ref mQnow, .ref mQfresh, .ref mQwas, .int (zI macts), .ref mQisKept, .ref mQkept, .ref mQheard, .ref mQnumber, .ref mQlowUp, .ref mQlowDown, .ref mQhighUp, .ref mQhighDown, .int (zI mlev), .ref mQseen, .int (zI memp), .ref mQfirst], eA mQheard (cy 0) 11 mHeard, eA mQnumber (cy 0) 7 (zup mNum mlev ((mNum (Int.toNat mlev)) + 1)), eA mQlowUp (cy 0) 7 mLU_106, eA mQlowDown (cy 0) 7 mLD_106, eA mQhighUp (cy 0) 7 mHU_106, eA mQhighDown (cy 0) 7 mHD_106] := hD.sub [0, 1, 2, 3, 4, 5, 6] rfl rfl
        refine zz_if_eq (tgt := 57) hx hb dX7_goesOn_109 (by decide) hf (fun hc hf => ?_) (fun hc hf => ?_)
        · have hf := zq_some hf
          exact hf _ _ _ hP hD hS (lv_sub hl [0, 1] rfl)
        · refine lv_aload_n hx hb dX7_goesOn_112 rfl (lv_at hl 0 rfl) ?_
          refine va_get (D := D) (ci := 6) (v := .int (zI mlev)) (C := RX7) (T := TX7) (N := 23) hx hb hts u_X7_goesOn_X7 hown hK.1 hP 0 rfl rfl 19 (by decide) (hts _ m_X7_goesOn_2) (fun _ h9 => h9) rfl dX7_goesOn_113 ?_
          refine lv_iload_n hx hb dX7_goesOn_116 rfl (lv_at hl 1 rfl) ?_
          refine zz_icmp_ne (tgt := 122) hx hb dX7_goesOn_117 (by decide) hf (fun hc hf => ?_) (fun hc hf => ?_)
          · refine lv_iconst (v := zI 1) hx hb dX7_goesOn_120 rfl ?_
            have hf := zq_some hf
            cases hf
            exact W.zret hx hb hr rfl (fun t ht hW => ⟨⟨_, (), rfl, rfl, by rw [ht]; exact hP, hD⟩, hS.F ht⟩) hS.2.2 dX7_goesOn_121
          · refine lv_aload_n hx hb dX7_goesOn_122 rfl (lv_at hl 0 rfl) ?_
            refine lv_dup hx hb dX7_goesOn_123 rfl ?_
            refine va_get (D := D) (ci := 6) (v := .int (zI mlev)) (C := RX7) (T := TX7) (N := 23) hx hb hts u_X7_goesOn_X7 hown hK.1 hP 0 rfl rfl 19 (by decide) (hts _ m_X7_goesOn_2) (fun _ h9 => h9) rfl dX7_goesOn_124 ?_
            refine lv_iconst (v := zI 1) hx hb dX7_goesOn_127 rfl ?_
            refine zz_iadd hx hb dX7_goesOn_128 ?_
            refine va_put (D := D) (ci := 6) (v := .int (zI (mlev + 1))) (ty := .int) (C := RX7) (T := TX7) (N := 23) hx hb hts u_X7_goesOn_X7 tyX7 tyX7_ok nmX7 hown hK.1 hP hD hS 0 rfl rfl 19 (by decide) (hts _ m_X7_goesOn_2) (fun _ h9 => h9) rfl (tyX7_ok 19 (by decide)) rfl rfl (Nat.le_of_ble_eq_true rfl) dX7_goesOn_129 (fun H locs hP hD hS => ?_)
            have hP : va_P D vwCl [eO mO 6 [.int (zI mth), .ref mQtext, .int (zI mmany), .int (zI mcur), .int (zI mst), .int (zI mtok), .int (zI mval), .ref mQnow, .ref mQfresh, .ref mQwas, .int (zI macts), .ref mQisKept, .ref mQkept, .ref mQheard, .ref mQnumber, .ref mQlowUp, .ref mQlowDown, .ref mQhighUp, .ref mQhighDown, .int (zI (mlev + 1)), .ref mQseen, .int (zI memp), .ref mQfirst], eA mQheard (cy 0) 11 mHeard, eA mQnumber (cy 0) 7 (zup mNum mlev ((mNum (Int.toNat mlev)) + 1)), eA mQlowUp (cy 0) 7 mLU_106, eA mQlowDown (cy 0) 7 mLD_106, eA mQhighUp (cy 0) 7 mHU_106, eA mQhighDown (cy 0) 7 mHD_106] H := hP
            have hD : va_D A [eO mO 6 [.int (zI mth), .ref mQtext, .int (zI mmany), .int (zI mcur), .int (zI mst), .int (zI mtok), .int (zI mval), .ref mQnow, .ref mQfresh, .ref mQwas, .int (zI macts), .ref mQisKept, .ref mQkept, .ref mQheard, .ref mQnumber, .ref mQlowUp, .ref mQlowDown, .ref mQhighUp, .ref mQhighDown, .int (zI (mlev + 1)), .ref mQseen, .int (zI memp), .ref mQfirst], eA mQheard (cy 0) 11 mHeard, eA mQnumber (cy 0) 7 (zup mNum mlev ((mNum (Int.toNat mlev)) + 1)), eA mQlowUp (cy 0) 7 mLU_106, eA mQlowDown (cy 0) 7 mLD_106, eA mQhighUp (cy 0) 7 mHU_106, eA mQhighDown (cy 0) 7 mHD_106] := hD
            refine lv_aload_n hx hb dX7_goesOn_132 rfl (lv_at hl 0 rfl) ?_
            refine va_get (D := D) (ci := 6) (v := .ref mQnumber) (C := RX7) (T := TX7) (N := 23) hx hb hts u_X7_goesOn_X7 hown hK.1 hP 0 rfl rfl 14 (by decide) (hts _ m_X7_goesOn_3) (fun _ h9 => h9) rfl dX7_goesOn_133 ?_
            refine lv_aload_n hx hb dX7_goesOn_136 rfl (lv_at hl 0 rfl) ?_
            refine va_get (D := D) (ci := 6) (v := .int (zI (mlev + 1))) (C := RX7) (T := TX7) (N := 23) hx hb hts u_X7_goesOn_X7 hown hK.1 hP 0 rfl rfl 19 (by decide) (hts _ m_X7_goesOn_2) (fun _ h9 => h9) rfl dX7_goesOn_137 ?_
            refine lv_aload_n hx hb dX7_goesOn_140 rfl (lv_at hl 0 rfl) ?_
            refine va_get (D := D) (ci := 6) (v := .ref mQnumber) (C := RX7) (T := TX7) (N := 23) hx hb hts u_X7_goesOn_X7 hown hK.1 hP 0 rfl rfl 14 (by decide) (hts _ m_X7_goesOn_3) (fun _ h9 => h9) rfl dX7_goesOn_141 ?_
            refine lv_aload_n hx hb dX7_goesOn_144 rfl (lv_at hl 0 rfl) ?_
            refine va_get (D := D) (ci := 6) (v := .int (zI (mlev + 1))) (C := RX7) (T := TX7) (N := 23) hx hb hts u_X7_goesOn_X7 hown hK.1 hP 0 rfl rfl 19 (by decide) (hts _ m_X7_goesOn_2) (fun _ h9 => h9) rfl dX7_goesOn_145 ?_
            refine lv_iconst (v := zI 1) hx hb dX7_goesOn_148 rfl ?_
            refine zz_isub hx hb dX7_goesOn_149 ?_
            obtain ⟨hg, hf⟩ := zq_gd hf
            refine zz_iald (i := ((mlev + 1) - 1)) hx hb hK hP 2 rfl (Nat.le_of_ble_eq_true rfl) hg dX7_goesOn_150 ?_
            obtain ⟨hg, hf⟩ := zq_gd hf
            refine zz_iast (i := (mlev + 1)) hx hb hK hP hD hS 2 rfl (Nat.le_of_ble_eq_true rfl) hg dX7_goesOn_151 (fun H locs hP hD hS => ?_)
            have hP : va_P D vwCl [eO mO 6 [.int (zI mth), .ref mQtext, .int (zI mmany), .int (zI mcur), .int (zI mst), .int (zI mtok), .int (zI mval), .ref mQnow, .ref mQfresh, .ref mQwas, .int (zI macts), .ref mQisKept, .ref mQkept, .ref mQheard, .ref mQnumber, .ref mQlowUp, .ref mQlowDown, .ref mQhighUp, .ref mQhighDown, .int (zI (mlev + 1)), .ref mQseen, .int (zI memp), .ref mQfirst], eA mQheard (cy 0) 11 mHeard, eA mQnumber (cy 0) 7 (zup (zup mNum mlev ((mNum (Int.toNat mlev)) + 1)) (mlev + 1) ((zup mNum mlev ((mNum (Int.toNat mlev)) + 1)) (Int.toNat ((mlev + 1) - 1)))), eA mQlowUp (cy 0) 7 mLU_106, eA mQlowDown (cy 0) 7 mLD_106, eA mQhighUp (cy 0) 7 mHU_106, eA mQhighDown (cy 0) 7 mHD_106] H := hP
            have hD : va_D A [eO mO 6 [.int (zI mth), .ref mQtext, .int (zI mmany), .int (zI mcur), .int (zI mst), .int (zI mtok), .int (zI mval), .ref mQnow, .ref mQfresh, .ref mQwas, .int (zI macts), .ref mQisKept, .ref mQkept, .ref mQheard, .ref mQnumber, .ref mQlowUp, .ref mQlowDown, .ref mQhighUp, .ref mQhighDown, .int (zI (mlev + 1)), .ref mQseen, .int (zI memp), .ref mQfirst], eA mQheard (cy 0) 11 mHeard, eA mQnumber (cy 0) 7 (zup (zup mNum mlev ((mNum (Int.toNat mlev)) + 1)) (mlev + 1) ((zup mNum mlev ((mNum (Int.toNat mlev)) + 1)) (Int.toNat ((mlev + 1) - 1)))), eA mQlowUp (cy 0) 7 mLU_106, eA mQlowDown (cy 0) 7 mLD_106, eA mQhighUp (cy 0) 7 mHU_106, eA mQhighDown (cy 0) 7 mHD_106] := hD
            refine lv_goto (tgt := 57) hx hb dX7_goesOn_152 (by decide) ?_
            have hf := zq_some hf
            exact hf _ _ _ hP hD hS (lv_sub hl [0, 1] rfl)
      · refine lv_aload_n hx hb dX7_goesOn_88 rfl (lv_at hl 0 rfl) ?_
        refine lv_dup hx hb dX7_goesOn_89 rfl ?_
        refine va_get (D := D) (ci := 6) (v := .int (zI mlev)) (C := RX7) (T := TX7) (N := 23) hx hb hts u_X7_goesOn_X7 hown hK.1 hP 0 rfl rfl 19 (by decide) (hts _ m_X7_goesOn_2) (fun _ h9 => h9) rfl dX7_goesOn_90 ?_
        refine lv_iconst (v := zI 1) hx hb dX7_goesOn_93 rfl ?_
        refine zz_isub hx hb dX7_goesOn_94 ?_
        refine va_put (D := D) (ci := 6) (v := .int (zI (mlev - 1))) (ty := .int) (C := RX7) (T := TX7) (N := 23) hx hb hts u_X7_goesOn_X7 tyX7 tyX7_ok nmX7 hown hK.1 hP hD hS 0 rfl rfl 19 (by decide) (hts _ m_X7_goesOn_2) (fun _ h9 => h9) rfl (tyX7_ok 19 (by decide)) rfl rfl (Nat.le_of_ble_eq_true rfl) dX7_goesOn_95 (fun H locs hP hD hS => ?_)
        have hP : va_P D vwCl [eO mO 6 [.int (zI mth), .ref mQtext, .int (zI mmany), .int (zI mcur), .int (zI mst), .int (zI mtok), .int (zI mval), .ref mQnow, .ref mQfresh, .ref mQwas, .int (zI macts), .ref mQisKept, .ref mQkept, .ref mQheard, .ref mQnumber, .ref mQlowUp, .ref mQlowDown, .ref mQhighUp, .ref mQhighDown, .int (zI (mlev - 1)), .ref mQseen, .int (zI memp), .ref mQfirst], eA mQheard (cy 0) 11 mHeard, eA mQnumber (cy 0) 7 (zup mNum mlev ((mNum (Int.toNat mlev)) + 1)), eA mQlowUp (cy 0) 7 mLU, eA mQlowDown (cy 0) 7 mLD, eA mQhighUp (cy 0) 7 mHU, eA mQhighDown (cy 0) 7 mHD] H := hP
        have hD : va_D A [eO mO 6 [.int (zI mth), .ref mQtext, .int (zI mmany), .int (zI mcur), .int (zI mst), .int (zI mtok), .int (zI mval), .ref mQnow, .ref mQfresh, .ref mQwas, .int (zI macts), .ref mQisKept, .ref mQkept, .ref mQheard, .ref mQnumber, .ref mQlowUp, .ref mQlowDown, .ref mQhighUp, .ref mQhighDown, .int (zI (mlev - 1)), .ref mQseen, .int (zI memp), .ref mQfirst], eA mQheard (cy 0) 11 mHeard, eA mQnumber (cy 0) 7 (zup mNum mlev ((mNum (Int.toNat mlev)) + 1)), eA mQlowUp (cy 0) 7 mLU, eA mQlowDown (cy 0) 7 mLD, eA mQhighUp (cy 0) 7 mHU, eA mQhighDown (cy 0) 7 mHD] := hD
        refine lv_goto (tgt := 57) hx hb dX7_goesOn_98 (by decide) ?_
        have hf := zq_some hf
        exact hf _ _ _ hP hD hS (lv_sub hl [0, 1] rfl)
    )
  unfold f_X7_goesOn at hf
  refine lv_aload_n hx hb dX7_goesOn_0 rfl (lv_at hl 0 rfl) ?_
  refine va_get (D := D) (ci := 6) (v := .ref mQheard) (C := RX7) (T := TX7) (N := 23) hx hb hts u_X7_goesOn_X7 hown hK.1 hP 0 rfl rfl 13 (by decide) (hts _ m_X7_goesOn_1) (fun _ h9 => h9) rfl dX7_goesOn_1 ?_
  refine lv_iconst (v := zI 0) hx hb dX7_goesOn_4 rfl ?_
  refine zz_iald (i := 0) hx hb hK hP 1 rfl (Nat.le_of_ble_eq_true rfl) (by decide) dX7_goesOn_5 ?_
  refine lv_iconst (v := zI 1) hx hb dX7_goesOn_6 rfl ?_
  refine zz_isub hx hb dX7_goesOn_7 ?_
  obtain ⟨v8, e8, hf⟩ := zq_lt hf
  refine zz_top e8 ?_
  refine lv_istore_n (lv' := [(1, .int (zI v8)), (0, .ref mO)]) hx hb dX7_goesOn_8 rfl hl (by decide) rfl (fun ls hl => ?_)
  refine lv_iload_n hx hb dX7_goesOn_9 rfl (lv_at hl 0 rfl) ?_
  refine lv_iconst (v := zI 1) hx hb dX7_goesOn_10 rfl ?_
  refine zz_icmp_ge (tgt := 38) hx hb dX7_goesOn_11 (by decide) hf (fun hc hf => ?_) (fun hc hf => ?_)
  · refine lv_iload_n hx hb dX7_goesOn_14 rfl (lv_at hl 0 rfl) ?_
    refine zz_if_ne (tgt := 29) hx hb dX7_goesOn_15 (by decide) hf (fun hc hf => ?_) (fun hc hf => ?_)
    · refine lv_aload_n hx hb dX7_goesOn_18 rfl (lv_at hl 1 rfl) ?_
      refine va_get (D := D) (ci := 6) (v := .int (zI mlev)) (C := RX7) (T := TX7) (N := 23) hx hb hts u_X7_goesOn_X7 hown hK.1 hP 0 rfl rfl 19 (by decide) (hts _ m_X7_goesOn_2) (fun _ h9 => h9) rfl dX7_goesOn_19 ?_
      refine zz_if_ne (tgt := 29) hx hb dX7_goesOn_22 (by decide) hf (fun hc hf => ?_) (fun hc hf => ?_)
      · refine lv_iconst (v := zI 1) hx hb dX7_goesOn_25 rfl ?_
        refine lv_goto (tgt := 30) hx hb dX7_goesOn_26 (by decide) ?_
        refine lv_istore_n (lv' := [(2, .int (zI 1)), (1, .int (zI v8)), (0, .ref mO)]) hx hb dX7_goesOn_30 rfl hl (by decide) rfl (fun ls hl => ?_)
        refine lv_aload_n hx hb dX7_goesOn_31 rfl (lv_at hl 2 rfl) ?_
        refine lv_iconst (v := zI 1) hx hb dX7_goesOn_32 rfl ?_
        refine va_put (D := D) (ci := 6) (v := .int (zI 1)) (ty := .int) (C := RX7) (T := TX7) (N := 23) hx hb hts u_X7_goesOn_X7 tyX7 tyX7_ok nmX7 hown hK.1 hP hD hS 0 rfl rfl 19 (by decide) (hts _ m_X7_goesOn_2) (fun _ h9 => h9) rfl (tyX7_ok 19 (by decide)) rfl rfl (Nat.le_of_ble_eq_true rfl) dX7_goesOn_33 (fun H locs hP hD hS => ?_)
        have hP : va_P D vwCl [eO mO 6 [.int (zI mth), .ref mQtext, .int (zI mmany), .int (zI mcur), .int (zI mst), .int (zI mtok), .int (zI mval), .ref mQnow, .ref mQfresh, .ref mQwas, .int (zI macts), .ref mQisKept, .ref mQkept, .ref mQheard, .ref mQnumber, .ref mQlowUp, .ref mQlowDown, .ref mQhighUp, .ref mQhighDown, .int (zI 1), .ref mQseen, .int (zI memp), .ref mQfirst], eA mQheard (cy 0) 11 mHeard, eA mQnumber (cy 0) 7 mNum, eA mQlowUp (cy 0) 7 mLU, eA mQlowDown (cy 0) 7 mLD, eA mQhighUp (cy 0) 7 mHU, eA mQhighDown (cy 0) 7 mHD] H := hP
        have hD : va_D A [eO mO 6 [.int (zI mth), .ref mQtext, .int (zI mmany), .int (zI mcur), .int (zI mst), .int (zI mtok), .int (zI mval), .ref mQnow, .ref mQfresh, .ref mQwas, .int (zI macts), .ref mQisKept, .ref mQkept, .ref mQheard, .ref mQnumber, .ref mQlowUp, .ref mQlowDown, .ref mQhighUp, .ref mQhighDown, .int (zI 1), .ref mQseen, .int (zI memp), .ref mQfirst], eA mQheard (cy 0) 11 mHeard, eA mQnumber (cy 0) 7 mNum, eA mQlowUp (cy 0) 7 mLU, eA mQlowDown (cy 0) 7 mLD, eA mQhighUp (cy 0) 7 mHU, eA mQhighDown (cy 0) 7 mHD] := hD
        refine lv_iload_n hx hb dX7_goesOn_36 rfl (lv_at hl 0 rfl) ?_
        have hf := zq_some hf
        cases hf
        exact W.zret hx hb hr rfl (fun t ht hW => ⟨⟨_, (), rfl, rfl, by rw [ht]; exact hP, hD⟩, hS.F ht⟩) hS.2.2 dX7_goesOn_37
      · refine lv_iconst (v := zI 0) hx hb dX7_goesOn_29 rfl ?_
        refine lv_istore_n (lv' := [(2, .int (zI 0)), (1, .int (zI v8)), (0, .ref mO)]) hx hb dX7_goesOn_30 rfl hl (by decide) rfl (fun ls hl => ?_)
        refine lv_aload_n hx hb dX7_goesOn_31 rfl (lv_at hl 2 rfl) ?_
        refine lv_iconst (v := zI 1) hx hb dX7_goesOn_32 rfl ?_
        refine va_put (D := D) (ci := 6) (v := .int (zI 1)) (ty := .int) (C := RX7) (T := TX7) (N := 23) hx hb hts u_X7_goesOn_X7 tyX7 tyX7_ok nmX7 hown hK.1 hP hD hS 0 rfl rfl 19 (by decide) (hts _ m_X7_goesOn_2) (fun _ h9 => h9) rfl (tyX7_ok 19 (by decide)) rfl rfl (Nat.le_of_ble_eq_true rfl) dX7_goesOn_33 (fun H locs hP hD hS => ?_)
        have hP : va_P D vwCl [eO mO 6 [.int (zI mth), .ref mQtext, .int (zI mmany), .int (zI mcur), .int (zI mst), .int (zI mtok), .int (zI mval), .ref mQnow, .ref mQfresh, .ref mQwas, .int (zI macts), .ref mQisKept, .ref mQkept, .ref mQheard, .ref mQnumber, .ref mQlowUp, .ref mQlowDown, .ref mQhighUp, .ref mQhighDown, .int (zI 1), .ref mQseen, .int (zI memp), .ref mQfirst], eA mQheard (cy 0) 11 mHeard, eA mQnumber (cy 0) 7 mNum, eA mQlowUp (cy 0) 7 mLU, eA mQlowDown (cy 0) 7 mLD, eA mQhighUp (cy 0) 7 mHU, eA mQhighDown (cy 0) 7 mHD] H := hP
        have hD : va_D A [eO mO 6 [.int (zI mth), .ref mQtext, .int (zI mmany), .int (zI mcur), .int (zI mst), .int (zI mtok), .int (zI mval), .ref mQnow, .ref mQfresh, .ref mQwas, .int (zI macts), .ref mQisKept, .ref mQkept, .ref mQheard, .ref mQnumber, .ref mQlowUp, .ref mQlowDown, .ref mQhighUp, .ref mQhighDown, .int (zI 1), .ref mQseen, .int (zI memp), .ref mQfirst], eA mQheard (cy 0) 11 mHeard, eA mQnumber (cy 0) 7 mNum, eA mQlowUp (cy 0) 7 mLU, eA mQlowDown (cy 0) 7 mLD, eA mQhighUp (cy 0) 7 mHU, eA mQhighDown (cy 0) 7 mHD] := hD
        refine lv_iload_n hx hb dX7_goesOn_36 rfl (lv_at hl 0 rfl) ?_
        have hf := zq_some hf
        cases hf
        exact W.zret hx hb hr rfl (fun t ht hW => ⟨⟨_, (), rfl, rfl, by rw [ht]; exact hP, hD⟩, hS.F ht⟩) hS.2.2 dX7_goesOn_37
    · refine lv_iconst (v := zI 0) hx hb dX7_goesOn_29 rfl ?_
      refine lv_istore_n (lv' := [(2, .int (zI 0)), (1, .int (zI v8)), (0, .ref mO)]) hx hb dX7_goesOn_30 rfl hl (by decide) rfl (fun ls hl => ?_)
      refine lv_aload_n hx hb dX7_goesOn_31 rfl (lv_at hl 2 rfl) ?_
      refine lv_iconst (v := zI 1) hx hb dX7_goesOn_32 rfl ?_
      refine va_put (D := D) (ci := 6) (v := .int (zI 1)) (ty := .int) (C := RX7) (T := TX7) (N := 23) hx hb hts u_X7_goesOn_X7 tyX7 tyX7_ok nmX7 hown hK.1 hP hD hS 0 rfl rfl 19 (by decide) (hts _ m_X7_goesOn_2) (fun _ h9 => h9) rfl (tyX7_ok 19 (by decide)) rfl rfl (Nat.le_of_ble_eq_true rfl) dX7_goesOn_33 (fun H locs hP hD hS => ?_)
      have hP : va_P D vwCl [eO mO 6 [.int (zI mth), .ref mQtext, .int (zI mmany), .int (zI mcur), .int (zI mst), .int (zI mtok), .int (zI mval), .ref mQnow, .ref mQfresh, .ref mQwas, .int (zI macts), .ref mQisKept, .ref mQkept, .ref mQheard, .ref mQnumber, .ref mQlowUp, .ref mQlowDown, .ref mQhighUp, .ref mQhighDown, .int (zI 1), .ref mQseen, .int (zI memp), .ref mQfirst], eA mQheard (cy 0) 11 mHeard, eA mQnumber (cy 0) 7 mNum, eA mQlowUp (cy 0) 7 mLU, eA mQlowDown (cy 0) 7 mLD, eA mQhighUp (cy 0) 7 mHU, eA mQhighDown (cy 0) 7 mHD] H := hP
      have hD : va_D A [eO mO 6 [.int (zI mth), .ref mQtext, .int (zI mmany), .int (zI mcur), .int (zI mst), .int (zI mtok), .int (zI mval), .ref mQnow, .ref mQfresh, .ref mQwas, .int (zI macts), .ref mQisKept, .ref mQkept, .ref mQheard, .ref mQnumber, .ref mQlowUp, .ref mQlowDown, .ref mQhighUp, .ref mQhighDown, .int (zI 1), .ref mQseen, .int (zI memp), .ref mQfirst], eA mQheard (cy 0) 11 mHeard, eA mQnumber (cy 0) 7 mNum, eA mQlowUp (cy 0) 7 mLU, eA mQlowDown (cy 0) 7 mLD, eA mQhighUp (cy 0) 7 mHU, eA mQhighDown (cy 0) 7 mHD] := hD
      refine lv_iload_n hx hb dX7_goesOn_36 rfl (lv_at hl 0 rfl) ?_
      have hf := zq_some hf
      cases hf
      exact W.zret hx hb hr rfl (fun t ht hW => ⟨⟨_, (), rfl, rfl, by rw [ht]; exact hP, hD⟩, hS.F ht⟩) hS.2.2 dX7_goesOn_37
  · refine lv_aload_n hx hb dX7_goesOn_38 rfl (lv_at hl 1 rfl) ?_
    refine va_get (D := D) (ci := 6) (v := .int (zI mlev)) (C := RX7) (T := TX7) (N := 23) hx hb hts u_X7_goesOn_X7 hown hK.1 hP 0 rfl rfl 19 (by decide) (hts _ m_X7_goesOn_2) (fun _ h9 => h9) rfl dX7_goesOn_39 ?_
    refine zz_if_ne (tgt := 57) hx hb dX7_goesOn_42 (by decide) hf (fun hc hf => ?_) (fun hc hf => ?_)
    · refine lv_aload_n hx hb dX7_goesOn_45 rfl (lv_at hl 1 rfl) ?_
      refine lv_iconst (v := zI 1) hx hb dX7_goesOn_46 rfl ?_
      refine va_put (D := D) (ci := 6) (v := .int (zI 1)) (ty := .int) (C := RX7) (T := TX7) (N := 23) hx hb hts u_X7_goesOn_X7 tyX7 tyX7_ok nmX7 hown hK.1 hP hD hS 0 rfl rfl 19 (by decide) (hts _ m_X7_goesOn_2) (fun _ h9 => h9) rfl (tyX7_ok 19 (by decide)) rfl rfl (Nat.le_of_ble_eq_true rfl) dX7_goesOn_47 (fun H locs hP hD hS => ?_)
      have hP : va_P D vwCl [eO mO 6 [.int (zI mth), .ref mQtext, .int (zI mmany), .int (zI mcur), .int (zI mst), .int (zI mtok), .int (zI mval), .ref mQnow, .ref mQfresh, .ref mQwas, .int (zI macts), .ref mQisKept, .ref mQkept, .ref mQheard, .ref mQnumber, .ref mQlowUp, .ref mQlowDown, .ref mQhighUp, .ref mQhighDown, .int (zI 1), .ref mQseen, .int (zI memp), .ref mQfirst], eA mQheard (cy 0) 11 mHeard, eA mQnumber (cy 0) 7 mNum, eA mQlowUp (cy 0) 7 mLU, eA mQlowDown (cy 0) 7 mLD, eA mQhighUp (cy 0) 7 mHU, eA mQhighDown (cy 0) 7 mHD] H := hP
      have hD : va_D A [eO mO 6 [.int (zI mth), .ref mQtext, .int (zI mmany), .int (zI mcur), .int (zI mst), .int (zI mtok), .int (zI mval), .ref mQnow, .ref mQfresh, .ref mQwas, .int (zI macts), .ref mQisKept, .ref mQkept, .ref mQheard, .ref mQnumber, .ref mQlowUp, .ref mQlowDown, .ref mQhighUp, .ref mQhighDown, .int (zI 1), .ref mQseen, .int (zI memp), .ref mQfirst], eA mQheard (cy 0) 11 mHeard, eA mQnumber (cy 0) 7 mNum, eA mQlowUp (cy 0) 7 mLU, eA mQlowDown (cy 0) 7 mLD, eA mQhighUp (cy 0) 7 mHU, eA mQhighDown (cy 0) 7 mHD] := hD
      refine lv_aload_n hx hb dX7_goesOn_50 rfl (lv_at hl 1 rfl) ?_
      refine va_get (D := D) (ci := 6) (v := .ref mQnumber) (C := RX7) (T := TX7) (N := 23) hx hb hts u_X7_goesOn_X7 hown hK.1 hP 0 rfl rfl 14 (by decide) (hts _ m_X7_goesOn_3) (fun _ h9 => h9) rfl dX7_goesOn_51 ?_
      refine lv_iconst (v := zI 1) hx hb dX7_goesOn_54 rfl ?_
      refine lv_iconst (v := zI 0) hx hb dX7_goesOn_55 rfl ?_
      refine zz_iast (i := 1) hx hb hK hP hD hS 2 rfl (Nat.le_of_ble_eq_true rfl) (by decide) dX7_goesOn_56 (fun H locs hP hD hS => ?_)
      have hP : va_P D vwCl [eO mO 6 [.int (zI mth), .ref mQtext, .int (zI mmany), .int (zI mcur), .int (zI mst), .int (zI mtok), .int (zI mval), .ref mQnow, .ref mQfresh, .ref mQwas, .int (zI macts), .ref mQisKept, .ref mQkept, .ref mQheard, .ref mQnumber, .ref mQlowUp, .ref mQlowDown, .ref mQhighUp, .ref mQhighDown, .int (zI 1), .ref mQseen, .int (zI memp), .ref mQfirst], eA mQheard (cy 0) 11 mHeard, eA mQnumber (cy 0) 7 (zup mNum 1 0), eA mQlowUp (cy 0) 7 mLU, eA mQlowDown (cy 0) 7 mLD, eA mQhighUp (cy 0) 7 mHU, eA mQhighDown (cy 0) 7 mHD] H := hP
      have hD : va_D A [eO mO 6 [.int (zI mth), .ref mQtext, .int (zI mmany), .int (zI mcur), .int (zI mst), .int (zI mtok), .int (zI mval), .ref mQnow, .ref mQfresh, .ref mQwas, .int (zI macts), .ref mQisKept, .ref mQkept, .ref mQheard, .ref mQnumber, .ref mQlowUp, .ref mQlowDown, .ref mQhighUp, .ref mQhighDown, .int (zI 1), .ref mQseen, .int (zI memp), .ref mQfirst], eA mQheard (cy 0) 11 mHeard, eA mQnumber (cy 0) 7 (zup mNum 1 0), eA mQlowUp (cy 0) 7 mLU, eA mQlowDown (cy 0) 7 mLD, eA mQhighUp (cy 0) 7 mHU, eA mQhighDown (cy 0) 7 mHD] := hD
      exact key _ (zq_eq hf) _ _ _ hP hD hS (lv_sub hl [1, 0] rfl)
    · exact key _ (zq_eq hf) _ _ _ hP hD hS (lv_sub hl [1, 0] rfl)

noncomputable def st_X7_standing_n : (Int × Int × (Nat → Int) × (Nat → Int) × (Nat → Int) × (Nat → Int) × (Nat → Int) × (Nat → Int)) → Option ((Int × Int × (Nat → Int) × (Nat → Int) × (Nat → Int) × (Nat → Int) × (Nat → Int) × (Nat → Int)) ⊕ (Int × Int × (Nat → Int) × (Nat → Int) × (Nat → Int) × (Nat → Int) × (Nat → Int) × (Nat → Int))) := fun (x2, mlev, mHeard, mNum, mLU, mLD, mHU, mHD) =>
  (f_X7_goesOn mlev mHeard mNum mLU mLD mHU mHD).bind fun (r8, mlev_8, mHeard_8, mNum_8, mLU_8, mLD_8, mHU_8, mHD_8) =>
  gd (zR r8) <|
  if r8 = 0 then
    some (.inr (x2, mlev_8, mHeard_8, mNum_8, mLU_8, mLD_8, mHU_8, mHD_8))
  else
    some (.inl ((x2 + 1), mlev_8, mHeard_8, mNum_8, mLU_8, mLD_8, mHU_8, mHD_8))
noncomputable def f_X7_standing_n (mNow : Nat → Int) (mHeard : Nat → Int) (mNum : Nat → Int) (mLU : Nat → Int) (mLD : Nat → Int) (mHU : Nat → Int) (mHD : Nat → Int) : Option (Int × Int × (Nat → Int) × (Nat → Int) × (Nat → Int) × (Nat → Int) × (Nat → Int) × (Nat → Int)) :=
  (f_X7_begin_n mNow mHeard mNum mLU mLD mHU mHD).bind fun (mlev_2, mHeard_2, mNum_2, mLU_2, mLD_2, mHU_2, mHD_2) =>
  zev (st_X7_standing_n) (0, mlev_2, mHeard_2, mNum_2, mLU_2, mLD_2, mHU_2, mHD_2)

set_option maxRecDepth 100000 in
set_option maxHeartbeats 4000000 in
theorem c_X7_standing_n (l : Launch) (D : va_G) (cy : Nat → ClassId) (mO mQtext mQnow mQfresh mQwas mQisKept mQkept mQheard mQnumber mQlowUp mQlowDown mQhighUp mQhighDown mQseen mQfirst : Nat) (sz : Nat) (mth : Int) (mmany : Int) (mcur : Int) (mst : Int) (mtok : Int) (mval : Int) (macts : Int) (mlev : Int) (memp : Int) (mNow : Nat → Int) (mHeard : Nat → Int) (mNum : Nat → Int) (mLU : Nat → Int) (mLD : Nat → Int) (mHU : Nat → Int) (mHD : Nat → Int) {r : Int} {mlev' : Int} {mHeard' : Nat → Int} {mNum' : Nat → Int} {mLU' : Nat → Int} {mLD' : Nat → Int} {mHU' : Nat → Int} {mHD' : Nat → Int} (hf : f_X7_standing_n mNow mHeard mNum mLU mLD mHU mHD = some (r, mlev', mHeard', mNum', mLU', mLD', mHU', mHD')) : zMi l yX7_standing wsX7_standing ({ frames := 3, cells := 0, slots := 0, locals := 70 }) D cy sz [.ref mO, .ref mQnow] [eO mO 6 [.int (zI mth), .ref mQtext, .int (zI mmany), .int (zI mcur), .int (zI mst), .int (zI mtok), .int (zI mval), .ref mQnow, .ref mQfresh, .ref mQwas, .int (zI macts), .ref mQisKept, .ref mQkept, .ref mQheard, .ref mQnumber, .ref mQlowUp, .ref mQlowDown, .ref mQhighUp, .ref mQhighDown, .int (zI mlev), .ref mQseen, .int (zI memp), .ref mQfirst], eA mQnow (cy 0) 11 mNow, eA mQheard (cy 0) 11 mHeard, eA mQnumber (cy 0) 7 mNum, eA mQlowUp (cy 0) 7 mLU, eA mQlowDown (cy 0) 7 mLD, eA mQhighUp (cy 0) 7 mHU, eA mQhighDown (cy 0) 7 mHD] [eO mO 6 [.int (zI mth), .ref mQtext, .int (zI mmany), .int (zI mcur), .int (zI mst), .int (zI mtok), .int (zI mval), .ref mQnow, .ref mQfresh, .ref mQwas, .int (zI macts), .ref mQisKept, .ref mQkept, .ref mQheard, .ref mQnumber, .ref mQlowUp, .ref mQlowDown, .ref mQhighUp, .ref mQhighDown, .int (zI mlev'), .ref mQseen, .int (zI memp), .ref mQfirst], eA mQnow (cy 0) 11 mNow, eA mQheard (cy 0) 11 mHeard', eA mQnumber (cy 0) 7 mNum', eA mQlowUp (cy 0) 7 mLU', eA mQlowDown (cy 0) 7 mLD', eA mQhighUp (cy 0) 7 mHU', eA mQhighDown (cy 0) 7 mHD'] (zI r) := by
  refine Met.ofW (cc := cX7_standing) (maxL := 3) (ret := (some .int)) (by decide) rfl ?_
  intro p e s m args below meth c s₁ B hml hv
  obtain ⟨rfl, hsz, hP, hK, hD0⟩ := hv
  have hx := B.exec
  have hb := B.bytes
  have hr := B.returns
  have hts := atoms_spec (ws := wsX7_standing) B.pre
  have hown : s.vm.findClass RX7 = some m.cls := findClass_of_methodNamed B.named
  have hlocks := B.notSynchronized
  subst hsz
  have hD := hD0.self (sz := s.heap.size)
  generalize hAe : va_A [eO mO 6 [.int (zI mth), .ref mQtext, .int (zI mmany), .int (zI mcur), .int (zI mst), .int (zI mtok), .int (zI mval), .ref mQnow, .ref mQfresh, .ref mQwas, .int (zI macts), .ref mQisKept, .ref mQkept, .ref mQheard, .ref mQnumber, .ref mQlowUp, .ref mQlowDown, .ref mQhighUp, .ref mQhighDown, .int (zI mlev), .ref mQseen, .int (zI memp), .ref mQfirst], eA mQnow (cy 0) 11 mNow, eA mQheard (cy 0) 11 mHeard, eA mQnumber (cy 0) 7 mNum, eA mQlowUp (cy 0) 7 mLU, eA mQlowDown (cy 0) 7 mLD, eA mQhighUp (cy 0) 7 mHU, eA mQhighDown (cy 0) 7 mHD] s.heap.size = A at hD ⊢
  have hA : ∀ q : Nat, s.heap.size ≤ q → A q := fun q h => by rw [← hAe]; exact Or.inr h
  have hS : va_S A s.heap s.heap [] := va_S.rf
  have hl := lv_entry ([.ref mO, .ref mQnow]) (n := 3) (Nat.le_of_ble_eq_true rfl)
  rw [lg_entry_eq]
  generalize (lg_sl ([.ref mO, .ref mQnow]) ++ List.replicate (3 - (lg_sl ([.ref mO, .ref mQnow])).length) Slot.unset).toArray = ls at hl ⊢
  have hl : lv_has ls 3 [(0, .ref mO), (1, .ref mQnow)] := hl
  have hf := zq_of hf
  have key := zloop (st := st_X7_standing_n) (res := (r, mlev', mHeard', mNum', mLU', mLD', mHU', mHD')) (K := fun (x2, mlev, mHeard, mNum, mLU, mLD, mHU, mHD) => ∀ (H : Heap) (locs : List Loc) (ls : Array Slot), va_P D vwCl [eO mO 6 [.int (zI mth), .ref mQtext, .int (zI mmany), .int (zI mcur), .int (zI mst), .int (zI mtok), .int (zI mval), .ref mQnow, .ref mQfresh, .ref mQwas, .int (zI macts), .ref mQisKept, .ref mQkept, .ref mQheard, .ref mQnumber, .ref mQlowUp, .ref mQlowDown, .ref mQhighUp, .ref mQhighDown, .int (zI mlev), .ref mQseen, .int (zI memp), .ref mQfirst], eA mQnow (cy 0) 11 mNow, eA mQheard (cy 0) 11 mHeard, eA mQnumber (cy 0) 7 mNum, eA mQlowUp (cy 0) 7 mLU, eA mQlowDown (cy 0) 7 mLD, eA mQhighUp (cy 0) 7 mHU, eA mQhighDown (cy 0) 7 mHD] H → va_D A [eO mO 6 [.int (zI mth), .ref mQtext, .int (zI mmany), .int (zI mcur), .int (zI mst), .int (zI mtok), .int (zI mval), .ref mQnow, .ref mQfresh, .ref mQwas, .int (zI macts), .ref mQisKept, .ref mQkept, .ref mQheard, .ref mQnumber, .ref mQlowUp, .ref mQlowDown, .ref mQhighUp, .ref mQhighDown, .int (zI mlev), .ref mQseen, .int (zI memp), .ref mQfirst], eA mQnow (cy 0) 11 mNow, eA mQheard (cy 0) 11 mHeard, eA mQnumber (cy 0) 7 mNum, eA mQlowUp (cy 0) 7 mLU, eA mQlowDown (cy 0) 7 mLD, eA mQhighUp (cy 0) 7 mHU, eA mQhighDown (cy 0) 7 mHD] → va_S A s.heap H locs → lv_has ls 3 [(0, .ref mO), (1, .ref mQnow), (2, .int (zI x2))] → zGi p l e wsX7_standing ({ frames := 3, cells := 0, slots := 0, locals := 70 }) s m [.ref mO, .ref mQnow] below meth c A D [eO mO 6 [.int (zI mth), .ref mQtext, .int (zI mmany), .int (zI mcur), .int (zI mst), .int (zI mtok), .int (zI mval), .ref mQnow, .ref mQfresh, .ref mQwas, .int (zI macts), .ref mQisKept, .ref mQkept, .ref mQheard, .ref mQnumber, .ref mQlowUp, .ref mQlowDown, .ref mQhighUp, .ref mQhighDown, .int (zI mlev'), .ref mQseen, .int (zI memp), .ref mQfirst], eA mQnow (cy 0) 11 mNow, eA mQheard (cy 0) 11 mHeard', eA mQnumber (cy 0) 7 mNum', eA mQlowUp (cy 0) 7 mLU', eA mQlowDown (cy 0) 7 mLD', eA mQhighUp (cy 0) 7 mHU', eA mQhighDown (cy 0) 7 mHD'] (zI r) H locs (F0 m 7 ls [])) (by
    rintro ⟨x2, mlev, mHeard, mNum, mLU, mLD, mHU, mHD⟩ hf
    intro H locs ls hP hD hS hl
    unfold st_X7_standing_n at hf
    try dsimp only at hf
    refine lv_aload_n hx hb dX7_standing_7 rfl (lv_at hl 0 rfl) ?_
    obtain ⟨⟨r8, mlev_8, mHeard_8, mNum_8, mLU_8, mLD_8, mHU_8, mHD_8⟩, hc8, hf⟩ := zq_bind hf
    refine zcallVi (wr := [eA mQnow (cy 0) 11 mNow]) (rest := []) ⟨hx, hb, hml, hown, hts⟩ (c_X7_goesOn l D cy mO mQtext mQnow mQfresh mQwas mQisKept mQkept mQheard mQnumber mQlowUp mQlowDown mQhighUp mQhighDown mQseen mQfirst H.size mth mmany mcur mst mtok mval macts mlev memp mHeard mNum mLU mLD mHU mHD hc8) (cwV 0 hts gX7_standing_X7_goesOn rfl rfl rfl (by decide +kernel) ⟨Nat.le_of_ble_eq_true rfl, Nat.le_of_ble_eq_true rfl⟩) hK hP hD hS hA [0, 2, 3, 4, 5, 6, 7] [1] rfl rfl rfl rfl (by decide) (va_recv hK.1 hP (ci := 6) (q0 := 0) rfl rfl) rfl hl.1 rfl (Nat.le_of_ble_eq_true rfl) dX7_standing_8 ⟨Nat.zero_le _, Nat.zero_le _⟩ (fun H locs hP hD hS => ?_)
    have hP : va_P D vwCl [eO mO 6 [.int (zI mth), .ref mQtext, .int (zI mmany), .int (zI mcur), .int (zI mst), .int (zI mtok), .int (zI mval), .ref mQnow, .ref mQfresh, .ref mQwas, .int (zI macts), .ref mQisKept, .ref mQkept, .ref mQheard, .ref mQnumber, .ref mQlowUp, .ref mQlowDown, .ref mQhighUp, .ref mQhighDown, .int (zI mlev_8), .ref mQseen, .int (zI memp), .ref mQfirst], eA mQnow (cy 0) 11 mNow, eA mQheard (cy 0) 11 mHeard_8, eA mQnumber (cy 0) 7 mNum_8, eA mQlowUp (cy 0) 7 mLU_8, eA mQlowDown (cy 0) 7 mLD_8, eA mQhighUp (cy 0) 7 mHU_8, eA mQhighDown (cy 0) 7 mHD_8] H := hP.sub [1, 0, 2, 3, 4, 5, 6, 7] rfl
    have hD : va_D A [eO mO 6 [.int (zI mth), .ref mQtext, .int (zI mmany), .int (zI mcur), .int (zI mst), .int (zI mtok), .int (zI mval), .ref mQnow, .ref mQfresh, .ref mQwas, .int (zI macts), .ref mQisKept, .ref mQkept, .ref mQheard, .ref mQnumber, .ref mQlowUp, .ref mQlowDown, .ref mQhighUp, .ref mQhighDown, .int (zI mlev_8), .ref mQseen, .int (zI memp), .ref mQfirst], eA mQnow (cy 0) 11 mNow, eA mQheard (cy 0) 11 mHeard_8, eA mQnumber (cy 0) 7 mNum_8, eA mQlowUp (cy 0) 7 mLU_8, eA mQlowDown (cy 0) 7 mLD_8, eA mQhighUp (cy 0) 7 mHU_8, eA mQhighDown (cy 0) 7 mHD_8] := hD.sub [1, 0, 2, 3, 4, 5, 6, 7] rfl rfl
    refine zz_if_eq (tgt := 20) hx hb dX7_standing_11 (by decide) hf (fun hc hf => ?_) (fun hc hf => ?_)
    · refine lv_iload_n hx hb dX7_standing_20 rfl (lv_at hl 2 rfl) ?_
      have hf := zq_some hf
      cases hf
      exact W.iret hx hb hr (fun t ht hW => ⟨⟨_, (), rfl, rfl, by rw [ht]; exact hP, hD⟩, hS.F ht⟩) hS.2.2 dX7_standing_21
    · refine lv_iinc (v := zI (x2 + 1)) (lv' := [(2, .int (zI (x2 + 1))), (0, .ref mO), (1, .ref mQnow)]) hx hb dX7_standing_14 hl (k := 2) rfl (zI_add _ _) (by decide) rfl (fun ls hl => ?_)
      refine lv_goto (tgt := 7) hx hb dX7_standing_17 (by decide) ?_
      have hf := zq_some hf
      exact hf _ _ _ hP hD hS (lv_sub hl [1, 2, 0] rfl)
    )
  unfold f_X7_standing_n at hf
  refine lv_aload_n hx hb dX7_standing_0 rfl (lv_at hl 0 rfl) ?_
  refine lv_aload_n hx hb dX7_standing_1 rfl (lv_at hl 1 rfl) ?_
  obtain ⟨⟨mlev_2, mHeard_2, mNum_2, mLU_2, mLD_2, mHU_2, mHD_2⟩, hc2, hf⟩ := zq_bind hf
  refine zcallVv (wr := []) (rest := []) ⟨hx, hb, hml, hown, hts⟩ (c_X7_begin_n l D cy mO mQtext mQnow mQfresh mQwas mQisKept mQkept mQheard mQnumber mQlowUp mQlowDown mQhighUp mQhighDown mQseen mQfirst s.heap.size mth mmany mcur mst mtok mval macts mlev memp mNow mHeard mNum mLU mLD mHU mHD hc2) (cwV 1 hts gX7_standing_X7_begin rfl rfl rfl (by decide +kernel) ⟨Nat.le_of_ble_eq_true rfl, Nat.le_of_ble_eq_true rfl⟩) hK hP hD hS hA [0, 1, 2, 3, 4, 5, 6, 7] [] rfl rfl rfl rfl (by decide) (va_recv hK.1 hP (ci := 6) (q0 := 0) rfl rfl) rfl hl.1 rfl (Nat.le_of_ble_eq_true rfl) dX7_standing_2 ⟨Nat.zero_le _, Nat.zero_le _⟩ (fun H locs hP hD hS => ?_)
  have hP : va_P D vwCl [eO mO 6 [.int (zI mth), .ref mQtext, .int (zI mmany), .int (zI mcur), .int (zI mst), .int (zI mtok), .int (zI mval), .ref mQnow, .ref mQfresh, .ref mQwas, .int (zI macts), .ref mQisKept, .ref mQkept, .ref mQheard, .ref mQnumber, .ref mQlowUp, .ref mQlowDown, .ref mQhighUp, .ref mQhighDown, .int (zI mlev_2), .ref mQseen, .int (zI memp), .ref mQfirst], eA mQnow (cy 0) 11 mNow, eA mQheard (cy 0) 11 mHeard_2, eA mQnumber (cy 0) 7 mNum_2, eA mQlowUp (cy 0) 7 mLU_2, eA mQlowDown (cy 0) 7 mLD_2, eA mQhighUp (cy 0) 7 mHU_2, eA mQhighDown (cy 0) 7 mHD_2] H := hP.sub [0, 1, 2, 3, 4, 5, 6, 7] rfl
  have hD : va_D A [eO mO 6 [.int (zI mth), .ref mQtext, .int (zI mmany), .int (zI mcur), .int (zI mst), .int (zI mtok), .int (zI mval), .ref mQnow, .ref mQfresh, .ref mQwas, .int (zI macts), .ref mQisKept, .ref mQkept, .ref mQheard, .ref mQnumber, .ref mQlowUp, .ref mQlowDown, .ref mQhighUp, .ref mQhighDown, .int (zI mlev_2), .ref mQseen, .int (zI memp), .ref mQfirst], eA mQnow (cy 0) 11 mNow, eA mQheard (cy 0) 11 mHeard_2, eA mQnumber (cy 0) 7 mNum_2, eA mQlowUp (cy 0) 7 mLU_2, eA mQlowDown (cy 0) 7 mLD_2, eA mQhighUp (cy 0) 7 mHU_2, eA mQhighDown (cy 0) 7 mHD_2] := hD.sub [0, 1, 2, 3, 4, 5, 6, 7] rfl rfl
  refine lv_iconst (v := zI 0) hx hb dX7_standing_5 rfl ?_
  refine lv_istore_n (lv' := [(2, .int (zI 0)), (0, .ref mO), (1, .ref mQnow)]) hx hb dX7_standing_6 rfl hl (by decide) rfl (fun ls hl => ?_)
  exact key _ (zq_eq hf) _ _ _ hP hD hS (lv_sub hl [1, 2, 0] rfl)

noncomputable def st_X7_standing_f : (Int × Int × (Nat → Int) × (Nat → Int) × (Nat → Int) × (Nat → Int) × (Nat → Int) × (Nat → Int)) → Option ((Int × Int × (Nat → Int) × (Nat → Int) × (Nat → Int) × (Nat → Int) × (Nat → Int) × (Nat → Int)) ⊕ (Int × Int × (Nat → Int) × (Nat → Int) × (Nat → Int) × (Nat → Int) × (Nat → Int) × (Nat → Int))) := fun (x2, mlev, mHeard, mNum, mLU, mLD, mHU, mHD) =>
  (f_X7_goesOn mlev mHeard mNum mLU mLD mHU mHD).bind fun (r8, mlev_8, mHeard_8, mNum_8, mLU_8, mLD_8, mHU_8, mHD_8) =>
  gd (zR r8) <|
  if r8 = 0 then
    some (.inr (x2, mlev_8, mHeard_8, mNum_8, mLU_8, mLD_8, mHU_8, mHD_8))
  else
    some (.inl ((x2 + 1), mlev_8, mHeard_8, mNum_8, mLU_8, mLD_8, mHU_8, mHD_8))
noncomputable def f_X7_standing_f (mFresh : Nat → Int) (mHeard : Nat → Int) (mNum : Nat → Int) (mLU : Nat → Int) (mLD : Nat → Int) (mHU : Nat → Int) (mHD : Nat → Int) : Option (Int × Int × (Nat → Int) × (Nat → Int) × (Nat → Int) × (Nat → Int) × (Nat → Int) × (Nat → Int)) :=
  (f_X7_begin_f mFresh mHeard mNum mLU mLD mHU mHD).bind fun (mlev_2, mHeard_2, mNum_2, mLU_2, mLD_2, mHU_2, mHD_2) =>
  zev (st_X7_standing_f) (0, mlev_2, mHeard_2, mNum_2, mLU_2, mLD_2, mHU_2, mHD_2)

set_option maxRecDepth 100000 in
set_option maxHeartbeats 4000000 in
theorem c_X7_standing_f (l : Launch) (D : va_G) (cy : Nat → ClassId) (mO mQtext mQnow mQfresh mQwas mQisKept mQkept mQheard mQnumber mQlowUp mQlowDown mQhighUp mQhighDown mQseen mQfirst : Nat) (sz : Nat) (mth : Int) (mmany : Int) (mcur : Int) (mst : Int) (mtok : Int) (mval : Int) (macts : Int) (mlev : Int) (memp : Int) (mFresh : Nat → Int) (mHeard : Nat → Int) (mNum : Nat → Int) (mLU : Nat → Int) (mLD : Nat → Int) (mHU : Nat → Int) (mHD : Nat → Int) {r : Int} {mlev' : Int} {mHeard' : Nat → Int} {mNum' : Nat → Int} {mLU' : Nat → Int} {mLD' : Nat → Int} {mHU' : Nat → Int} {mHD' : Nat → Int} (hf : f_X7_standing_f mFresh mHeard mNum mLU mLD mHU mHD = some (r, mlev', mHeard', mNum', mLU', mLD', mHU', mHD')) : zMi l yX7_standing wsX7_standing ({ frames := 3, cells := 0, slots := 0, locals := 70 }) D cy sz [.ref mO, .ref mQfresh] [eO mO 6 [.int (zI mth), .ref mQtext, .int (zI mmany), .int (zI mcur), .int (zI mst), .int (zI mtok), .int (zI mval), .ref mQnow, .ref mQfresh, .ref mQwas, .int (zI macts), .ref mQisKept, .ref mQkept, .ref mQheard, .ref mQnumber, .ref mQlowUp, .ref mQlowDown, .ref mQhighUp, .ref mQhighDown, .int (zI mlev), .ref mQseen, .int (zI memp), .ref mQfirst], eA mQfresh (cy 0) 11 mFresh, eA mQheard (cy 0) 11 mHeard, eA mQnumber (cy 0) 7 mNum, eA mQlowUp (cy 0) 7 mLU, eA mQlowDown (cy 0) 7 mLD, eA mQhighUp (cy 0) 7 mHU, eA mQhighDown (cy 0) 7 mHD] [eO mO 6 [.int (zI mth), .ref mQtext, .int (zI mmany), .int (zI mcur), .int (zI mst), .int (zI mtok), .int (zI mval), .ref mQnow, .ref mQfresh, .ref mQwas, .int (zI macts), .ref mQisKept, .ref mQkept, .ref mQheard, .ref mQnumber, .ref mQlowUp, .ref mQlowDown, .ref mQhighUp, .ref mQhighDown, .int (zI mlev'), .ref mQseen, .int (zI memp), .ref mQfirst], eA mQfresh (cy 0) 11 mFresh, eA mQheard (cy 0) 11 mHeard', eA mQnumber (cy 0) 7 mNum', eA mQlowUp (cy 0) 7 mLU', eA mQlowDown (cy 0) 7 mLD', eA mQhighUp (cy 0) 7 mHU', eA mQhighDown (cy 0) 7 mHD'] (zI r) := by
  refine Met.ofW (cc := cX7_standing) (maxL := 3) (ret := (some .int)) (by decide) rfl ?_
  intro p e s m args below meth c s₁ B hml hv
  obtain ⟨rfl, hsz, hP, hK, hD0⟩ := hv
  have hx := B.exec
  have hb := B.bytes
  have hr := B.returns
  have hts := atoms_spec (ws := wsX7_standing) B.pre
  have hown : s.vm.findClass RX7 = some m.cls := findClass_of_methodNamed B.named
  have hlocks := B.notSynchronized
  subst hsz
  have hD := hD0.self (sz := s.heap.size)
  generalize hAe : va_A [eO mO 6 [.int (zI mth), .ref mQtext, .int (zI mmany), .int (zI mcur), .int (zI mst), .int (zI mtok), .int (zI mval), .ref mQnow, .ref mQfresh, .ref mQwas, .int (zI macts), .ref mQisKept, .ref mQkept, .ref mQheard, .ref mQnumber, .ref mQlowUp, .ref mQlowDown, .ref mQhighUp, .ref mQhighDown, .int (zI mlev), .ref mQseen, .int (zI memp), .ref mQfirst], eA mQfresh (cy 0) 11 mFresh, eA mQheard (cy 0) 11 mHeard, eA mQnumber (cy 0) 7 mNum, eA mQlowUp (cy 0) 7 mLU, eA mQlowDown (cy 0) 7 mLD, eA mQhighUp (cy 0) 7 mHU, eA mQhighDown (cy 0) 7 mHD] s.heap.size = A at hD ⊢
  have hA : ∀ q : Nat, s.heap.size ≤ q → A q := fun q h => by rw [← hAe]; exact Or.inr h
  have hS : va_S A s.heap s.heap [] := va_S.rf
  have hl := lv_entry ([.ref mO, .ref mQfresh]) (n := 3) (Nat.le_of_ble_eq_true rfl)
  rw [lg_entry_eq]
  generalize (lg_sl ([.ref mO, .ref mQfresh]) ++ List.replicate (3 - (lg_sl ([.ref mO, .ref mQfresh])).length) Slot.unset).toArray = ls at hl ⊢
  have hl : lv_has ls 3 [(0, .ref mO), (1, .ref mQfresh)] := hl
  have hf := zq_of hf
  have key := zloop (st := st_X7_standing_f) (res := (r, mlev', mHeard', mNum', mLU', mLD', mHU', mHD')) (K := fun (x2, mlev, mHeard, mNum, mLU, mLD, mHU, mHD) => ∀ (H : Heap) (locs : List Loc) (ls : Array Slot), va_P D vwCl [eO mO 6 [.int (zI mth), .ref mQtext, .int (zI mmany), .int (zI mcur), .int (zI mst), .int (zI mtok), .int (zI mval), .ref mQnow, .ref mQfresh, .ref mQwas, .int (zI macts), .ref mQisKept, .ref mQkept, .ref mQheard, .ref mQnumber, .ref mQlowUp, .ref mQlowDown, .ref mQhighUp, .ref mQhighDown, .int (zI mlev), .ref mQseen, .int (zI memp), .ref mQfirst], eA mQfresh (cy 0) 11 mFresh, eA mQheard (cy 0) 11 mHeard, eA mQnumber (cy 0) 7 mNum, eA mQlowUp (cy 0) 7 mLU, eA mQlowDown (cy 0) 7 mLD, eA mQhighUp (cy 0) 7 mHU, eA mQhighDown (cy 0) 7 mHD] H → va_D A [eO mO 6 [.int (zI mth), .ref mQtext, .int (zI mmany), .int (zI mcur), .int (zI mst), .int (zI mtok), .int (zI mval), .ref mQnow, .ref mQfresh, .ref mQwas, .int (zI macts), .ref mQisKept, .ref mQkept, .ref mQheard, .ref mQnumber, .ref mQlowUp, .ref mQlowDown, .ref mQhighUp, .ref mQhighDown, .int (zI mlev), .ref mQseen, .int (zI memp), .ref mQfirst], eA mQfresh (cy 0) 11 mFresh, eA mQheard (cy 0) 11 mHeard, eA mQnumber (cy 0) 7 mNum, eA mQlowUp (cy 0) 7 mLU, eA mQlowDown (cy 0) 7 mLD, eA mQhighUp (cy 0) 7 mHU, eA mQhighDown (cy 0) 7 mHD] → va_S A s.heap H locs → lv_has ls 3 [(0, .ref mO), (1, .ref mQfresh), (2, .int (zI x2))] → zGi p l e wsX7_standing ({ frames := 3, cells := 0, slots := 0, locals := 70 }) s m [.ref mO, .ref mQfresh] below meth c A D [eO mO 6 [.int (zI mth), .ref mQtext, .int (zI mmany), .int (zI mcur), .int (zI mst), .int (zI mtok), .int (zI mval), .ref mQnow, .ref mQfresh, .ref mQwas, .int (zI macts), .ref mQisKept, .ref mQkept, .ref mQheard, .ref mQnumber, .ref mQlowUp, .ref mQlowDown, .ref mQhighUp, .ref mQhighDown, .int (zI mlev'), .ref mQseen, .int (zI memp), .ref mQfirst], eA mQfresh (cy 0) 11 mFresh, eA mQheard (cy 0) 11 mHeard', eA mQnumber (cy 0) 7 mNum', eA mQlowUp (cy 0) 7 mLU', eA mQlowDown (cy 0) 7 mLD', eA mQhighUp (cy 0) 7 mHU', eA mQhighDown (cy 0) 7 mHD'] (zI r) H locs (F0 m 7 ls [])) (by
    rintro ⟨x2, mlev, mHeard, mNum, mLU, mLD, mHU, mHD⟩ hf
    intro H locs ls hP hD hS hl
    unfold st_X7_standing_f at hf
    try dsimp only at hf
    refine lv_aload_n hx hb dX7_standing_7 rfl (lv_at hl 0 rfl) ?_
    obtain ⟨⟨r8, mlev_8, mHeard_8, mNum_8, mLU_8, mLD_8, mHU_8, mHD_8⟩, hc8, hf⟩ := zq_bind hf
    refine zcallVi (wr := [eA mQfresh (cy 0) 11 mFresh]) (rest := []) ⟨hx, hb, hml, hown, hts⟩ (c_X7_goesOn l D cy mO mQtext mQnow mQfresh mQwas mQisKept mQkept mQheard mQnumber mQlowUp mQlowDown mQhighUp mQhighDown mQseen mQfirst H.size mth mmany mcur mst mtok mval macts mlev memp mHeard mNum mLU mLD mHU mHD hc8) (cwV 0 hts gX7_standing_X7_goesOn rfl rfl rfl (by decide +kernel) ⟨Nat.le_of_ble_eq_true rfl, Nat.le_of_ble_eq_true rfl⟩) hK hP hD hS hA [0, 2, 3, 4, 5, 6, 7] [1] rfl rfl rfl rfl (by decide) (va_recv hK.1 hP (ci := 6) (q0 := 0) rfl rfl) rfl hl.1 rfl (Nat.le_of_ble_eq_true rfl) dX7_standing_8 ⟨Nat.zero_le _, Nat.zero_le _⟩ (fun H locs hP hD hS => ?_)
    have hP : va_P D vwCl [eO mO 6 [.int (zI mth), .ref mQtext, .int (zI mmany), .int (zI mcur), .int (zI mst), .int (zI mtok), .int (zI mval), .ref mQnow, .ref mQfresh, .ref mQwas, .int (zI macts), .ref mQisKept, .ref mQkept, .ref mQheard, .ref mQnumber, .ref mQlowUp, .ref mQlowDown, .ref mQhighUp, .ref mQhighDown, .int (zI mlev_8), .ref mQseen, .int (zI memp), .ref mQfirst], eA mQfresh (cy 0) 11 mFresh, eA mQheard (cy 0) 11 mHeard_8, eA mQnumber (cy 0) 7 mNum_8, eA mQlowUp (cy 0) 7 mLU_8, eA mQlowDown (cy 0) 7 mLD_8, eA mQhighUp (cy 0) 7 mHU_8, eA mQhighDown (cy 0) 7 mHD_8] H := hP.sub [1, 0, 2, 3, 4, 5, 6, 7] rfl
    have hD : va_D A [eO mO 6 [.int (zI mth), .ref mQtext, .int (zI mmany), .int (zI mcur), .int (zI mst), .int (zI mtok), .int (zI mval), .ref mQnow, .ref mQfresh, .ref mQwas, .int (zI macts), .ref mQisKept, .ref mQkept, .ref mQheard, .ref mQnumber, .ref mQlowUp, .ref mQlowDown, .ref mQhighUp, .ref mQhighDown, .int (zI mlev_8), .ref mQseen, .int (zI memp), .ref mQfirst], eA mQfresh (cy 0) 11 mFresh, eA mQheard (cy 0) 11 mHeard_8, eA mQnumber (cy 0) 7 mNum_8, eA mQlowUp (cy 0) 7 mLU_8, eA mQlowDown (cy 0) 7 mLD_8, eA mQhighUp (cy 0) 7 mHU_8, eA mQhighDown (cy 0) 7 mHD_8] := hD.sub [1, 0, 2, 3, 4, 5, 6, 7] rfl rfl
    refine zz_if_eq (tgt := 20) hx hb dX7_standing_11 (by decide) hf (fun hc hf => ?_) (fun hc hf => ?_)
    · refine lv_iload_n hx hb dX7_standing_20 rfl (lv_at hl 2 rfl) ?_
      have hf := zq_some hf
      cases hf
      exact W.iret hx hb hr (fun t ht hW => ⟨⟨_, (), rfl, rfl, by rw [ht]; exact hP, hD⟩, hS.F ht⟩) hS.2.2 dX7_standing_21
    · refine lv_iinc (v := zI (x2 + 1)) (lv' := [(2, .int (zI (x2 + 1))), (0, .ref mO), (1, .ref mQfresh)]) hx hb dX7_standing_14 hl (k := 2) rfl (zI_add _ _) (by decide) rfl (fun ls hl => ?_)
      refine lv_goto (tgt := 7) hx hb dX7_standing_17 (by decide) ?_
      have hf := zq_some hf
      exact hf _ _ _ hP hD hS (lv_sub hl [1, 2, 0] rfl)
    )
  unfold f_X7_standing_f at hf
  refine lv_aload_n hx hb dX7_standing_0 rfl (lv_at hl 0 rfl) ?_
  refine lv_aload_n hx hb dX7_standing_1 rfl (lv_at hl 1 rfl) ?_
  obtain ⟨⟨mlev_2, mHeard_2, mNum_2, mLU_2, mLD_2, mHU_2, mHD_2⟩, hc2, hf⟩ := zq_bind hf
  refine zcallVv (wr := []) (rest := []) ⟨hx, hb, hml, hown, hts⟩ (c_X7_begin_f l D cy mO mQtext mQnow mQfresh mQwas mQisKept mQkept mQheard mQnumber mQlowUp mQlowDown mQhighUp mQhighDown mQseen mQfirst s.heap.size mth mmany mcur mst mtok mval macts mlev memp mFresh mHeard mNum mLU mLD mHU mHD hc2) (cwV 1 hts gX7_standing_X7_begin rfl rfl rfl (by decide +kernel) ⟨Nat.le_of_ble_eq_true rfl, Nat.le_of_ble_eq_true rfl⟩) hK hP hD hS hA [0, 1, 2, 3, 4, 5, 6, 7] [] rfl rfl rfl rfl (by decide) (va_recv hK.1 hP (ci := 6) (q0 := 0) rfl rfl) rfl hl.1 rfl (Nat.le_of_ble_eq_true rfl) dX7_standing_2 ⟨Nat.zero_le _, Nat.zero_le _⟩ (fun H locs hP hD hS => ?_)
  have hP : va_P D vwCl [eO mO 6 [.int (zI mth), .ref mQtext, .int (zI mmany), .int (zI mcur), .int (zI mst), .int (zI mtok), .int (zI mval), .ref mQnow, .ref mQfresh, .ref mQwas, .int (zI macts), .ref mQisKept, .ref mQkept, .ref mQheard, .ref mQnumber, .ref mQlowUp, .ref mQlowDown, .ref mQhighUp, .ref mQhighDown, .int (zI mlev_2), .ref mQseen, .int (zI memp), .ref mQfirst], eA mQfresh (cy 0) 11 mFresh, eA mQheard (cy 0) 11 mHeard_2, eA mQnumber (cy 0) 7 mNum_2, eA mQlowUp (cy 0) 7 mLU_2, eA mQlowDown (cy 0) 7 mLD_2, eA mQhighUp (cy 0) 7 mHU_2, eA mQhighDown (cy 0) 7 mHD_2] H := hP.sub [0, 1, 2, 3, 4, 5, 6, 7] rfl
  have hD : va_D A [eO mO 6 [.int (zI mth), .ref mQtext, .int (zI mmany), .int (zI mcur), .int (zI mst), .int (zI mtok), .int (zI mval), .ref mQnow, .ref mQfresh, .ref mQwas, .int (zI macts), .ref mQisKept, .ref mQkept, .ref mQheard, .ref mQnumber, .ref mQlowUp, .ref mQlowDown, .ref mQhighUp, .ref mQhighDown, .int (zI mlev_2), .ref mQseen, .int (zI memp), .ref mQfirst], eA mQfresh (cy 0) 11 mFresh, eA mQheard (cy 0) 11 mHeard_2, eA mQnumber (cy 0) 7 mNum_2, eA mQlowUp (cy 0) 7 mLU_2, eA mQlowDown (cy 0) 7 mLD_2, eA mQhighUp (cy 0) 7 mHU_2, eA mQhighDown (cy 0) 7 mHD_2] := hD.sub [0, 1, 2, 3, 4, 5, 6, 7] rfl rfl
  refine lv_iconst (v := zI 0) hx hb dX7_standing_5 rfl ?_
  refine lv_istore_n (lv' := [(2, .int (zI 0)), (0, .ref mO), (1, .ref mQfresh)]) hx hb dX7_standing_6 rfl hl (by decide) rfl (fun ls hl => ?_)
  exact key _ (zq_eq hf) _ _ _ hP hD hS (lv_sub hl [1, 2, 0] rfl)

noncomputable def f_X7_boxes (p1 : Int) (p2 : Int) (p3 : Int) (macts : Int) (mlev : Int) (mNow : Nat → Int) (mWas : Nat → Int) (mHeard : Nat → Int) (mNum : Nat → Int) (mLU : Nat → Int) (mLD : Nat → Int) (mHU : Nat → Int) (mHD : Nat → Int) : Option (Int × Int × Int × Int × (Nat → Int) × (Nat → Int) × (Nat → Int) × (Nat → Int) × (Nat → Int) × (Nat → Int) × (Nat → Int) × (Nat → Int)) :=
  gd (zR p1) <|
  (f_X7_in p1 10 999).bind fun r13 =>
  gd (zR r13) <|
  if r13 = 0 then
    some ((-1), 0, macts, mlev, mNow, mWas, mHeard, mNum, mLU, mLD, mHU, mHD)
  else
    gd (zR p2) <|
    gd (zR p1) <|
    (f_X7_in p2 p1 999).bind fun r26 =>
    gd (zR r26) <|
    if r26 = 0 then
      some ((-1), 0, macts, mlev, mNow, mWas, mHeard, mNum, mLU, mLD, mHU, mHD)
    else
      gd (zR p3) <|
      (f_X7_in p3 0 99).bind fun r38 =>
      gd (zR r38) <|
      if r38 = 0 then
        some ((-1), 0, macts, mlev, mNow, mWas, mHeard, mNum, mLU, mLD, mHU, mHD)
      else
        gd (zR (4 * p3) ∧ zR p1) <|
        if (4 * p3) < p1 then
          (f_X7_keepAct macts mNow mWas).bind fun (macts_54, mWas_54) =>
          (f_X7_standing_n (zup (zup (zup mNow 1 p1) 2 p2) 3 p3) mHeard mNum mLU mLD mHU mHD).bind fun (r83, mlev_83, mHeard_83, mNum_83, mLU_83, mLD_83, mHU_83, mHD_83) =>
          some (r83, 0, macts_54, mlev_83, (zup (zup (zup mNow 1 p1) 2 p2) 3 p3), mWas_54, mHeard_83, mNum_83, mLU_83, mLD_83, mHU_83, mHD_83)
        else
          some ((-1), 0, macts, mlev, mNow, mWas, mHeard, mNum, mLU, mLD, mHU, mHD)
theorem m_X7_boxes_1 : (.fieldLink RX7 1 "PulseTurnsModel" "thrown" "I" : Cond) ∈ wsX7_boxes := List.mem_of_getElem? (i := 1) rfl
theorem m_X7_boxes_2 : (.constantLong RX7 131 (10) : Cond) ∈ wsX7_boxes := List.mem_of_getElem? (i := 2) rfl
theorem m_X7_boxes_3 : (.constantLong RX7 133 (999) : Cond) ∈ wsX7_boxes := List.mem_of_getElem? (i := 3) rfl
theorem m_X7_boxes_4 : (.constantLong RX7 135 (99) : Cond) ∈ wsX7_boxes := List.mem_of_getElem? (i := 4) rfl
theorem m_X7_boxes_5 : (.fieldLink RX7 46 "PulseTurnsModel" "now" "[I" : Cond) ∈ wsX7_boxes := List.mem_of_getElem? (i := 5) rfl
theorem u_X7_boxes_X7 : ∀ w ∈ wsX70, w ∈ wsX7_boxes := fun w h => List.mem_cons_of_mem _ (List.mem_append_right _ h)
set_option maxRecDepth 100000 in
set_option maxHeartbeats 4000000 in
theorem c_X7_boxes (l : Launch) (D : va_G) (cy : Nat → ClassId) (mO mQtext mQnow mQfresh mQwas mQisKept mQkept mQheard mQnumber mQlowUp mQlowDown mQhighUp mQhighDown mQseen mQfirst : Nat) (sz : Nat) (p1 : Int) (p2 : Int) (p3 : Int) (mth : Int) (mmany : Int) (mcur : Int) (mst : Int) (mtok : Int) (mval : Int) (macts : Int) (mlev : Int) (memp : Int) (mNow : Nat → Int) (mWas : Nat → Int) (mHeard : Nat → Int) (mNum : Nat → Int) (mLU : Nat → Int) (mLD : Nat → Int) (mHU : Nat → Int) (mHD : Nat → Int) {r : Int} {mth' : Int} {macts' : Int} {mlev' : Int} {mNow' : Nat → Int} {mWas' : Nat → Int} {mHeard' : Nat → Int} {mNum' : Nat → Int} {mLU' : Nat → Int} {mLD' : Nat → Int} {mHU' : Nat → Int} {mHD' : Nat → Int} (hf : f_X7_boxes p1 p2 p3 macts mlev mNow mWas mHeard mNum mLU mLD mHU mHD = some (r, mth', macts', mlev', mNow', mWas', mHeard', mNum', mLU', mLD', mHU', mHD')) : zMi l yX7_boxes wsX7_boxes ({ frames := 4, cells := 0, slots := 0, locals := 92 }) D cy sz [.ref mO, .int (zI p1), .int (zI p2), .int (zI p3)] [eO mO 6 [.int (zI mth), .ref mQtext, .int (zI mmany), .int (zI mcur), .int (zI mst), .int (zI mtok), .int (zI mval), .ref mQnow, .ref mQfresh, .ref mQwas, .int (zI macts), .ref mQisKept, .ref mQkept, .ref mQheard, .ref mQnumber, .ref mQlowUp, .ref mQlowDown, .ref mQhighUp, .ref mQhighDown, .int (zI mlev), .ref mQseen, .int (zI memp), .ref mQfirst], eA mQnow (cy 0) 11 mNow, eA mQwas (cy 0) 110 mWas, eA mQheard (cy 0) 11 mHeard, eA mQnumber (cy 0) 7 mNum, eA mQlowUp (cy 0) 7 mLU, eA mQlowDown (cy 0) 7 mLD, eA mQhighUp (cy 0) 7 mHU, eA mQhighDown (cy 0) 7 mHD] [eO mO 6 [.int (zI mth'), .ref mQtext, .int (zI mmany), .int (zI mcur), .int (zI mst), .int (zI mtok), .int (zI mval), .ref mQnow, .ref mQfresh, .ref mQwas, .int (zI macts'), .ref mQisKept, .ref mQkept, .ref mQheard, .ref mQnumber, .ref mQlowUp, .ref mQlowDown, .ref mQhighUp, .ref mQhighDown, .int (zI mlev'), .ref mQseen, .int (zI memp), .ref mQfirst], eA mQnow (cy 0) 11 mNow', eA mQwas (cy 0) 110 mWas', eA mQheard (cy 0) 11 mHeard', eA mQnumber (cy 0) 7 mNum', eA mQlowUp (cy 0) 7 mLU', eA mQlowDown (cy 0) 7 mLD', eA mQhighUp (cy 0) 7 mHU', eA mQhighDown (cy 0) 7 mHD'] (zI r) := by
  refine Met.ofW (cc := cX7_boxes) (maxL := 4) (ret := (some .int)) (by decide) rfl ?_
  intro p e s m args below meth c s₁ B hml hv
  obtain ⟨rfl, hsz, hP, hK, hD0⟩ := hv
  have hx := B.exec
  have hb := B.bytes
  have hr := B.returns
  have hts := atoms_spec (ws := wsX7_boxes) B.pre
  have hown : s.vm.findClass RX7 = some m.cls := findClass_of_methodNamed B.named
  have hlocks := B.notSynchronized
  subst hsz
  have hD := hD0.self (sz := s.heap.size)
  generalize hAe : va_A [eO mO 6 [.int (zI mth), .ref mQtext, .int (zI mmany), .int (zI mcur), .int (zI mst), .int (zI mtok), .int (zI mval), .ref mQnow, .ref mQfresh, .ref mQwas, .int (zI macts), .ref mQisKept, .ref mQkept, .ref mQheard, .ref mQnumber, .ref mQlowUp, .ref mQlowDown, .ref mQhighUp, .ref mQhighDown, .int (zI mlev), .ref mQseen, .int (zI memp), .ref mQfirst], eA mQnow (cy 0) 11 mNow, eA mQwas (cy 0) 110 mWas, eA mQheard (cy 0) 11 mHeard, eA mQnumber (cy 0) 7 mNum, eA mQlowUp (cy 0) 7 mLU, eA mQlowDown (cy 0) 7 mLD, eA mQhighUp (cy 0) 7 mHU, eA mQhighDown (cy 0) 7 mHD] s.heap.size = A at hD ⊢
  have hA : ∀ q : Nat, s.heap.size ≤ q → A q := fun q h => by rw [← hAe]; exact Or.inr h
  have hS : va_S A s.heap s.heap [] := va_S.rf
  have hl := lv_entry ([.ref mO, .int (zI p1), .int (zI p2), .int (zI p3)]) (n := 4) (Nat.le_of_ble_eq_true rfl)
  rw [lg_entry_eq]
  generalize (lg_sl ([.ref mO, .int (zI p1), .int (zI p2), .int (zI p3)]) ++ List.replicate (4 - (lg_sl ([.ref mO, .int (zI p1), .int (zI p2), .int (zI p3)])).length) Slot.unset).toArray = ls at hl ⊢
  have hl : lv_has ls 4 [(0, .ref mO), (1, .int (zI p1)), (2, .int (zI p2)), (3, .int (zI p3))] := hl
  have hf := zq_of hf
  unfold f_X7_boxes at hf
  refine lv_aload_n hx hb dX7_boxes_0 rfl (lv_at hl 0 rfl) ?_
  refine lv_iconst (v := zI 0) hx hb dX7_boxes_1 rfl ?_
  refine va_put (D := D) (ci := 6) (v := .int (zI 0)) (ty := .int) (C := RX7) (T := TX7) (N := 23) hx hb hts u_X7_boxes_X7 tyX7 tyX7_ok nmX7 hown hK.1 hP hD hS 0 rfl rfl 0 (by decide) (hts _ m_X7_boxes_1) (fun _ h9 => h9) rfl (tyX7_ok 0 (by decide)) rfl rfl (Nat.le_of_ble_eq_true rfl) dX7_boxes_2 (fun H locs hP hD hS => ?_)
  have hP : va_P D vwCl [eO mO 6 [.int (zI 0), .ref mQtext, .int (zI mmany), .int (zI mcur), .int (zI mst), .int (zI mtok), .int (zI mval), .ref mQnow, .ref mQfresh, .ref mQwas, .int (zI macts), .ref mQisKept, .ref mQkept, .ref mQheard, .ref mQnumber, .ref mQlowUp, .ref mQlowDown, .ref mQhighUp, .ref mQhighDown, .int (zI mlev), .ref mQseen, .int (zI memp), .ref mQfirst], eA mQnow (cy 0) 11 mNow, eA mQwas (cy 0) 110 mWas, eA mQheard (cy 0) 11 mHeard, eA mQnumber (cy 0) 7 mNum, eA mQlowUp (cy 0) 7 mLU, eA mQlowDown (cy 0) 7 mLD, eA mQhighUp (cy 0) 7 mHU, eA mQhighDown (cy 0) 7 mHD] H := hP
  have hD : va_D A [eO mO 6 [.int (zI 0), .ref mQtext, .int (zI mmany), .int (zI mcur), .int (zI mst), .int (zI mtok), .int (zI mval), .ref mQnow, .ref mQfresh, .ref mQwas, .int (zI macts), .ref mQisKept, .ref mQkept, .ref mQheard, .ref mQnumber, .ref mQlowUp, .ref mQlowDown, .ref mQhighUp, .ref mQhighDown, .int (zI mlev), .ref mQseen, .int (zI memp), .ref mQfirst], eA mQnow (cy 0) 11 mNow, eA mQwas (cy 0) 110 mWas, eA mQheard (cy 0) 11 mHeard, eA mQnumber (cy 0) 7 mNum, eA mQlowUp (cy 0) 7 mLU, eA mQlowDown (cy 0) 7 mLD, eA mQhighUp (cy 0) 7 mHU, eA mQhighDown (cy 0) 7 mHD] := hD
  refine lv_iload_n hx hb dX7_boxes_5 rfl (lv_at hl 1 rfl) ?_
  obtain ⟨hg, hf⟩ := zq_gd hf
  refine lv_i2l (v := zL p1) hx hb dX7_boxes_6 (zL_i hg) ?_
  refine lv_ldc2 (v := zL 10) hx hb hown (hts _ m_X7_boxes_2) dX7_boxes_7 ?_
  refine lv_ldc2 (v := zL 999) hx hb hown (hts _ m_X7_boxes_3) dX7_boxes_10 ?_
  obtain ⟨r13, hc13, hf⟩ := zq_bind hf
  refine zcallSi (wr := [eO mO 6 [.int (zI 0), .ref mQtext, .int (zI mmany), .int (zI mcur), .int (zI mst), .int (zI mtok), .int (zI mval), .ref mQnow, .ref mQfresh, .ref mQwas, .int (zI macts), .ref mQisKept, .ref mQkept, .ref mQheard, .ref mQnumber, .ref mQlowUp, .ref mQlowDown, .ref mQhighUp, .ref mQhighDown, .int (zI mlev), .ref mQseen, .int (zI memp), .ref mQfirst], eA mQnow (cy 0) 11 mNow, eA mQwas (cy 0) 110 mWas, eA mQheard (cy 0) 11 mHeard, eA mQnumber (cy 0) 7 mNum, eA mQlowUp (cy 0) 7 mLU, eA mQlowDown (cy 0) 7 mLD, eA mQhighUp (cy 0) 7 mHU, eA mQhighDown (cy 0) 7 mHD]) (rest := []) ⟨hx, hb, hml, hown, hts⟩ (c_X7_in l D cy H.size p1 10 999 hc13) (va_cwS 3 hts gX7_boxes_X7_in rfl rfl rfl (by decide +kernel) ⟨Nat.le_of_ble_eq_true rfl, Nat.le_of_ble_eq_true rfl⟩) hK hP hD hS hA [] [0, 1, 2, 3, 4, 5, 6, 7, 8] rfl rfl rfl rfl (by decide) rfl hl.1 rfl (Nat.le_of_ble_eq_true rfl) dX7_boxes_13 ⟨Nat.zero_le _, Nat.zero_le _⟩ (fun H locs hP hD hS => ?_)
  have hP : va_P D vwCl [eO mO 6 [.int (zI 0), .ref mQtext, .int (zI mmany), .int (zI mcur), .int (zI mst), .int (zI mtok), .int (zI mval), .ref mQnow, .ref mQfresh, .ref mQwas, .int (zI macts), .ref mQisKept, .ref mQkept, .ref mQheard, .ref mQnumber, .ref mQlowUp, .ref mQlowDown, .ref mQhighUp, .ref mQhighDown, .int (zI mlev), .ref mQseen, .int (zI memp), .ref mQfirst], eA mQnow (cy 0) 11 mNow, eA mQwas (cy 0) 110 mWas, eA mQheard (cy 0) 11 mHeard, eA mQnumber (cy 0) 7 mNum, eA mQlowUp (cy 0) 7 mLU, eA mQlowDown (cy 0) 7 mLD, eA mQhighUp (cy 0) 7 mHU, eA mQhighDown (cy 0) 7 mHD] H := hP.sub [0, 1, 2, 3, 4, 5, 6, 7, 8] rfl
  have hD : va_D A [eO mO 6 [.int (zI 0), .ref mQtext, .int (zI mmany), .int (zI mcur), .int (zI mst), .int (zI mtok), .int (zI mval), .ref mQnow, .ref mQfresh, .ref mQwas, .int (zI macts), .ref mQisKept, .ref mQkept, .ref mQheard, .ref mQnumber, .ref mQlowUp, .ref mQlowDown, .ref mQhighUp, .ref mQhighDown, .int (zI mlev), .ref mQseen, .int (zI memp), .ref mQfirst], eA mQnow (cy 0) 11 mNow, eA mQwas (cy 0) 110 mWas, eA mQheard (cy 0) 11 mHeard, eA mQnumber (cy 0) 7 mNum, eA mQlowUp (cy 0) 7 mLU, eA mQlowDown (cy 0) 7 mLD, eA mQhighUp (cy 0) 7 mHU, eA mQhighDown (cy 0) 7 mHD] := hD.sub [0, 1, 2, 3, 4, 5, 6, 7, 8] rfl rfl
  refine zz_if_eq (tgt := 51) hx hb dX7_boxes_16 (by decide) hf (fun hc hf => ?_) (fun hc hf => ?_)
  · refine lv_iconst (v := zI (-1)) hx hb dX7_boxes_51 rfl ?_
    have hf := zq_some hf
    cases hf
    exact W.iret hx hb hr (fun t ht hW => ⟨⟨_, (), rfl, rfl, by rw [ht]; exact hP, hD⟩, hS.F ht⟩) hS.2.2 dX7_boxes_52
  · refine lv_iload_n hx hb dX7_boxes_19 rfl (lv_at hl 2 rfl) ?_
    obtain ⟨hg, hf⟩ := zq_gd hf
    refine lv_i2l (v := zL p2) hx hb dX7_boxes_20 (zL_i hg) ?_
    refine lv_iload_n hx hb dX7_boxes_21 rfl (lv_at hl 1 rfl) ?_
    obtain ⟨hg, hf⟩ := zq_gd hf
    refine lv_i2l (v := zL p1) hx hb dX7_boxes_22 (zL_i hg) ?_
    refine lv_ldc2 (v := zL 999) hx hb hown (hts _ m_X7_boxes_3) dX7_boxes_23 ?_
    obtain ⟨r26, hc26, hf⟩ := zq_bind hf
    refine zcallSi (wr := [eO mO 6 [.int (zI 0), .ref mQtext, .int (zI mmany), .int (zI mcur), .int (zI mst), .int (zI mtok), .int (zI mval), .ref mQnow, .ref mQfresh, .ref mQwas, .int (zI macts), .ref mQisKept, .ref mQkept, .ref mQheard, .ref mQnumber, .ref mQlowUp, .ref mQlowDown, .ref mQhighUp, .ref mQhighDown, .int (zI mlev), .ref mQseen, .int (zI memp), .ref mQfirst], eA mQnow (cy 0) 11 mNow, eA mQwas (cy 0) 110 mWas, eA mQheard (cy 0) 11 mHeard, eA mQnumber (cy 0) 7 mNum, eA mQlowUp (cy 0) 7 mLU, eA mQlowDown (cy 0) 7 mLD, eA mQhighUp (cy 0) 7 mHU, eA mQhighDown (cy 0) 7 mHD]) (rest := []) ⟨hx, hb, hml, hown, hts⟩ (c_X7_in l D cy H.size p2 p1 999 hc26) (va_cwS 3 hts gX7_boxes_X7_in rfl rfl rfl (by decide +kernel) ⟨Nat.le_of_ble_eq_true rfl, Nat.le_of_ble_eq_true rfl⟩) hK hP hD hS hA [] [0, 1, 2, 3, 4, 5, 6, 7, 8] rfl rfl rfl rfl (by decide) rfl hl.1 rfl (Nat.le_of_ble_eq_true rfl) dX7_boxes_26 ⟨Nat.zero_le _, Nat.zero_le _⟩ (fun H locs hP hD hS => ?_)
    have hP : va_P D vwCl [eO mO 6 [.int (zI 0), .ref mQtext, .int (zI mmany), .int (zI mcur), .int (zI mst), .int (zI mtok), .int (zI mval), .ref mQnow, .ref mQfresh, .ref mQwas, .int (zI macts), .ref mQisKept, .ref mQkept, .ref mQheard, .ref mQnumber, .ref mQlowUp, .ref mQlowDown, .ref mQhighUp, .ref mQhighDown, .int (zI mlev), .ref mQseen, .int (zI memp), .ref mQfirst], eA mQnow (cy 0) 11 mNow, eA mQwas (cy 0) 110 mWas, eA mQheard (cy 0) 11 mHeard, eA mQnumber (cy 0) 7 mNum, eA mQlowUp (cy 0) 7 mLU, eA mQlowDown (cy 0) 7 mLD, eA mQhighUp (cy 0) 7 mHU, eA mQhighDown (cy 0) 7 mHD] H := hP.sub [0, 1, 2, 3, 4, 5, 6, 7, 8] rfl
    have hD : va_D A [eO mO 6 [.int (zI 0), .ref mQtext, .int (zI mmany), .int (zI mcur), .int (zI mst), .int (zI mtok), .int (zI mval), .ref mQnow, .ref mQfresh, .ref mQwas, .int (zI macts), .ref mQisKept, .ref mQkept, .ref mQheard, .ref mQnumber, .ref mQlowUp, .ref mQlowDown, .ref mQhighUp, .ref mQhighDown, .int (zI mlev), .ref mQseen, .int (zI memp), .ref mQfirst], eA mQnow (cy 0) 11 mNow, eA mQwas (cy 0) 110 mWas, eA mQheard (cy 0) 11 mHeard, eA mQnumber (cy 0) 7 mNum, eA mQlowUp (cy 0) 7 mLU, eA mQlowDown (cy 0) 7 mLD, eA mQhighUp (cy 0) 7 mHU, eA mQhighDown (cy 0) 7 mHD] := hD.sub [0, 1, 2, 3, 4, 5, 6, 7, 8] rfl rfl
    refine zz_if_eq (tgt := 51) hx hb dX7_boxes_29 (by decide) hf (fun hc hf => ?_) (fun hc hf => ?_)
    · refine lv_iconst (v := zI (-1)) hx hb dX7_boxes_51 rfl ?_
      have hf := zq_some hf
      cases hf
      exact W.iret hx hb hr (fun t ht hW => ⟨⟨_, (), rfl, rfl, by rw [ht]; exact hP, hD⟩, hS.F ht⟩) hS.2.2 dX7_boxes_52
    · refine lv_iload_n hx hb dX7_boxes_32 rfl (lv_at hl 3 rfl) ?_
      obtain ⟨hg, hf⟩ := zq_gd hf
      refine lv_i2l (v := zL p3) hx hb dX7_boxes_33 (zL_i hg) ?_
      refine lv_lconst (v := zL 0) hx hb dX7_boxes_34 (by decide) ?_
      refine lv_ldc2 (v := zL 99) hx hb hown (hts _ m_X7_boxes_4) dX7_boxes_35 ?_
      obtain ⟨r38, hc38, hf⟩ := zq_bind hf
      refine zcallSi (wr := [eO mO 6 [.int (zI 0), .ref mQtext, .int (zI mmany), .int (zI mcur), .int (zI mst), .int (zI mtok), .int (zI mval), .ref mQnow, .ref mQfresh, .ref mQwas, .int (zI macts), .ref mQisKept, .ref mQkept, .ref mQheard, .ref mQnumber, .ref mQlowUp, .ref mQlowDown, .ref mQhighUp, .ref mQhighDown, .int (zI mlev), .ref mQseen, .int (zI memp), .ref mQfirst], eA mQnow (cy 0) 11 mNow, eA mQwas (cy 0) 110 mWas, eA mQheard (cy 0) 11 mHeard, eA mQnumber (cy 0) 7 mNum, eA mQlowUp (cy 0) 7 mLU, eA mQlowDown (cy 0) 7 mLD, eA mQhighUp (cy 0) 7 mHU, eA mQhighDown (cy 0) 7 mHD]) (rest := []) ⟨hx, hb, hml, hown, hts⟩ (c_X7_in l D cy H.size p3 0 99 hc38) (va_cwS 3 hts gX7_boxes_X7_in rfl rfl rfl (by decide +kernel) ⟨Nat.le_of_ble_eq_true rfl, Nat.le_of_ble_eq_true rfl⟩) hK hP hD hS hA [] [0, 1, 2, 3, 4, 5, 6, 7, 8] rfl rfl rfl rfl (by decide) rfl hl.1 rfl (Nat.le_of_ble_eq_true rfl) dX7_boxes_38 ⟨Nat.zero_le _, Nat.zero_le _⟩ (fun H locs hP hD hS => ?_)
      have hP : va_P D vwCl [eO mO 6 [.int (zI 0), .ref mQtext, .int (zI mmany), .int (zI mcur), .int (zI mst), .int (zI mtok), .int (zI mval), .ref mQnow, .ref mQfresh, .ref mQwas, .int (zI macts), .ref mQisKept, .ref mQkept, .ref mQheard, .ref mQnumber, .ref mQlowUp, .ref mQlowDown, .ref mQhighUp, .ref mQhighDown, .int (zI mlev), .ref mQseen, .int (zI memp), .ref mQfirst], eA mQnow (cy 0) 11 mNow, eA mQwas (cy 0) 110 mWas, eA mQheard (cy 0) 11 mHeard, eA mQnumber (cy 0) 7 mNum, eA mQlowUp (cy 0) 7 mLU, eA mQlowDown (cy 0) 7 mLD, eA mQhighUp (cy 0) 7 mHU, eA mQhighDown (cy 0) 7 mHD] H := hP.sub [0, 1, 2, 3, 4, 5, 6, 7, 8] rfl
      have hD : va_D A [eO mO 6 [.int (zI 0), .ref mQtext, .int (zI mmany), .int (zI mcur), .int (zI mst), .int (zI mtok), .int (zI mval), .ref mQnow, .ref mQfresh, .ref mQwas, .int (zI macts), .ref mQisKept, .ref mQkept, .ref mQheard, .ref mQnumber, .ref mQlowUp, .ref mQlowDown, .ref mQhighUp, .ref mQhighDown, .int (zI mlev), .ref mQseen, .int (zI memp), .ref mQfirst], eA mQnow (cy 0) 11 mNow, eA mQwas (cy 0) 110 mWas, eA mQheard (cy 0) 11 mHeard, eA mQnumber (cy 0) 7 mNum, eA mQlowUp (cy 0) 7 mLU, eA mQlowDown (cy 0) 7 mLD, eA mQhighUp (cy 0) 7 mHU, eA mQhighDown (cy 0) 7 mHD] := hD.sub [0, 1, 2, 3, 4, 5, 6, 7, 8] rfl rfl
      refine zz_if_eq (tgt := 51) hx hb dX7_boxes_41 (by decide) hf (fun hc hf => ?_) (fun hc hf => ?_)
      · refine lv_iconst (v := zI (-1)) hx hb dX7_boxes_51 rfl ?_
        have hf := zq_some hf
        cases hf
        exact W.iret hx hb hr (fun t ht hW => ⟨⟨_, (), rfl, rfl, by rw [ht]; exact hP, hD⟩, hS.F ht⟩) hS.2.2 dX7_boxes_52
      · refine lv_iconst (v := zI 4) hx hb dX7_boxes_44 rfl ?_
        refine lv_iload_n hx hb dX7_boxes_45 rfl (lv_at hl 3 rfl) ?_
        refine zz_imul hx hb dX7_boxes_46 ?_
        refine lv_iload_n hx hb dX7_boxes_47 rfl (lv_at hl 1 rfl) ?_
        refine zz_icmp_lt (tgt := 53) hx hb dX7_boxes_48 (by decide) hf (fun hc hf => ?_) (fun hc hf => ?_)
        · refine lv_aload_n hx hb dX7_boxes_53 rfl (lv_at hl 0 rfl) ?_
          obtain ⟨⟨macts_54, mWas_54⟩, hc54, hf⟩ := zq_bind hf
          refine zcallVv (wr := [eA mQheard (cy 0) 11 mHeard, eA mQnumber (cy 0) 7 mNum, eA mQlowUp (cy 0) 7 mLU, eA mQlowDown (cy 0) 7 mLD, eA mQhighUp (cy 0) 7 mHU, eA mQhighDown (cy 0) 7 mHD]) (rest := []) ⟨hx, hb, hml, hown, hts⟩ (c_X7_keepAct l D cy mO mQtext mQnow mQfresh mQwas mQisKept mQkept mQheard mQnumber mQlowUp mQlowDown mQhighUp mQhighDown mQseen mQfirst H.size 0 mmany mcur mst mtok mval macts mlev memp mNow mWas hc54) (cwV 0 hts gX7_boxes_X7_keepAct rfl rfl rfl (by decide +kernel) ⟨Nat.le_of_ble_eq_true rfl, Nat.le_of_ble_eq_true rfl⟩) hK hP hD hS hA [0, 1, 2] [3, 4, 5, 6, 7, 8] rfl rfl rfl rfl (by decide) (va_recv hK.1 hP (ci := 6) (q0 := 0) rfl rfl) rfl hl.1 rfl (Nat.le_of_ble_eq_true rfl) dX7_boxes_54 ⟨Nat.zero_le _, Nat.zero_le _⟩ (fun H locs hP hD hS => ?_)
          have hP : va_P D vwCl [eO mO 6 [.int (zI 0), .ref mQtext, .int (zI mmany), .int (zI mcur), .int (zI mst), .int (zI mtok), .int (zI mval), .ref mQnow, .ref mQfresh, .ref mQwas, .int (zI macts_54), .ref mQisKept, .ref mQkept, .ref mQheard, .ref mQnumber, .ref mQlowUp, .ref mQlowDown, .ref mQhighUp, .ref mQhighDown, .int (zI mlev), .ref mQseen, .int (zI memp), .ref mQfirst], eA mQnow (cy 0) 11 mNow, eA mQwas (cy 0) 110 mWas_54, eA mQheard (cy 0) 11 mHeard, eA mQnumber (cy 0) 7 mNum, eA mQlowUp (cy 0) 7 mLU, eA mQlowDown (cy 0) 7 mLD, eA mQhighUp (cy 0) 7 mHU, eA mQhighDown (cy 0) 7 mHD] H := hP.sub [6, 7, 8, 0, 1, 2, 3, 4, 5] rfl
          have hD : va_D A [eO mO 6 [.int (zI 0), .ref mQtext, .int (zI mmany), .int (zI mcur), .int (zI mst), .int (zI mtok), .int (zI mval), .ref mQnow, .ref mQfresh, .ref mQwas, .int (zI macts_54), .ref mQisKept, .ref mQkept, .ref mQheard, .ref mQnumber, .ref mQlowUp, .ref mQlowDown, .ref mQhighUp, .ref mQhighDown, .int (zI mlev), .ref mQseen, .int (zI memp), .ref mQfirst], eA mQnow (cy 0) 11 mNow, eA mQwas (cy 0) 110 mWas_54, eA mQheard (cy 0) 11 mHeard, eA mQnumber (cy 0) 7 mNum, eA mQlowUp (cy 0) 7 mLU, eA mQlowDown (cy 0) 7 mLD, eA mQhighUp (cy 0) 7 mHU, eA mQhighDown (cy 0) 7 mHD] := hD.sub [6, 7, 8, 0, 1, 2, 3, 4, 5] rfl rfl
          refine lv_aload_n hx hb dX7_boxes_57 rfl (lv_at hl 0 rfl) ?_
          refine va_get (D := D) (ci := 6) (v := .ref mQnow) (C := RX7) (T := TX7) (N := 23) hx hb hts u_X7_boxes_X7 hown hK.1 hP 0 rfl rfl 7 (by decide) (hts _ m_X7_boxes_5) (fun _ h9 => h9) rfl dX7_boxes_58 ?_
          refine lv_iconst (v := zI 1) hx hb dX7_boxes_61 rfl ?_
          refine lv_iload_n hx hb dX7_boxes_62 rfl (lv_at hl 1 rfl) ?_
          refine zz_iast (i := 1) hx hb hK hP hD hS 1 rfl (Nat.le_of_ble_eq_true rfl) (by decide) dX7_boxes_63 (fun H locs hP hD hS => ?_)
          have hP : va_P D vwCl [eO mO 6 [.int (zI 0), .ref mQtext, .int (zI mmany), .int (zI mcur), .int (zI mst), .int (zI mtok), .int (zI mval), .ref mQnow, .ref mQfresh, .ref mQwas, .int (zI macts_54), .ref mQisKept, .ref mQkept, .ref mQheard, .ref mQnumber, .ref mQlowUp, .ref mQlowDown, .ref mQhighUp, .ref mQhighDown, .int (zI mlev), .ref mQseen, .int (zI memp), .ref mQfirst], eA mQnow (cy 0) 11 (zup mNow 1 p1), eA mQwas (cy 0) 110 mWas_54, eA mQheard (cy 0) 11 mHeard, eA mQnumber (cy 0) 7 mNum, eA mQlowUp (cy 0) 7 mLU, eA mQlowDown (cy 0) 7 mLD, eA mQhighUp (cy 0) 7 mHU, eA mQhighDown (cy 0) 7 mHD] H := hP
          have hD : va_D A [eO mO 6 [.int (zI 0), .ref mQtext, .int (zI mmany), .int (zI mcur), .int (zI mst), .int (zI mtok), .int (zI mval), .ref mQnow, .ref mQfresh, .ref mQwas, .int (zI macts_54), .ref mQisKept, .ref mQkept, .ref mQheard, .ref mQnumber, .ref mQlowUp, .ref mQlowDown, .ref mQhighUp, .ref mQhighDown, .int (zI mlev), .ref mQseen, .int (zI memp), .ref mQfirst], eA mQnow (cy 0) 11 (zup mNow 1 p1), eA mQwas (cy 0) 110 mWas_54, eA mQheard (cy 0) 11 mHeard, eA mQnumber (cy 0) 7 mNum, eA mQlowUp (cy 0) 7 mLU, eA mQlowDown (cy 0) 7 mLD, eA mQhighUp (cy 0) 7 mHU, eA mQhighDown (cy 0) 7 mHD] := hD
          refine lv_aload_n hx hb dX7_boxes_64 rfl (lv_at hl 0 rfl) ?_
          refine va_get (D := D) (ci := 6) (v := .ref mQnow) (C := RX7) (T := TX7) (N := 23) hx hb hts u_X7_boxes_X7 hown hK.1 hP 0 rfl rfl 7 (by decide) (hts _ m_X7_boxes_5) (fun _ h9 => h9) rfl dX7_boxes_65 ?_
          refine lv_iconst (v := zI 2) hx hb dX7_boxes_68 rfl ?_
          refine lv_iload_n hx hb dX7_boxes_69 rfl (lv_at hl 2 rfl) ?_
          refine zz_iast (i := 2) hx hb hK hP hD hS 1 rfl (Nat.le_of_ble_eq_true rfl) (by decide) dX7_boxes_70 (fun H locs hP hD hS => ?_)
          have hP : va_P D vwCl [eO mO 6 [.int (zI 0), .ref mQtext, .int (zI mmany), .int (zI mcur), .int (zI mst), .int (zI mtok), .int (zI mval), .ref mQnow, .ref mQfresh, .ref mQwas, .int (zI macts_54), .ref mQisKept, .ref mQkept, .ref mQheard, .ref mQnumber, .ref mQlowUp, .ref mQlowDown, .ref mQhighUp, .ref mQhighDown, .int (zI mlev), .ref mQseen, .int (zI memp), .ref mQfirst], eA mQnow (cy 0) 11 (zup (zup mNow 1 p1) 2 p2), eA mQwas (cy 0) 110 mWas_54, eA mQheard (cy 0) 11 mHeard, eA mQnumber (cy 0) 7 mNum, eA mQlowUp (cy 0) 7 mLU, eA mQlowDown (cy 0) 7 mLD, eA mQhighUp (cy 0) 7 mHU, eA mQhighDown (cy 0) 7 mHD] H := hP
          have hD : va_D A [eO mO 6 [.int (zI 0), .ref mQtext, .int (zI mmany), .int (zI mcur), .int (zI mst), .int (zI mtok), .int (zI mval), .ref mQnow, .ref mQfresh, .ref mQwas, .int (zI macts_54), .ref mQisKept, .ref mQkept, .ref mQheard, .ref mQnumber, .ref mQlowUp, .ref mQlowDown, .ref mQhighUp, .ref mQhighDown, .int (zI mlev), .ref mQseen, .int (zI memp), .ref mQfirst], eA mQnow (cy 0) 11 (zup (zup mNow 1 p1) 2 p2), eA mQwas (cy 0) 110 mWas_54, eA mQheard (cy 0) 11 mHeard, eA mQnumber (cy 0) 7 mNum, eA mQlowUp (cy 0) 7 mLU, eA mQlowDown (cy 0) 7 mLD, eA mQhighUp (cy 0) 7 mHU, eA mQhighDown (cy 0) 7 mHD] := hD
          refine lv_aload_n hx hb dX7_boxes_71 rfl (lv_at hl 0 rfl) ?_
          refine va_get (D := D) (ci := 6) (v := .ref mQnow) (C := RX7) (T := TX7) (N := 23) hx hb hts u_X7_boxes_X7 hown hK.1 hP 0 rfl rfl 7 (by decide) (hts _ m_X7_boxes_5) (fun _ h9 => h9) rfl dX7_boxes_72 ?_
          refine lv_iconst (v := zI 3) hx hb dX7_boxes_75 rfl ?_
          refine lv_iload_n hx hb dX7_boxes_76 rfl (lv_at hl 3 rfl) ?_
          refine zz_iast (i := 3) hx hb hK hP hD hS 1 rfl (Nat.le_of_ble_eq_true rfl) (by decide) dX7_boxes_77 (fun H locs hP hD hS => ?_)
          have hP : va_P D vwCl [eO mO 6 [.int (zI 0), .ref mQtext, .int (zI mmany), .int (zI mcur), .int (zI mst), .int (zI mtok), .int (zI mval), .ref mQnow, .ref mQfresh, .ref mQwas, .int (zI macts_54), .ref mQisKept, .ref mQkept, .ref mQheard, .ref mQnumber, .ref mQlowUp, .ref mQlowDown, .ref mQhighUp, .ref mQhighDown, .int (zI mlev), .ref mQseen, .int (zI memp), .ref mQfirst], eA mQnow (cy 0) 11 (zup (zup (zup mNow 1 p1) 2 p2) 3 p3), eA mQwas (cy 0) 110 mWas_54, eA mQheard (cy 0) 11 mHeard, eA mQnumber (cy 0) 7 mNum, eA mQlowUp (cy 0) 7 mLU, eA mQlowDown (cy 0) 7 mLD, eA mQhighUp (cy 0) 7 mHU, eA mQhighDown (cy 0) 7 mHD] H := hP
          have hD : va_D A [eO mO 6 [.int (zI 0), .ref mQtext, .int (zI mmany), .int (zI mcur), .int (zI mst), .int (zI mtok), .int (zI mval), .ref mQnow, .ref mQfresh, .ref mQwas, .int (zI macts_54), .ref mQisKept, .ref mQkept, .ref mQheard, .ref mQnumber, .ref mQlowUp, .ref mQlowDown, .ref mQhighUp, .ref mQhighDown, .int (zI mlev), .ref mQseen, .int (zI memp), .ref mQfirst], eA mQnow (cy 0) 11 (zup (zup (zup mNow 1 p1) 2 p2) 3 p3), eA mQwas (cy 0) 110 mWas_54, eA mQheard (cy 0) 11 mHeard, eA mQnumber (cy 0) 7 mNum, eA mQlowUp (cy 0) 7 mLU, eA mQlowDown (cy 0) 7 mLD, eA mQhighUp (cy 0) 7 mHU, eA mQhighDown (cy 0) 7 mHD] := hD
          refine lv_aload_n hx hb dX7_boxes_78 rfl (lv_at hl 0 rfl) ?_
          refine lv_aload_n hx hb dX7_boxes_79 rfl (lv_at hl 0 rfl) ?_
          refine va_get (D := D) (ci := 6) (v := .ref mQnow) (C := RX7) (T := TX7) (N := 23) hx hb hts u_X7_boxes_X7 hown hK.1 hP 0 rfl rfl 7 (by decide) (hts _ m_X7_boxes_5) (fun _ h9 => h9) rfl dX7_boxes_80 ?_
          obtain ⟨⟨r83, mlev_83, mHeard_83, mNum_83, mLU_83, mLD_83, mHU_83, mHD_83⟩, hc83, hf⟩ := zq_bind hf
          refine zcallVi (wr := [eA mQwas (cy 0) 110 mWas_54]) (rest := []) ⟨hx, hb, hml, hown, hts⟩ (c_X7_standing_n l D cy mO mQtext mQnow mQfresh mQwas mQisKept mQkept mQheard mQnumber mQlowUp mQlowDown mQhighUp mQhighDown mQseen mQfirst H.size 0 mmany mcur mst mtok mval macts_54 mlev memp (zup (zup (zup mNow 1 p1) 2 p2) 3 p3) mHeard mNum mLU mLD mHU mHD hc83) (cwV 1 hts gX7_boxes_X7_standing rfl rfl rfl (by decide +kernel) ⟨Nat.le_of_ble_eq_true rfl, Nat.le_of_ble_eq_true rfl⟩) hK hP hD hS hA [0, 1, 3, 4, 5, 6, 7, 8] [2] rfl rfl rfl rfl (by decide) (va_recv hK.1 hP (ci := 6) (q0 := 0) rfl rfl) rfl hl.1 rfl (Nat.le_of_ble_eq_true rfl) dX7_boxes_83 ⟨Nat.zero_le _, Nat.zero_le _⟩ (fun H locs hP hD hS => ?_)
          have hP : va_P D vwCl [eO mO 6 [.int (zI 0), .ref mQtext, .int (zI mmany), .int (zI mcur), .int (zI mst), .int (zI mtok), .int (zI mval), .ref mQnow, .ref mQfresh, .ref mQwas, .int (zI macts_54), .ref mQisKept, .ref mQkept, .ref mQheard, .ref mQnumber, .ref mQlowUp, .ref mQlowDown, .ref mQhighUp, .ref mQhighDown, .int (zI mlev_83), .ref mQseen, .int (zI memp), .ref mQfirst], eA mQnow (cy 0) 11 (zup (zup (zup mNow 1 p1) 2 p2) 3 p3), eA mQwas (cy 0) 110 mWas_54, eA mQheard (cy 0) 11 mHeard_83, eA mQnumber (cy 0) 7 mNum_83, eA mQlowUp (cy 0) 7 mLU_83, eA mQlowDown (cy 0) 7 mLD_83, eA mQhighUp (cy 0) 7 mHU_83, eA mQhighDown (cy 0) 7 mHD_83] H := hP.sub [1, 2, 0, 3, 4, 5, 6, 7, 8] rfl
          have hD : va_D A [eO mO 6 [.int (zI 0), .ref mQtext, .int (zI mmany), .int (zI mcur), .int (zI mst), .int (zI mtok), .int (zI mval), .ref mQnow, .ref mQfresh, .ref mQwas, .int (zI macts_54), .ref mQisKept, .ref mQkept, .ref mQheard, .ref mQnumber, .ref mQlowUp, .ref mQlowDown, .ref mQhighUp, .ref mQhighDown, .int (zI mlev_83), .ref mQseen, .int (zI memp), .ref mQfirst], eA mQnow (cy 0) 11 (zup (zup (zup mNow 1 p1) 2 p2) 3 p3), eA mQwas (cy 0) 110 mWas_54, eA mQheard (cy 0) 11 mHeard_83, eA mQnumber (cy 0) 7 mNum_83, eA mQlowUp (cy 0) 7 mLU_83, eA mQlowDown (cy 0) 7 mLD_83, eA mQhighUp (cy 0) 7 mHU_83, eA mQhighDown (cy 0) 7 mHD_83] := hD.sub [1, 2, 0, 3, 4, 5, 6, 7, 8] rfl rfl
          have hf := zq_some hf
          cases hf
          exact W.iret hx hb hr (fun t ht hW => ⟨⟨_, (), rfl, rfl, by rw [ht]; exact hP, hD⟩, hS.F ht⟩) hS.2.2 dX7_boxes_86
        · refine lv_iconst (v := zI (-1)) hx hb dX7_boxes_51 rfl ?_
          have hf := zq_some hf
          cases hf
          exact W.iret hx hb hr (fun t ht hW => ⟨⟨_, (), rfl, rfl, by rw [ht]; exact hP, hD⟩, hS.F ht⟩) hS.2.2 dX7_boxes_52

noncomputable def st_X7_undo (mWas : Nat → Int) : (Int × Int × Int × (Nat → Int)) → Option ((Int × Int × Int × (Nat → Int)) ⊕ (Int × Int × Int × (Nat → Int))) := fun (x1, mth, macts, mNow) =>
  gd (zR x1 ∧ zR 11) <|
  if x1 < 11 then
    gd (zin ((11 * macts) + x1) 110) <|
    gd (zin x1 11) <|
    some (.inl ((x1 + 1), mth, macts, (zup mNow x1 (mWas (Int.toNat ((11 * macts) + x1))))))
  else
    some (.inr (macts, mth, macts, mNow))
noncomputable def f_X7_undo (macts : Int) (mNow : Nat → Int) (mWas : Nat → Int) : Option (Int × Int × Int × (Nat → Int)) :=
  gd (zR macts) <|
  if macts = 0 then
    some ((-2), 0, macts, mNow)
  else
    zev (st_X7_undo mWas) (0, 0, (macts - 1), mNow)
theorem m_X7_undo_1 : (.fieldLink RX7 1 "PulseTurnsModel" "thrown" "I" : Cond) ∈ wsX7_undo := List.mem_of_getElem? (i := 1) rfl
theorem m_X7_undo_2 : (.fieldLink RX7 116 "PulseTurnsModel" "acts" "I" : Cond) ∈ wsX7_undo := List.mem_of_getElem? (i := 2) rfl
theorem m_X7_undo_3 : (.fieldLink RX7 46 "PulseTurnsModel" "now" "[I" : Cond) ∈ wsX7_undo := List.mem_of_getElem? (i := 3) rfl
theorem m_X7_undo_4 : (.fieldLink RX7 52 "PulseTurnsModel" "was" "[I" : Cond) ∈ wsX7_undo := List.mem_of_getElem? (i := 4) rfl
theorem u_X7_undo_X7 : ∀ w ∈ wsX70, w ∈ wsX7_undo := fun w h => List.mem_cons_of_mem _ (List.mem_append_right _ h)
set_option maxRecDepth 100000 in
set_option maxHeartbeats 4000000 in
theorem c_X7_undo (l : Launch) (D : va_G) (cy : Nat → ClassId) (mO mQtext mQnow mQfresh mQwas mQisKept mQkept mQheard mQnumber mQlowUp mQlowDown mQhighUp mQhighDown mQseen mQfirst : Nat) (sz : Nat) (mth : Int) (mmany : Int) (mcur : Int) (mst : Int) (mtok : Int) (mval : Int) (macts : Int) (mlev : Int) (memp : Int) (mNow : Nat → Int) (mWas : Nat → Int) {r : Int} {mth' : Int} {macts' : Int} {mNow' : Nat → Int} (hf : f_X7_undo macts mNow mWas = some (r, mth', macts', mNow')) : zMi l yX7_undo wsX7_undo ({ frames := 0, cells := 0, slots := 0, locals := 0 }) D cy sz [.ref mO] [eO mO 6 [.int (zI mth), .ref mQtext, .int (zI mmany), .int (zI mcur), .int (zI mst), .int (zI mtok), .int (zI mval), .ref mQnow, .ref mQfresh, .ref mQwas, .int (zI macts), .ref mQisKept, .ref mQkept, .ref mQheard, .ref mQnumber, .ref mQlowUp, .ref mQlowDown, .ref mQhighUp, .ref mQhighDown, .int (zI mlev), .ref mQseen, .int (zI memp), .ref mQfirst], eA mQnow (cy 0) 11 mNow, eA mQwas (cy 0) 110 mWas] [eO mO 6 [.int (zI mth'), .ref mQtext, .int (zI mmany), .int (zI mcur), .int (zI mst), .int (zI mtok), .int (zI mval), .ref mQnow, .ref mQfresh, .ref mQwas, .int (zI macts'), .ref mQisKept, .ref mQkept, .ref mQheard, .ref mQnumber, .ref mQlowUp, .ref mQlowDown, .ref mQhighUp, .ref mQhighDown, .int (zI mlev), .ref mQseen, .int (zI memp), .ref mQfirst], eA mQnow (cy 0) 11 mNow', eA mQwas (cy 0) 110 mWas] (zI r) := by
  refine Met.ofW (cc := cX7_undo) (maxL := 2) (ret := (some .int)) (by decide) rfl ?_
  intro p e s m args below meth c s₁ B hml hv
  obtain ⟨rfl, hsz, hP, hK, hD0⟩ := hv
  have hx := B.exec
  have hb := B.bytes
  have hr := B.returns
  have hts := atoms_spec (ws := wsX7_undo) B.pre
  have hown : s.vm.findClass RX7 = some m.cls := findClass_of_methodNamed B.named
  have hlocks := B.notSynchronized
  subst hsz
  have hD := hD0.self (sz := s.heap.size)
  generalize hAe : va_A [eO mO 6 [.int (zI mth), .ref mQtext, .int (zI mmany), .int (zI mcur), .int (zI mst), .int (zI mtok), .int (zI mval), .ref mQnow, .ref mQfresh, .ref mQwas, .int (zI macts), .ref mQisKept, .ref mQkept, .ref mQheard, .ref mQnumber, .ref mQlowUp, .ref mQlowDown, .ref mQhighUp, .ref mQhighDown, .int (zI mlev), .ref mQseen, .int (zI memp), .ref mQfirst], eA mQnow (cy 0) 11 mNow, eA mQwas (cy 0) 110 mWas] s.heap.size = A at hD ⊢
  have hA : ∀ q : Nat, s.heap.size ≤ q → A q := fun q h => by rw [← hAe]; exact Or.inr h
  have hS : va_S A s.heap s.heap [] := va_S.rf
  have hl := lv_entry ([.ref mO]) (n := 2) (Nat.le_of_ble_eq_true rfl)
  rw [lg_entry_eq]
  generalize (lg_sl ([.ref mO]) ++ List.replicate (2 - (lg_sl ([.ref mO])).length) Slot.unset).toArray = ls at hl ⊢
  have hl : lv_has ls 2 [(0, .ref mO)] := hl
  have hf := zq_of hf
  have key := zloop (st := st_X7_undo mWas) (res := (r, mth', macts', mNow')) (K := fun (x1, mth, macts, mNow) => ∀ (H : Heap) (locs : List Loc) (ls : Array Slot), va_P D vwCl [eO mO 6 [.int (zI mth), .ref mQtext, .int (zI mmany), .int (zI mcur), .int (zI mst), .int (zI mtok), .int (zI mval), .ref mQnow, .ref mQfresh, .ref mQwas, .int (zI macts), .ref mQisKept, .ref mQkept, .ref mQheard, .ref mQnumber, .ref mQlowUp, .ref mQlowDown, .ref mQhighUp, .ref mQhighDown, .int (zI mlev), .ref mQseen, .int (zI memp), .ref mQfirst], eA mQnow (cy 0) 11 mNow, eA mQwas (cy 0) 110 mWas] H → va_D A [eO mO 6 [.int (zI mth), .ref mQtext, .int (zI mmany), .int (zI mcur), .int (zI mst), .int (zI mtok), .int (zI mval), .ref mQnow, .ref mQfresh, .ref mQwas, .int (zI macts), .ref mQisKept, .ref mQkept, .ref mQheard, .ref mQnumber, .ref mQlowUp, .ref mQlowDown, .ref mQhighUp, .ref mQhighDown, .int (zI mlev), .ref mQseen, .int (zI memp), .ref mQfirst], eA mQnow (cy 0) 11 mNow, eA mQwas (cy 0) 110 mWas] → va_S A s.heap H locs → lv_has ls 2 [(0, .ref mO), (1, .int (zI x1))] → zGi p l e wsX7_undo ({ frames := 0, cells := 0, slots := 0, locals := 0 }) s m [.ref mO] below meth c A D [eO mO 6 [.int (zI mth'), .ref mQtext, .int (zI mmany), .int (zI mcur), .int (zI mst), .int (zI mtok), .int (zI mval), .ref mQnow, .ref mQfresh, .ref mQwas, .int (zI macts'), .ref mQisKept, .ref mQkept, .ref mQheard, .ref mQnumber, .ref mQlowUp, .ref mQlowDown, .ref mQhighUp, .ref mQhighDown, .int (zI mlev), .ref mQseen, .int (zI memp), .ref mQfirst], eA mQnow (cy 0) 11 mNow', eA mQwas (cy 0) 110 mWas] (zI r) H locs (F0 m 27 ls [])) (by
    rintro ⟨x1, mth, macts, mNow⟩ hf
    intro H locs ls hP hD hS hl
    unfold st_X7_undo at hf
    try dsimp only at hf
    refine lv_iload_n hx hb dX7_undo_27 rfl (lv_at hl 1 rfl) ?_
    refine lv_bipush (v := zI 11) hx hb dX7_undo_28 (by decide) ?_
    refine zz_icmp_ge (tgt := 59) hx hb dX7_undo_30 (by decide) hf (fun hc hf => ?_) (fun hc hf => ?_)
    · refine lv_aload_n hx hb dX7_undo_33 rfl (lv_at hl 0 rfl) ?_
      refine va_get (D := D) (ci := 6) (v := .ref mQnow) (C := RX7) (T := TX7) (N := 23) hx hb hts u_X7_undo_X7 hown hK.1 hP 0 rfl rfl 7 (by decide) (hts _ m_X7_undo_3) (fun _ h9 => h9) rfl dX7_undo_34 ?_
      refine lv_iload_n hx hb dX7_undo_37 rfl (lv_at hl 1 rfl) ?_
      refine lv_aload_n hx hb dX7_undo_38 rfl (lv_at hl 0 rfl) ?_
      refine va_get (D := D) (ci := 6) (v := .ref mQwas) (C := RX7) (T := TX7) (N := 23) hx hb hts u_X7_undo_X7 hown hK.1 hP 0 rfl rfl 9 (by decide) (hts _ m_X7_undo_4) (fun _ h9 => h9) rfl dX7_undo_39 ?_
      refine lv_bipush (v := zI 11) hx hb dX7_undo_42 (by decide) ?_
      refine lv_aload_n hx hb dX7_undo_44 rfl (lv_at hl 0 rfl) ?_
      refine va_get (D := D) (ci := 6) (v := .int (zI macts)) (C := RX7) (T := TX7) (N := 23) hx hb hts u_X7_undo_X7 hown hK.1 hP 0 rfl rfl 10 (by decide) (hts _ m_X7_undo_2) (fun _ h9 => h9) rfl dX7_undo_45 ?_
      refine zz_imul hx hb dX7_undo_48 ?_
      refine lv_iload_n hx hb dX7_undo_49 rfl (lv_at hl 1 rfl) ?_
      refine zz_iadd hx hb dX7_undo_50 ?_
      obtain ⟨hg, hf⟩ := zq_gd hf
      refine zz_iald (i := ((11 * macts) + x1)) hx hb hK hP 2 rfl (Nat.le_of_ble_eq_true rfl) hg dX7_undo_51 ?_
      obtain ⟨hg, hf⟩ := zq_gd hf
      refine zz_iast (i := x1) hx hb hK hP hD hS 1 rfl (Nat.le_of_ble_eq_true rfl) hg dX7_undo_52 (fun H locs hP hD hS => ?_)
      have hP : va_P D vwCl [eO mO 6 [.int (zI mth), .ref mQtext, .int (zI mmany), .int (zI mcur), .int (zI mst), .int (zI mtok), .int (zI mval), .ref mQnow, .ref mQfresh, .ref mQwas, .int (zI macts), .ref mQisKept, .ref mQkept, .ref mQheard, .ref mQnumber, .ref mQlowUp, .ref mQlowDown, .ref mQhighUp, .ref mQhighDown, .int (zI mlev), .ref mQseen, .int (zI memp), .ref mQfirst], eA mQnow (cy 0) 11 (zup mNow x1 (mWas (Int.toNat ((11 * macts) + x1)))), eA mQwas (cy 0) 110 mWas] H := hP
      have hD : va_D A [eO mO 6 [.int (zI mth), .ref mQtext, .int (zI mmany), .int (zI mcur), .int (zI mst), .int (zI mtok), .int (zI mval), .ref mQnow, .ref mQfresh, .ref mQwas, .int (zI macts), .ref mQisKept, .ref mQkept, .ref mQheard, .ref mQnumber, .ref mQlowUp, .ref mQlowDown, .ref mQhighUp, .ref mQhighDown, .int (zI mlev), .ref mQseen, .int (zI memp), .ref mQfirst], eA mQnow (cy 0) 11 (zup mNow x1 (mWas (Int.toNat ((11 * macts) + x1)))), eA mQwas (cy 0) 110 mWas] := hD
      refine lv_iinc (v := zI (x1 + 1)) (lv' := [(1, .int (zI (x1 + 1))), (0, .ref mO)]) hx hb dX7_undo_53 hl (k := 1) rfl (zI_add _ _) (by decide) rfl (fun ls hl => ?_)
      refine lv_goto (tgt := 27) hx hb dX7_undo_56 (by decide) ?_
      have hf := zq_some hf
      exact hf _ _ _ hP hD hS (lv_sub hl [1, 0] rfl)
    · refine lv_aload_n hx hb dX7_undo_59 rfl (lv_at hl 0 rfl) ?_
      refine va_get (D := D) (ci := 6) (v := .int (zI macts)) (C := RX7) (T := TX7) (N := 23) hx hb hts u_X7_undo_X7 hown hK.1 hP 0 rfl rfl 10 (by decide) (hts _ m_X7_undo_2) (fun _ h9 => h9) rfl dX7_undo_60 ?_
      have hf := zq_some hf
      cases hf
      exact W.iret hx hb hr (fun t ht hW => ⟨⟨_, (), rfl, rfl, by rw [ht]; exact hP, hD⟩, hS.F ht⟩) hS.2.2 dX7_undo_63
    )
  unfold f_X7_undo at hf
  refine lv_aload_n hx hb dX7_undo_0 rfl (lv_at hl 0 rfl) ?_
  refine lv_iconst (v := zI 0) hx hb dX7_undo_1 rfl ?_
  refine va_put (D := D) (ci := 6) (v := .int (zI 0)) (ty := .int) (C := RX7) (T := TX7) (N := 23) hx hb hts u_X7_undo_X7 tyX7 tyX7_ok nmX7 hown hK.1 hP hD hS 0 rfl rfl 0 (by decide) (hts _ m_X7_undo_1) (fun _ h9 => h9) rfl (tyX7_ok 0 (by decide)) rfl rfl (Nat.le_of_ble_eq_true rfl) dX7_undo_2 (fun H locs hP hD hS => ?_)
  have hP : va_P D vwCl [eO mO 6 [.int (zI 0), .ref mQtext, .int (zI mmany), .int (zI mcur), .int (zI mst), .int (zI mtok), .int (zI mval), .ref mQnow, .ref mQfresh, .ref mQwas, .int (zI macts), .ref mQisKept, .ref mQkept, .ref mQheard, .ref mQnumber, .ref mQlowUp, .ref mQlowDown, .ref mQhighUp, .ref mQhighDown, .int (zI mlev), .ref mQseen, .int (zI memp), .ref mQfirst], eA mQnow (cy 0) 11 mNow, eA mQwas (cy 0) 110 mWas] H := hP
  have hD : va_D A [eO mO 6 [.int (zI 0), .ref mQtext, .int (zI mmany), .int (zI mcur), .int (zI mst), .int (zI mtok), .int (zI mval), .ref mQnow, .ref mQfresh, .ref mQwas, .int (zI macts), .ref mQisKept, .ref mQkept, .ref mQheard, .ref mQnumber, .ref mQlowUp, .ref mQlowDown, .ref mQhighUp, .ref mQhighDown, .int (zI mlev), .ref mQseen, .int (zI memp), .ref mQfirst], eA mQnow (cy 0) 11 mNow, eA mQwas (cy 0) 110 mWas] := hD
  refine lv_aload_n hx hb dX7_undo_5 rfl (lv_at hl 0 rfl) ?_
  refine va_get (D := D) (ci := 6) (v := .int (zI macts)) (C := RX7) (T := TX7) (N := 23) hx hb hts u_X7_undo_X7 hown hK.1 hP 0 rfl rfl 10 (by decide) (hts _ m_X7_undo_2) (fun _ h9 => h9) rfl dX7_undo_6 ?_
  refine zz_if_ne (tgt := 15) hx hb dX7_undo_9 (by decide) hf (fun hc hf => ?_) (fun hc hf => ?_)
  · refine lv_bipush (v := zI (-2)) hx hb dX7_undo_12 (by decide) ?_
    have hf := zq_some hf
    cases hf
    exact W.iret hx hb hr (fun t ht hW => ⟨⟨_, (), rfl, rfl, by rw [ht]; exact hP, hD⟩, hS.F ht⟩) hS.2.2 dX7_undo_14
  · refine lv_aload_n hx hb dX7_undo_15 rfl (lv_at hl 0 rfl) ?_
    refine lv_dup hx hb dX7_undo_16 rfl ?_
    refine va_get (D := D) (ci := 6) (v := .int (zI macts)) (C := RX7) (T := TX7) (N := 23) hx hb hts u_X7_undo_X7 hown hK.1 hP 0 rfl rfl 10 (by decide) (hts _ m_X7_undo_2) (fun _ h9 => h9) rfl dX7_undo_17 ?_
    refine lv_iconst (v := zI 1) hx hb dX7_undo_20 rfl ?_
    refine zz_isub hx hb dX7_undo_21 ?_
    refine va_put (D := D) (ci := 6) (v := .int (zI (macts - 1))) (ty := .int) (C := RX7) (T := TX7) (N := 23) hx hb hts u_X7_undo_X7 tyX7 tyX7_ok nmX7 hown hK.1 hP hD hS 0 rfl rfl 10 (by decide) (hts _ m_X7_undo_2) (fun _ h9 => h9) rfl (tyX7_ok 10 (by decide)) rfl rfl (Nat.le_of_ble_eq_true rfl) dX7_undo_22 (fun H locs hP hD hS => ?_)
    have hP : va_P D vwCl [eO mO 6 [.int (zI 0), .ref mQtext, .int (zI mmany), .int (zI mcur), .int (zI mst), .int (zI mtok), .int (zI mval), .ref mQnow, .ref mQfresh, .ref mQwas, .int (zI (macts - 1)), .ref mQisKept, .ref mQkept, .ref mQheard, .ref mQnumber, .ref mQlowUp, .ref mQlowDown, .ref mQhighUp, .ref mQhighDown, .int (zI mlev), .ref mQseen, .int (zI memp), .ref mQfirst], eA mQnow (cy 0) 11 mNow, eA mQwas (cy 0) 110 mWas] H := hP
    have hD : va_D A [eO mO 6 [.int (zI 0), .ref mQtext, .int (zI mmany), .int (zI mcur), .int (zI mst), .int (zI mtok), .int (zI mval), .ref mQnow, .ref mQfresh, .ref mQwas, .int (zI (macts - 1)), .ref mQisKept, .ref mQkept, .ref mQheard, .ref mQnumber, .ref mQlowUp, .ref mQlowDown, .ref mQhighUp, .ref mQhighDown, .int (zI mlev), .ref mQseen, .int (zI memp), .ref mQfirst], eA mQnow (cy 0) 11 mNow, eA mQwas (cy 0) 110 mWas] := hD
    refine lv_iconst (v := zI 0) hx hb dX7_undo_25 rfl ?_
    refine lv_istore_n (lv' := [(1, .int (zI 0)), (0, .ref mO)]) hx hb dX7_undo_26 rfl hl (by decide) rfl (fun ls hl => ?_)
    exact key _ (zq_eq hf) _ _ _ hP hD hS (lv_sub hl [1, 0] rfl)

noncomputable def st_X7_isNumbered (p1 : Int) : (Int × Int × (Nat → Int) × (Nat → Int) × (Nat → Int) × (Nat → Int) × (Nat → Int) × (Nat → Int)) → Option ((Int × Int × (Nat → Int) × (Nat → Int) × (Nat → Int) × (Nat → Int) × (Nat → Int) × (Nat → Int)) ⊕ (Int × Int × (Nat → Int) × (Nat → Int) × (Nat → Int) × (Nat → Int) × (Nat → Int) × (Nat → Int))) := fun (x2, mlev, mHeard, mNum, mLU, mLD, mHU, mHD) =>
  (f_X7_goesOn mlev mHeard mNum mLU mLD mHU mHD).bind fun (r11, mlev_11, mHeard_11, mNum_11, mLU_11, mLD_11, mHU_11, mHD_11) =>
  gd (zR r11) <|
  if r11 = 0 then
    some (.inr (0, mlev_11, mHeard_11, mNum_11, mLU_11, mLD_11, mHU_11, mHD_11))
  else
    gd (zR x2 ∧ zR p1) <|
    if x2 = p1 then
      some (.inr (1, mlev_11, mHeard_11, mNum_11, mLU_11, mLD_11, mHU_11, mHD_11))
    else
      some (.inl ((x2 + 1), mlev_11, mHeard_11, mNum_11, mLU_11, mLD_11, mHU_11, mHD_11))
noncomputable def f_X7_isNumbered (p1 : Int) (mNow : Nat → Int) (mHeard : Nat → Int) (mNum : Nat → Int) (mLU : Nat → Int) (mLD : Nat → Int) (mHU : Nat → Int) (mHD : Nat → Int) : Option (Int × Int × (Nat → Int) × (Nat → Int) × (Nat → Int) × (Nat → Int) × (Nat → Int) × (Nat → Int)) :=
  (f_X7_begin_n mNow mHeard mNum mLU mLD mHU mHD).bind fun (mlev_5, mHeard_5, mNum_5, mLU_5, mLD_5, mHU_5, mHD_5) =>
  zev (st_X7_isNumbered p1) (0, mlev_5, mHeard_5, mNum_5, mLU_5, mLD_5, mHU_5, mHD_5)
theorem m_X7_isNumbered_1 : (.fieldLink RX7 46 "PulseTurnsModel" "now" "[I" : Cond) ∈ wsX7_isNumbered := List.mem_of_getElem? (i := 1) rfl
theorem u_X7_isNumbered_X7 : ∀ w ∈ wsX70, w ∈ wsX7_isNumbered := fun w h => List.mem_cons_of_mem _ (List.mem_append_right _ h)
set_option maxRecDepth 100000 in
set_option maxHeartbeats 4000000 in
theorem c_X7_isNumbered (l : Launch) (D : va_G) (cy : Nat → ClassId) (mO mQtext mQnow mQfresh mQwas mQisKept mQkept mQheard mQnumber mQlowUp mQlowDown mQhighUp mQhighDown mQseen mQfirst : Nat) (sz : Nat) (p1 : Int) (mth : Int) (mmany : Int) (mcur : Int) (mst : Int) (mtok : Int) (mval : Int) (macts : Int) (mlev : Int) (memp : Int) (mNow : Nat → Int) (mHeard : Nat → Int) (mNum : Nat → Int) (mLU : Nat → Int) (mLD : Nat → Int) (mHU : Nat → Int) (mHD : Nat → Int) {r : Int} {mlev' : Int} {mHeard' : Nat → Int} {mNum' : Nat → Int} {mLU' : Nat → Int} {mLD' : Nat → Int} {mHU' : Nat → Int} {mHD' : Nat → Int} (hf : f_X7_isNumbered p1 mNow mHeard mNum mLU mLD mHU mHD = some (r, mlev', mHeard', mNum', mLU', mLD', mHU', mHD')) : zMi l yX7_isNumbered wsX7_isNumbered ({ frames := 3, cells := 0, slots := 0, locals := 70 }) D cy sz [.ref mO, .int (zI p1)] [eO mO 6 [.int (zI mth), .ref mQtext, .int (zI mmany), .int (zI mcur), .int (zI mst), .int (zI mtok), .int (zI mval), .ref mQnow, .ref mQfresh, .ref mQwas, .int (zI macts), .ref mQisKept, .ref mQkept, .ref mQheard, .ref mQnumber, .ref mQlowUp, .ref mQlowDown, .ref mQhighUp, .ref mQhighDown, .int (zI mlev), .ref mQseen, .int (zI memp), .ref mQfirst], eA mQnow (cy 0) 11 mNow, eA mQheard (cy 0) 11 mHeard, eA mQnumber (cy 0) 7 mNum, eA mQlowUp (cy 0) 7 mLU, eA mQlowDown (cy 0) 7 mLD, eA mQhighUp (cy 0) 7 mHU, eA mQhighDown (cy 0) 7 mHD] [eO mO 6 [.int (zI mth), .ref mQtext, .int (zI mmany), .int (zI mcur), .int (zI mst), .int (zI mtok), .int (zI mval), .ref mQnow, .ref mQfresh, .ref mQwas, .int (zI macts), .ref mQisKept, .ref mQkept, .ref mQheard, .ref mQnumber, .ref mQlowUp, .ref mQlowDown, .ref mQhighUp, .ref mQhighDown, .int (zI mlev'), .ref mQseen, .int (zI memp), .ref mQfirst], eA mQnow (cy 0) 11 mNow, eA mQheard (cy 0) 11 mHeard', eA mQnumber (cy 0) 7 mNum', eA mQlowUp (cy 0) 7 mLU', eA mQlowDown (cy 0) 7 mLD', eA mQhighUp (cy 0) 7 mHU', eA mQhighDown (cy 0) 7 mHD'] (zI r) := by
  refine Met.ofW (cc := cX7_isNumbered) (maxL := 3) (ret := (some .boolean)) (by decide) rfl ?_
  intro p e s m args below meth c s₁ B hml hv
  obtain ⟨rfl, hsz, hP, hK, hD0⟩ := hv
  have hx := B.exec
  have hb := B.bytes
  have hr := B.returns
  have hts := atoms_spec (ws := wsX7_isNumbered) B.pre
  have hown : s.vm.findClass RX7 = some m.cls := findClass_of_methodNamed B.named
  have hlocks := B.notSynchronized
  subst hsz
  have hD := hD0.self (sz := s.heap.size)
  generalize hAe : va_A [eO mO 6 [.int (zI mth), .ref mQtext, .int (zI mmany), .int (zI mcur), .int (zI mst), .int (zI mtok), .int (zI mval), .ref mQnow, .ref mQfresh, .ref mQwas, .int (zI macts), .ref mQisKept, .ref mQkept, .ref mQheard, .ref mQnumber, .ref mQlowUp, .ref mQlowDown, .ref mQhighUp, .ref mQhighDown, .int (zI mlev), .ref mQseen, .int (zI memp), .ref mQfirst], eA mQnow (cy 0) 11 mNow, eA mQheard (cy 0) 11 mHeard, eA mQnumber (cy 0) 7 mNum, eA mQlowUp (cy 0) 7 mLU, eA mQlowDown (cy 0) 7 mLD, eA mQhighUp (cy 0) 7 mHU, eA mQhighDown (cy 0) 7 mHD] s.heap.size = A at hD ⊢
  have hA : ∀ q : Nat, s.heap.size ≤ q → A q := fun q h => by rw [← hAe]; exact Or.inr h
  have hS : va_S A s.heap s.heap [] := va_S.rf
  have hl := lv_entry ([.ref mO, .int (zI p1)]) (n := 3) (Nat.le_of_ble_eq_true rfl)
  rw [lg_entry_eq]
  generalize (lg_sl ([.ref mO, .int (zI p1)]) ++ List.replicate (3 - (lg_sl ([.ref mO, .int (zI p1)])).length) Slot.unset).toArray = ls at hl ⊢
  have hl : lv_has ls 3 [(0, .ref mO), (1, .int (zI p1))] := hl
  have hf := zq_of hf
  have key := zloop (st := st_X7_isNumbered p1) (res := (r, mlev', mHeard', mNum', mLU', mLD', mHU', mHD')) (K := fun (x2, mlev, mHeard, mNum, mLU, mLD, mHU, mHD) => ∀ (H : Heap) (locs : List Loc) (ls : Array Slot), va_P D vwCl [eO mO 6 [.int (zI mth), .ref mQtext, .int (zI mmany), .int (zI mcur), .int (zI mst), .int (zI mtok), .int (zI mval), .ref mQnow, .ref mQfresh, .ref mQwas, .int (zI macts), .ref mQisKept, .ref mQkept, .ref mQheard, .ref mQnumber, .ref mQlowUp, .ref mQlowDown, .ref mQhighUp, .ref mQhighDown, .int (zI mlev), .ref mQseen, .int (zI memp), .ref mQfirst], eA mQnow (cy 0) 11 mNow, eA mQheard (cy 0) 11 mHeard, eA mQnumber (cy 0) 7 mNum, eA mQlowUp (cy 0) 7 mLU, eA mQlowDown (cy 0) 7 mLD, eA mQhighUp (cy 0) 7 mHU, eA mQhighDown (cy 0) 7 mHD] H → va_D A [eO mO 6 [.int (zI mth), .ref mQtext, .int (zI mmany), .int (zI mcur), .int (zI mst), .int (zI mtok), .int (zI mval), .ref mQnow, .ref mQfresh, .ref mQwas, .int (zI macts), .ref mQisKept, .ref mQkept, .ref mQheard, .ref mQnumber, .ref mQlowUp, .ref mQlowDown, .ref mQhighUp, .ref mQhighDown, .int (zI mlev), .ref mQseen, .int (zI memp), .ref mQfirst], eA mQnow (cy 0) 11 mNow, eA mQheard (cy 0) 11 mHeard, eA mQnumber (cy 0) 7 mNum, eA mQlowUp (cy 0) 7 mLU, eA mQlowDown (cy 0) 7 mLD, eA mQhighUp (cy 0) 7 mHU, eA mQhighDown (cy 0) 7 mHD] → va_S A s.heap H locs → lv_has ls 3 [(0, .ref mO), (1, .int (zI p1)), (2, .int (zI x2))] → zGi p l e wsX7_isNumbered ({ frames := 3, cells := 0, slots := 0, locals := 70 }) s m [.ref mO, .int (zI p1)] below meth c A D [eO mO 6 [.int (zI mth), .ref mQtext, .int (zI mmany), .int (zI mcur), .int (zI mst), .int (zI mtok), .int (zI mval), .ref mQnow, .ref mQfresh, .ref mQwas, .int (zI macts), .ref mQisKept, .ref mQkept, .ref mQheard, .ref mQnumber, .ref mQlowUp, .ref mQlowDown, .ref mQhighUp, .ref mQhighDown, .int (zI mlev'), .ref mQseen, .int (zI memp), .ref mQfirst], eA mQnow (cy 0) 11 mNow, eA mQheard (cy 0) 11 mHeard', eA mQnumber (cy 0) 7 mNum', eA mQlowUp (cy 0) 7 mLU', eA mQlowDown (cy 0) 7 mLD', eA mQhighUp (cy 0) 7 mHU', eA mQhighDown (cy 0) 7 mHD'] (zI r) H locs (F0 m 10 ls [])) (by
    rintro ⟨x2, mlev, mHeard, mNum, mLU, mLD, mHU, mHD⟩ hf
    intro H locs ls hP hD hS hl
    unfold st_X7_isNumbered at hf
    try dsimp only at hf
    refine lv_aload_n hx hb dX7_isNumbered_10 rfl (lv_at hl 0 rfl) ?_
    obtain ⟨⟨r11, mlev_11, mHeard_11, mNum_11, mLU_11, mLD_11, mHU_11, mHD_11⟩, hc11, hf⟩ := zq_bind hf
    refine zcallVi (wr := [eA mQnow (cy 0) 11 mNow]) (rest := []) ⟨hx, hb, hml, hown, hts⟩ (c_X7_goesOn l D cy mO mQtext mQnow mQfresh mQwas mQisKept mQkept mQheard mQnumber mQlowUp mQlowDown mQhighUp mQhighDown mQseen mQfirst H.size mth mmany mcur mst mtok mval macts mlev memp mHeard mNum mLU mLD mHU mHD hc11) (cwV 0 hts gX7_isNumbered_X7_goesOn rfl rfl rfl (by decide +kernel) ⟨Nat.le_of_ble_eq_true rfl, Nat.le_of_ble_eq_true rfl⟩) hK hP hD hS hA [0, 2, 3, 4, 5, 6, 7] [1] rfl rfl rfl rfl (by decide) (va_recv hK.1 hP (ci := 6) (q0 := 0) rfl rfl) rfl hl.1 rfl (Nat.le_of_ble_eq_true rfl) dX7_isNumbered_11 ⟨Nat.zero_le _, Nat.zero_le _⟩ (fun H locs hP hD hS => ?_)
    have hP : va_P D vwCl [eO mO 6 [.int (zI mth), .ref mQtext, .int (zI mmany), .int (zI mcur), .int (zI mst), .int (zI mtok), .int (zI mval), .ref mQnow, .ref mQfresh, .ref mQwas, .int (zI macts), .ref mQisKept, .ref mQkept, .ref mQheard, .ref mQnumber, .ref mQlowUp, .ref mQlowDown, .ref mQhighUp, .ref mQhighDown, .int (zI mlev_11), .ref mQseen, .int (zI memp), .ref mQfirst], eA mQnow (cy 0) 11 mNow, eA mQheard (cy 0) 11 mHeard_11, eA mQnumber (cy 0) 7 mNum_11, eA mQlowUp (cy 0) 7 mLU_11, eA mQlowDown (cy 0) 7 mLD_11, eA mQhighUp (cy 0) 7 mHU_11, eA mQhighDown (cy 0) 7 mHD_11] H := hP.sub [1, 0, 2, 3, 4, 5, 6, 7] rfl
    have hD : va_D A [eO mO 6 [.int (zI mth), .ref mQtext, .int (zI mmany), .int (zI mcur), .int (zI mst), .int (zI mtok), .int (zI mval), .ref mQnow, .ref mQfresh, .ref mQwas, .int (zI macts), .ref mQisKept, .ref mQkept, .ref mQheard, .ref mQnumber, .ref mQlowUp, .ref mQlowDown, .ref mQhighUp, .ref mQhighDown, .int (zI mlev_11), .ref mQseen, .int (zI memp), .ref mQfirst], eA mQnow (cy 0) 11 mNow, eA mQheard (cy 0) 11 mHeard_11, eA mQnumber (cy 0) 7 mNum_11, eA mQlowUp (cy 0) 7 mLU_11, eA mQlowDown (cy 0) 7 mLD_11, eA mQhighUp (cy 0) 7 mHU_11, eA mQhighDown (cy 0) 7 mHD_11] := hD.sub [1, 0, 2, 3, 4, 5, 6, 7] rfl rfl
    refine zz_if_eq (tgt := 30) hx hb dX7_isNumbered_14 (by decide) hf (fun hc hf => ?_) (fun hc hf => ?_)
    · refine lv_iconst (v := zI 0) hx hb dX7_isNumbered_30 rfl ?_
      have hf := zq_some hf
      cases hf
      exact W.zret hx hb hr rfl (fun t ht hW => ⟨⟨_, (), rfl, rfl, by rw [ht]; exact hP, hD⟩, hS.F ht⟩) hS.2.2 dX7_isNumbered_31
    · refine lv_iload_n hx hb dX7_isNumbered_17 rfl (lv_at hl 2 rfl) ?_
      refine lv_iload_n hx hb dX7_isNumbered_18 rfl (lv_at hl 1 rfl) ?_
      refine zz_icmp_ne (tgt := 24) hx hb dX7_isNumbered_19 (by decide) hf (fun hc hf => ?_) (fun hc hf => ?_)
      · refine lv_iconst (v := zI 1) hx hb dX7_isNumbered_22 rfl ?_
        have hf := zq_some hf
        cases hf
        exact W.zret hx hb hr rfl (fun t ht hW => ⟨⟨_, (), rfl, rfl, by rw [ht]; exact hP, hD⟩, hS.F ht⟩) hS.2.2 dX7_isNumbered_23
      · refine lv_iinc (v := zI (x2 + 1)) (lv' := [(2, .int (zI (x2 + 1))), (0, .ref mO), (1, .int (zI p1))]) hx hb dX7_isNumbered_24 hl (k := 2) rfl (zI_add _ _) (by decide) rfl (fun ls hl => ?_)
        refine lv_goto (tgt := 10) hx hb dX7_isNumbered_27 (by decide) ?_
        have hf := zq_some hf
        exact hf _ _ _ hP hD hS (lv_sub hl [1, 2, 0] rfl)
    )
  unfold f_X7_isNumbered at hf
  refine lv_aload_n hx hb dX7_isNumbered_0 rfl (lv_at hl 0 rfl) ?_
  refine lv_aload_n hx hb dX7_isNumbered_1 rfl (lv_at hl 0 rfl) ?_
  refine va_get (D := D) (ci := 6) (v := .ref mQnow) (C := RX7) (T := TX7) (N := 23) hx hb hts u_X7_isNumbered_X7 hown hK.1 hP 0 rfl rfl 7 (by decide) (hts _ m_X7_isNumbered_1) (fun _ h9 => h9) rfl dX7_isNumbered_2 ?_
  obtain ⟨⟨mlev_5, mHeard_5, mNum_5, mLU_5, mLD_5, mHU_5, mHD_5⟩, hc5, hf⟩ := zq_bind hf
  refine zcallVv (wr := []) (rest := []) ⟨hx, hb, hml, hown, hts⟩ (c_X7_begin_n l D cy mO mQtext mQnow mQfresh mQwas mQisKept mQkept mQheard mQnumber mQlowUp mQlowDown mQhighUp mQhighDown mQseen mQfirst s.heap.size mth mmany mcur mst mtok mval macts mlev memp mNow mHeard mNum mLU mLD mHU mHD hc5) (cwV 1 hts gX7_isNumbered_X7_begin rfl rfl rfl (by decide +kernel) ⟨Nat.le_of_ble_eq_true rfl, Nat.le_of_ble_eq_true rfl⟩) hK hP hD hS hA [0, 1, 2, 3, 4, 5, 6, 7] [] rfl rfl rfl rfl (by decide) (va_recv hK.1 hP (ci := 6) (q0 := 0) rfl rfl) rfl hl.1 rfl (Nat.le_of_ble_eq_true rfl) dX7_isNumbered_5 ⟨Nat.zero_le _, Nat.zero_le _⟩ (fun H locs hP hD hS => ?_)
  have hP : va_P D vwCl [eO mO 6 [.int (zI mth), .ref mQtext, .int (zI mmany), .int (zI mcur), .int (zI mst), .int (zI mtok), .int (zI mval), .ref mQnow, .ref mQfresh, .ref mQwas, .int (zI macts), .ref mQisKept, .ref mQkept, .ref mQheard, .ref mQnumber, .ref mQlowUp, .ref mQlowDown, .ref mQhighUp, .ref mQhighDown, .int (zI mlev_5), .ref mQseen, .int (zI memp), .ref mQfirst], eA mQnow (cy 0) 11 mNow, eA mQheard (cy 0) 11 mHeard_5, eA mQnumber (cy 0) 7 mNum_5, eA mQlowUp (cy 0) 7 mLU_5, eA mQlowDown (cy 0) 7 mLD_5, eA mQhighUp (cy 0) 7 mHU_5, eA mQhighDown (cy 0) 7 mHD_5] H := hP.sub [0, 1, 2, 3, 4, 5, 6, 7] rfl
  have hD : va_D A [eO mO 6 [.int (zI mth), .ref mQtext, .int (zI mmany), .int (zI mcur), .int (zI mst), .int (zI mtok), .int (zI mval), .ref mQnow, .ref mQfresh, .ref mQwas, .int (zI macts), .ref mQisKept, .ref mQkept, .ref mQheard, .ref mQnumber, .ref mQlowUp, .ref mQlowDown, .ref mQhighUp, .ref mQhighDown, .int (zI mlev_5), .ref mQseen, .int (zI memp), .ref mQfirst], eA mQnow (cy 0) 11 mNow, eA mQheard (cy 0) 11 mHeard_5, eA mQnumber (cy 0) 7 mNum_5, eA mQlowUp (cy 0) 7 mLU_5, eA mQlowDown (cy 0) 7 mLD_5, eA mQhighUp (cy 0) 7 mHU_5, eA mQhighDown (cy 0) 7 mHD_5] := hD.sub [0, 1, 2, 3, 4, 5, 6, 7] rfl rfl
  refine lv_iconst (v := zI 0) hx hb dX7_isNumbered_8 rfl ?_
  refine lv_istore_n (lv' := [(2, .int (zI 0)), (0, .ref mO), (1, .int (zI p1))]) hx hb dX7_isNumbered_9 rfl hl (by decide) rfl (fun ls hl => ?_)
  exact key _ (zq_eq hf) _ _ _ hP hD hS (lv_sub hl [1, 2, 0] rfl)

noncomputable def f_X7_number (p1 : Int) (p2 : Int) (mlev : Int) (mNow : Nat → Int) (mHeard : Nat → Int) (mNum : Nat → Int) (mLU : Nat → Int) (mLD : Nat → Int) (mHU : Nat → Int) (mHD : Nat → Int) : Option (Int × Int × Int × (Nat → Int) × (Nat → Int) × (Nat → Int) × (Nat → Int) × (Nat → Int) × (Nat → Int)) :=
  gd (zR p1) <|
  if p1 < 0 then
    some ((-1), 0, mlev, mHeard, mNum, mLU, mLD, mHU, mHD)
  else
    (f_X7_isArrival p2 mNow).bind fun r11 =>
    gd (zR r11) <|
    if r11 = 0 then
      some ((-1), 0, mlev, mHeard, mNum, mLU, mLD, mHU, mHD)
    else
      (f_X7_isNumbered p1 mNow mHeard mNum mLU mLD mHU mHD).bind fun (r21, mlev_21, mHeard_21, mNum_21, mLU_21, mLD_21, mHU_21, mHD_21) =>
      gd (zR r21) <|
      if r21 = 0 then
        some ((-9), 0, mlev_21, mHeard_21, mNum_21, mLU_21, mLD_21, mHU_21, mHD_21)
      else
        gd (zin p2 7) <|
        some ((mNum_21 (Int.toNat p2)), 0, mlev_21, mHeard_21, mNum_21, mLU_21, mLD_21, mHU_21, mHD_21)
theorem m_X7_number_1 : (.fieldLink RX7 1 "PulseTurnsModel" "thrown" "I" : Cond) ∈ wsX7_number := List.mem_of_getElem? (i := 1) rfl
theorem m_X7_number_2 : (.fieldLink RX7 65 "PulseTurnsModel" "number" "[I" : Cond) ∈ wsX7_number := List.mem_of_getElem? (i := 2) rfl
theorem u_X7_number_X7 : ∀ w ∈ wsX70, w ∈ wsX7_number := fun w h => List.mem_cons_of_mem _ (List.mem_append_right _ h)
set_option maxRecDepth 100000 in
set_option maxHeartbeats 4000000 in
theorem c_X7_number (l : Launch) (D : va_G) (cy : Nat → ClassId) (mO mQtext mQnow mQfresh mQwas mQisKept mQkept mQheard mQnumber mQlowUp mQlowDown mQhighUp mQhighDown mQseen mQfirst : Nat) (sz : Nat) (p1 : Int) (p2 : Int) (mth : Int) (mmany : Int) (mcur : Int) (mst : Int) (mtok : Int) (mval : Int) (macts : Int) (mlev : Int) (memp : Int) (mNow : Nat → Int) (mHeard : Nat → Int) (mNum : Nat → Int) (mLU : Nat → Int) (mLD : Nat → Int) (mHU : Nat → Int) (mHD : Nat → Int) {r : Int} {mth' : Int} {mlev' : Int} {mHeard' : Nat → Int} {mNum' : Nat → Int} {mLU' : Nat → Int} {mLD' : Nat → Int} {mHU' : Nat → Int} {mHD' : Nat → Int} (hf : f_X7_number p1 p2 mlev mNow mHeard mNum mLU mLD mHU mHD = some (r, mth', mlev', mHeard', mNum', mLU', mLD', mHU', mHD')) : zMi l yX7_number wsX7_number ({ frames := 4, cells := 0, slots := 0, locals := 92 }) D cy sz [.ref mO, .int (zI p1), .int (zI p2)] [eO mO 6 [.int (zI mth), .ref mQtext, .int (zI mmany), .int (zI mcur), .int (zI mst), .int (zI mtok), .int (zI mval), .ref mQnow, .ref mQfresh, .ref mQwas, .int (zI macts), .ref mQisKept, .ref mQkept, .ref mQheard, .ref mQnumber, .ref mQlowUp, .ref mQlowDown, .ref mQhighUp, .ref mQhighDown, .int (zI mlev), .ref mQseen, .int (zI memp), .ref mQfirst], eA mQnow (cy 0) 11 mNow, eA mQheard (cy 0) 11 mHeard, eA mQnumber (cy 0) 7 mNum, eA mQlowUp (cy 0) 7 mLU, eA mQlowDown (cy 0) 7 mLD, eA mQhighUp (cy 0) 7 mHU, eA mQhighDown (cy 0) 7 mHD] [eO mO 6 [.int (zI mth'), .ref mQtext, .int (zI mmany), .int (zI mcur), .int (zI mst), .int (zI mtok), .int (zI mval), .ref mQnow, .ref mQfresh, .ref mQwas, .int (zI macts), .ref mQisKept, .ref mQkept, .ref mQheard, .ref mQnumber, .ref mQlowUp, .ref mQlowDown, .ref mQhighUp, .ref mQhighDown, .int (zI mlev'), .ref mQseen, .int (zI memp), .ref mQfirst], eA mQnow (cy 0) 11 mNow, eA mQheard (cy 0) 11 mHeard', eA mQnumber (cy 0) 7 mNum', eA mQlowUp (cy 0) 7 mLU', eA mQlowDown (cy 0) 7 mLD', eA mQhighUp (cy 0) 7 mHU', eA mQhighDown (cy 0) 7 mHD'] (zI r) := by
  refine Met.ofW (cc := cX7_number) (maxL := 3) (ret := (some .int)) (by decide) rfl ?_
  intro p e s m args below meth c s₁ B hml hv
  obtain ⟨rfl, hsz, hP, hK, hD0⟩ := hv
  have hx := B.exec
  have hb := B.bytes
  have hr := B.returns
  have hts := atoms_spec (ws := wsX7_number) B.pre
  have hown : s.vm.findClass RX7 = some m.cls := findClass_of_methodNamed B.named
  have hlocks := B.notSynchronized
  subst hsz
  have hD := hD0.self (sz := s.heap.size)
  generalize hAe : va_A [eO mO 6 [.int (zI mth), .ref mQtext, .int (zI mmany), .int (zI mcur), .int (zI mst), .int (zI mtok), .int (zI mval), .ref mQnow, .ref mQfresh, .ref mQwas, .int (zI macts), .ref mQisKept, .ref mQkept, .ref mQheard, .ref mQnumber, .ref mQlowUp, .ref mQlowDown, .ref mQhighUp, .ref mQhighDown, .int (zI mlev), .ref mQseen, .int (zI memp), .ref mQfirst], eA mQnow (cy 0) 11 mNow, eA mQheard (cy 0) 11 mHeard, eA mQnumber (cy 0) 7 mNum, eA mQlowUp (cy 0) 7 mLU, eA mQlowDown (cy 0) 7 mLD, eA mQhighUp (cy 0) 7 mHU, eA mQhighDown (cy 0) 7 mHD] s.heap.size = A at hD ⊢
  have hA : ∀ q : Nat, s.heap.size ≤ q → A q := fun q h => by rw [← hAe]; exact Or.inr h
  have hS : va_S A s.heap s.heap [] := va_S.rf
  have hl := lv_entry ([.ref mO, .int (zI p1), .int (zI p2)]) (n := 3) (Nat.le_of_ble_eq_true rfl)
  rw [lg_entry_eq]
  generalize (lg_sl ([.ref mO, .int (zI p1), .int (zI p2)]) ++ List.replicate (3 - (lg_sl ([.ref mO, .int (zI p1), .int (zI p2)])).length) Slot.unset).toArray = ls at hl ⊢
  have hl : lv_has ls 3 [(0, .ref mO), (1, .int (zI p1)), (2, .int (zI p2))] := hl
  have hf := zq_of hf
  unfold f_X7_number at hf
  refine lv_aload_n hx hb dX7_number_0 rfl (lv_at hl 0 rfl) ?_
  refine lv_iconst (v := zI 0) hx hb dX7_number_1 rfl ?_
  refine va_put (D := D) (ci := 6) (v := .int (zI 0)) (ty := .int) (C := RX7) (T := TX7) (N := 23) hx hb hts u_X7_number_X7 tyX7 tyX7_ok nmX7 hown hK.1 hP hD hS 0 rfl rfl 0 (by decide) (hts _ m_X7_number_1) (fun _ h9 => h9) rfl (tyX7_ok 0 (by decide)) rfl rfl (Nat.le_of_ble_eq_true rfl) dX7_number_2 (fun H locs hP hD hS => ?_)
  have hP : va_P D vwCl [eO mO 6 [.int (zI 0), .ref mQtext, .int (zI mmany), .int (zI mcur), .int (zI mst), .int (zI mtok), .int (zI mval), .ref mQnow, .ref mQfresh, .ref mQwas, .int (zI macts), .ref mQisKept, .ref mQkept, .ref mQheard, .ref mQnumber, .ref mQlowUp, .ref mQlowDown, .ref mQhighUp, .ref mQhighDown, .int (zI mlev), .ref mQseen, .int (zI memp), .ref mQfirst], eA mQnow (cy 0) 11 mNow, eA mQheard (cy 0) 11 mHeard, eA mQnumber (cy 0) 7 mNum, eA mQlowUp (cy 0) 7 mLU, eA mQlowDown (cy 0) 7 mLD, eA mQhighUp (cy 0) 7 mHU, eA mQhighDown (cy 0) 7 mHD] H := hP
  have hD : va_D A [eO mO 6 [.int (zI 0), .ref mQtext, .int (zI mmany), .int (zI mcur), .int (zI mst), .int (zI mtok), .int (zI mval), .ref mQnow, .ref mQfresh, .ref mQwas, .int (zI macts), .ref mQisKept, .ref mQkept, .ref mQheard, .ref mQnumber, .ref mQlowUp, .ref mQlowDown, .ref mQhighUp, .ref mQhighDown, .int (zI mlev), .ref mQseen, .int (zI memp), .ref mQfirst], eA mQnow (cy 0) 11 mNow, eA mQheard (cy 0) 11 mHeard, eA mQnumber (cy 0) 7 mNum, eA mQlowUp (cy 0) 7 mLU, eA mQlowDown (cy 0) 7 mLD, eA mQhighUp (cy 0) 7 mHU, eA mQhighDown (cy 0) 7 mHD] := hD
  refine lv_iload_n hx hb dX7_number_5 rfl (lv_at hl 1 rfl) ?_
  refine zz_if_lt (tgt := 17) hx hb dX7_number_6 (by decide) hf (fun hc hf => ?_) (fun hc hf => ?_)
  · refine lv_iconst (v := zI (-1)) hx hb dX7_number_17 rfl ?_
    have hf := zq_some hf
    cases hf
    exact W.iret hx hb hr (fun t ht hW => ⟨⟨_, (), rfl, rfl, by rw [ht]; exact hP, hD⟩, hS.F ht⟩) hS.2.2 dX7_number_18
  · refine lv_aload_n hx hb dX7_number_9 rfl (lv_at hl 0 rfl) ?_
    refine lv_iload_n hx hb dX7_number_10 rfl (lv_at hl 2 rfl) ?_
    obtain ⟨r11, hc11, hf⟩ := zq_bind hf
    refine zcallVi (wr := [eA mQheard (cy 0) 11 mHeard, eA mQnumber (cy 0) 7 mNum, eA mQlowUp (cy 0) 7 mLU, eA mQlowDown (cy 0) 7 mLD, eA mQhighUp (cy 0) 7 mHU, eA mQhighDown (cy 0) 7 mHD]) (rest := []) ⟨hx, hb, hml, hown, hts⟩ (c_X7_isArrival l D cy mO mQtext mQnow mQfresh mQwas mQisKept mQkept mQheard mQnumber mQlowUp mQlowDown mQhighUp mQhighDown mQseen mQfirst H.size p2 0 mmany mcur mst mtok mval macts mlev memp mNow hc11) (cwV 1 hts gX7_number_X7_isArrival rfl rfl rfl (by decide +kernel) ⟨Nat.le_of_ble_eq_true rfl, Nat.le_of_ble_eq_true rfl⟩) hK hP hD hS hA [0, 1] [2, 3, 4, 5, 6, 7] rfl rfl rfl rfl (by decide) (va_recv hK.1 hP (ci := 6) (q0 := 0) rfl rfl) rfl hl.1 rfl (Nat.le_of_ble_eq_true rfl) dX7_number_11 ⟨Nat.zero_le _, Nat.zero_le _⟩ (fun H locs hP hD hS => ?_)
    have hP : va_P D vwCl [eO mO 6 [.int (zI 0), .ref mQtext, .int (zI mmany), .int (zI mcur), .int (zI mst), .int (zI mtok), .int (zI mval), .ref mQnow, .ref mQfresh, .ref mQwas, .int (zI macts), .ref mQisKept, .ref mQkept, .ref mQheard, .ref mQnumber, .ref mQlowUp, .ref mQlowDown, .ref mQhighUp, .ref mQhighDown, .int (zI mlev), .ref mQseen, .int (zI memp), .ref mQfirst], eA mQnow (cy 0) 11 mNow, eA mQheard (cy 0) 11 mHeard, eA mQnumber (cy 0) 7 mNum, eA mQlowUp (cy 0) 7 mLU, eA mQlowDown (cy 0) 7 mLD, eA mQhighUp (cy 0) 7 mHU, eA mQhighDown (cy 0) 7 mHD] H := hP.sub [6, 7, 0, 1, 2, 3, 4, 5] rfl
    have hD : va_D A [eO mO 6 [.int (zI 0), .ref mQtext, .int (zI mmany), .int (zI mcur), .int (zI mst), .int (zI mtok), .int (zI mval), .ref mQnow, .ref mQfresh, .ref mQwas, .int (zI macts), .ref mQisKept, .ref mQkept, .ref mQheard, .ref mQnumber, .ref mQlowUp, .ref mQlowDown, .ref mQhighUp, .ref mQhighDown, .int (zI mlev), .ref mQseen, .int (zI memp), .ref mQfirst], eA mQnow (cy 0) 11 mNow, eA mQheard (cy 0) 11 mHeard, eA mQnumber (cy 0) 7 mNum, eA mQlowUp (cy 0) 7 mLU, eA mQlowDown (cy 0) 7 mLD, eA mQhighUp (cy 0) 7 mHU, eA mQhighDown (cy 0) 7 mHD] := hD.sub [6, 7, 0, 1, 2, 3, 4, 5] rfl rfl
    refine zz_if_ne (tgt := 19) hx hb dX7_number_14 (by decide) hf (fun hc hf => ?_) (fun hc hf => ?_)
    · refine lv_iconst (v := zI (-1)) hx hb dX7_number_17 rfl ?_
      have hf := zq_some hf
      cases hf
      exact W.iret hx hb hr (fun t ht hW => ⟨⟨_, (), rfl, rfl, by rw [ht]; exact hP, hD⟩, hS.F ht⟩) hS.2.2 dX7_number_18
    · refine lv_aload_n hx hb dX7_number_19 rfl (lv_at hl 0 rfl) ?_
      refine lv_iload_n hx hb dX7_number_20 rfl (lv_at hl 1 rfl) ?_
      obtain ⟨⟨r21, mlev_21, mHeard_21, mNum_21, mLU_21, mLD_21, mHU_21, mHD_21⟩, hc21, hf⟩ := zq_bind hf
      refine zcallVi (wr := []) (rest := []) ⟨hx, hb, hml, hown, hts⟩ (c_X7_isNumbered l D cy mO mQtext mQnow mQfresh mQwas mQisKept mQkept mQheard mQnumber mQlowUp mQlowDown mQhighUp mQhighDown mQseen mQfirst H.size p1 0 mmany mcur mst mtok mval macts mlev memp mNow mHeard mNum mLU mLD mHU mHD hc21) (cwV 1 hts gX7_number_X7_isNumbered rfl rfl rfl (by decide +kernel) ⟨Nat.le_of_ble_eq_true rfl, Nat.le_of_ble_eq_true rfl⟩) hK hP hD hS hA [0, 1, 2, 3, 4, 5, 6, 7] [] rfl rfl rfl rfl (by decide) (va_recv hK.1 hP (ci := 6) (q0 := 0) rfl rfl) rfl hl.1 rfl (Nat.le_of_ble_eq_true rfl) dX7_number_21 ⟨Nat.zero_le _, Nat.zero_le _⟩ (fun H locs hP hD hS => ?_)
      have hP : va_P D vwCl [eO mO 6 [.int (zI 0), .ref mQtext, .int (zI mmany), .int (zI mcur), .int (zI mst), .int (zI mtok), .int (zI mval), .ref mQnow, .ref mQfresh, .ref mQwas, .int (zI macts), .ref mQisKept, .ref mQkept, .ref mQheard, .ref mQnumber, .ref mQlowUp, .ref mQlowDown, .ref mQhighUp, .ref mQhighDown, .int (zI mlev_21), .ref mQseen, .int (zI memp), .ref mQfirst], eA mQnow (cy 0) 11 mNow, eA mQheard (cy 0) 11 mHeard_21, eA mQnumber (cy 0) 7 mNum_21, eA mQlowUp (cy 0) 7 mLU_21, eA mQlowDown (cy 0) 7 mLD_21, eA mQhighUp (cy 0) 7 mHU_21, eA mQhighDown (cy 0) 7 mHD_21] H := hP.sub [0, 1, 2, 3, 4, 5, 6, 7] rfl
      have hD : va_D A [eO mO 6 [.int (zI 0), .ref mQtext, .int (zI mmany), .int (zI mcur), .int (zI mst), .int (zI mtok), .int (zI mval), .ref mQnow, .ref mQfresh, .ref mQwas, .int (zI macts), .ref mQisKept, .ref mQkept, .ref mQheard, .ref mQnumber, .ref mQlowUp, .ref mQlowDown, .ref mQhighUp, .ref mQhighDown, .int (zI mlev_21), .ref mQseen, .int (zI memp), .ref mQfirst], eA mQnow (cy 0) 11 mNow, eA mQheard (cy 0) 11 mHeard_21, eA mQnumber (cy 0) 7 mNum_21, eA mQlowUp (cy 0) 7 mLU_21, eA mQlowDown (cy 0) 7 mLD_21, eA mQhighUp (cy 0) 7 mHU_21, eA mQhighDown (cy 0) 7 mHD_21] := hD.sub [0, 1, 2, 3, 4, 5, 6, 7] rfl rfl
      refine zz_if_eq (tgt := 36) hx hb dX7_number_24 (by decide) hf (fun hc hf => ?_) (fun hc hf => ?_)
      · refine lv_bipush (v := zI (-9)) hx hb dX7_number_36 (by decide) ?_
        have hf := zq_some hf
        cases hf
        exact W.iret hx hb hr (fun t ht hW => ⟨⟨_, (), rfl, rfl, by rw [ht]; exact hP, hD⟩, hS.F ht⟩) hS.2.2 dX7_number_38
      · refine lv_aload_n hx hb dX7_number_27 rfl (lv_at hl 0 rfl) ?_
        refine va_get (D := D) (ci := 6) (v := .ref mQnumber) (C := RX7) (T := TX7) (N := 23) hx hb hts u_X7_number_X7 hown hK.1 hP 0 rfl rfl 14 (by decide) (hts _ m_X7_number_2) (fun _ h9 => h9) rfl dX7_number_28 ?_
        refine lv_iload_n hx hb dX7_number_31 rfl (lv_at hl 2 rfl) ?_
        obtain ⟨hg, hf⟩ := zq_gd hf
        refine zz_iald (i := p2) hx hb hK hP 3 rfl (Nat.le_of_ble_eq_true rfl) hg dX7_number_32 ?_
        refine lv_goto (tgt := 38) hx hb dX7_number_33 (by decide) ?_
        have hf := zq_some hf
        cases hf
        exact W.iret hx hb hr (fun t ht hW => ⟨⟨_, (), rfl, rfl, by rw [ht]; exact hP, hD⟩, hS.F ht⟩) hS.2.2 dX7_number_38

noncomputable def f_X7_box (p1 : Int) (p2 : Int) (mlev : Int) (mNow : Nat → Int) (mHeard : Nat → Int) (mNum : Nat → Int) (mLU : Nat → Int) (mLD : Nat → Int) (mHU : Nat → Int) (mHD : Nat → Int) : Option (Int × Int × Int × (Nat → Int) × (Nat → Int) × (Nat → Int) × (Nat → Int) × (Nat → Int) × (Nat → Int)) :=
  gd (zR p1) <|
  if p1 < 0 then
    some ((-1), 0, mlev, mHeard, mNum, mLU, mLD, mHU, mHD)
  else
    gd (zR p2) <|
    (f_X7_in p2 0 3).bind fun r15 =>
    gd (zR r15) <|
    if r15 = 0 then
      some ((-1), 0, mlev, mHeard, mNum, mLU, mLD, mHU, mHD)
    else
      (f_X7_isNumbered p1 mNow mHeard mNum mLU mLD mHU mHD).bind fun (r25, mlev_25, mHeard_25, mNum_25, mLU_25, mLD_25, mHU_25, mHD_25) =>
      gd (zR r25) <|
      if r25 = 0 then
        some ((-9), 0, mlev_25, mHeard_25, mNum_25, mLU_25, mLD_25, mHU_25, mHD_25)
      else
        zlt ((mNow 0) - 1) fun v42 =>
        gd (zin v42 7) <|
        gd (zin v42 7) <|
        gd (zin v42 7) <|
        gd (zin v42 7) <|
        (f_X7_ends (mLU_25 (Int.toNat v42)) (mLD_25 (Int.toNat v42)) (mHU_25 (Int.toNat v42)) (mHD_25 (Int.toNat v42)) p2).bind fun r68 =>
        some (r68, 0, mlev_25, mHeard_25, mNum_25, mLU_25, mLD_25, mHU_25, mHD_25)
theorem m_X7_box_1 : (.fieldLink RX7 1 "PulseTurnsModel" "thrown" "I" : Cond) ∈ wsX7_box := List.mem_of_getElem? (i := 1) rfl
theorem m_X7_box_2 : (.constantLong RX7 172 (3) : Cond) ∈ wsX7_box := List.mem_of_getElem? (i := 2) rfl
theorem m_X7_box_3 : (.fieldLink RX7 46 "PulseTurnsModel" "now" "[I" : Cond) ∈ wsX7_box := List.mem_of_getElem? (i := 3) rfl
theorem m_X7_box_4 : (.fieldLink RX7 68 "PulseTurnsModel" "lowUp" "[I" : Cond) ∈ wsX7_box := List.mem_of_getElem? (i := 4) rfl
theorem m_X7_box_5 : (.fieldLink RX7 71 "PulseTurnsModel" "lowDown" "[I" : Cond) ∈ wsX7_box := List.mem_of_getElem? (i := 5) rfl
theorem m_X7_box_6 : (.fieldLink RX7 74 "PulseTurnsModel" "highUp" "[I" : Cond) ∈ wsX7_box := List.mem_of_getElem? (i := 6) rfl
theorem m_X7_box_7 : (.fieldLink RX7 77 "PulseTurnsModel" "highDown" "[I" : Cond) ∈ wsX7_box := List.mem_of_getElem? (i := 7) rfl
theorem u_X7_box_X7 : ∀ w ∈ wsX70, w ∈ wsX7_box := fun w h => List.mem_cons_of_mem _ (List.mem_append_right _ h)
set_option maxRecDepth 100000 in
set_option maxHeartbeats 4000000 in
theorem c_X7_box (l : Launch) (D : va_G) (cy : Nat → ClassId) (mO mQtext mQnow mQfresh mQwas mQisKept mQkept mQheard mQnumber mQlowUp mQlowDown mQhighUp mQhighDown mQseen mQfirst : Nat) (sz : Nat) (p1 : Int) (p2 : Int) (mth : Int) (mmany : Int) (mcur : Int) (mst : Int) (mtok : Int) (mval : Int) (macts : Int) (mlev : Int) (memp : Int) (mNow : Nat → Int) (mHeard : Nat → Int) (mNum : Nat → Int) (mLU : Nat → Int) (mLD : Nat → Int) (mHU : Nat → Int) (mHD : Nat → Int) {r : Int} {mth' : Int} {mlev' : Int} {mHeard' : Nat → Int} {mNum' : Nat → Int} {mLU' : Nat → Int} {mLD' : Nat → Int} {mHU' : Nat → Int} {mHD' : Nat → Int} (hf : f_X7_box p1 p2 mlev mNow mHeard mNum mLU mLD mHU mHD = some (r, mth', mlev', mHeard', mNum', mLU', mLD', mHU', mHD')) : zMi l yX7_box wsX7_box ({ frames := 4, cells := 0, slots := 0, locals := 92 }) D cy sz [.ref mO, .int (zI p1), .int (zI p2)] [eO mO 6 [.int (zI mth), .ref mQtext, .int (zI mmany), .int (zI mcur), .int (zI mst), .int (zI mtok), .int (zI mval), .ref mQnow, .ref mQfresh, .ref mQwas, .int (zI macts), .ref mQisKept, .ref mQkept, .ref mQheard, .ref mQnumber, .ref mQlowUp, .ref mQlowDown, .ref mQhighUp, .ref mQhighDown, .int (zI mlev), .ref mQseen, .int (zI memp), .ref mQfirst], eA mQnow (cy 0) 11 mNow, eA mQheard (cy 0) 11 mHeard, eA mQnumber (cy 0) 7 mNum, eA mQlowUp (cy 0) 7 mLU, eA mQlowDown (cy 0) 7 mLD, eA mQhighUp (cy 0) 7 mHU, eA mQhighDown (cy 0) 7 mHD] [eO mO 6 [.int (zI mth'), .ref mQtext, .int (zI mmany), .int (zI mcur), .int (zI mst), .int (zI mtok), .int (zI mval), .ref mQnow, .ref mQfresh, .ref mQwas, .int (zI macts), .ref mQisKept, .ref mQkept, .ref mQheard, .ref mQnumber, .ref mQlowUp, .ref mQlowDown, .ref mQhighUp, .ref mQhighDown, .int (zI mlev'), .ref mQseen, .int (zI memp), .ref mQfirst], eA mQnow (cy 0) 11 mNow, eA mQheard (cy 0) 11 mHeard', eA mQnumber (cy 0) 7 mNum', eA mQlowUp (cy 0) 7 mLU', eA mQlowDown (cy 0) 7 mLD', eA mQhighUp (cy 0) 7 mHU', eA mQhighDown (cy 0) 7 mHD'] (zI r) := by
  refine Met.ofW (cc := cX7_box) (maxL := 4) (ret := (some .int)) (by decide) rfl ?_
  intro p e s m args below meth c s₁ B hml hv
  obtain ⟨rfl, hsz, hP, hK, hD0⟩ := hv
  have hx := B.exec
  have hb := B.bytes
  have hr := B.returns
  have hts := atoms_spec (ws := wsX7_box) B.pre
  have hown : s.vm.findClass RX7 = some m.cls := findClass_of_methodNamed B.named
  have hlocks := B.notSynchronized
  subst hsz
  have hD := hD0.self (sz := s.heap.size)
  generalize hAe : va_A [eO mO 6 [.int (zI mth), .ref mQtext, .int (zI mmany), .int (zI mcur), .int (zI mst), .int (zI mtok), .int (zI mval), .ref mQnow, .ref mQfresh, .ref mQwas, .int (zI macts), .ref mQisKept, .ref mQkept, .ref mQheard, .ref mQnumber, .ref mQlowUp, .ref mQlowDown, .ref mQhighUp, .ref mQhighDown, .int (zI mlev), .ref mQseen, .int (zI memp), .ref mQfirst], eA mQnow (cy 0) 11 mNow, eA mQheard (cy 0) 11 mHeard, eA mQnumber (cy 0) 7 mNum, eA mQlowUp (cy 0) 7 mLU, eA mQlowDown (cy 0) 7 mLD, eA mQhighUp (cy 0) 7 mHU, eA mQhighDown (cy 0) 7 mHD] s.heap.size = A at hD ⊢
  have hA : ∀ q : Nat, s.heap.size ≤ q → A q := fun q h => by rw [← hAe]; exact Or.inr h
  have hS : va_S A s.heap s.heap [] := va_S.rf
  have hl := lv_entry ([.ref mO, .int (zI p1), .int (zI p2)]) (n := 4) (Nat.le_of_ble_eq_true rfl)
  rw [lg_entry_eq]
  generalize (lg_sl ([.ref mO, .int (zI p1), .int (zI p2)]) ++ List.replicate (4 - (lg_sl ([.ref mO, .int (zI p1), .int (zI p2)])).length) Slot.unset).toArray = ls at hl ⊢
  have hl : lv_has ls 4 [(0, .ref mO), (1, .int (zI p1)), (2, .int (zI p2))] := hl
  have hf := zq_of hf
  unfold f_X7_box at hf
  refine lv_aload_n hx hb dX7_box_0 rfl (lv_at hl 0 rfl) ?_
  refine lv_iconst (v := zI 0) hx hb dX7_box_1 rfl ?_
  refine va_put (D := D) (ci := 6) (v := .int (zI 0)) (ty := .int) (C := RX7) (T := TX7) (N := 23) hx hb hts u_X7_box_X7 tyX7 tyX7_ok nmX7 hown hK.1 hP hD hS 0 rfl rfl 0 (by decide) (hts _ m_X7_box_1) (fun _ h9 => h9) rfl (tyX7_ok 0 (by decide)) rfl rfl (Nat.le_of_ble_eq_true rfl) dX7_box_2 (fun H locs hP hD hS => ?_)
  have hP : va_P D vwCl [eO mO 6 [.int (zI 0), .ref mQtext, .int (zI mmany), .int (zI mcur), .int (zI mst), .int (zI mtok), .int (zI mval), .ref mQnow, .ref mQfresh, .ref mQwas, .int (zI macts), .ref mQisKept, .ref mQkept, .ref mQheard, .ref mQnumber, .ref mQlowUp, .ref mQlowDown, .ref mQhighUp, .ref mQhighDown, .int (zI mlev), .ref mQseen, .int (zI memp), .ref mQfirst], eA mQnow (cy 0) 11 mNow, eA mQheard (cy 0) 11 mHeard, eA mQnumber (cy 0) 7 mNum, eA mQlowUp (cy 0) 7 mLU, eA mQlowDown (cy 0) 7 mLD, eA mQhighUp (cy 0) 7 mHU, eA mQhighDown (cy 0) 7 mHD] H := hP
  have hD : va_D A [eO mO 6 [.int (zI 0), .ref mQtext, .int (zI mmany), .int (zI mcur), .int (zI mst), .int (zI mtok), .int (zI mval), .ref mQnow, .ref mQfresh, .ref mQwas, .int (zI macts), .ref mQisKept, .ref mQkept, .ref mQheard, .ref mQnumber, .ref mQlowUp, .ref mQlowDown, .ref mQhighUp, .ref mQhighDown, .int (zI mlev), .ref mQseen, .int (zI memp), .ref mQfirst], eA mQnow (cy 0) 11 mNow, eA mQheard (cy 0) 11 mHeard, eA mQnumber (cy 0) 7 mNum, eA mQlowUp (cy 0) 7 mLU, eA mQlowDown (cy 0) 7 mLD, eA mQhighUp (cy 0) 7 mHU, eA mQhighDown (cy 0) 7 mHD] := hD
  refine lv_iload_n hx hb dX7_box_5 rfl (lv_at hl 1 rfl) ?_
  refine zz_if_lt (tgt := 21) hx hb dX7_box_6 (by decide) hf (fun hc hf => ?_) (fun hc hf => ?_)
  · refine lv_iconst (v := zI (-1)) hx hb dX7_box_21 rfl ?_
    have hf := zq_some hf
    cases hf
    exact W.iret hx hb hr (fun t ht hW => ⟨⟨_, (), rfl, rfl, by rw [ht]; exact hP, hD⟩, hS.F ht⟩) hS.2.2 dX7_box_22
  · refine lv_iload_n hx hb dX7_box_9 rfl (lv_at hl 2 rfl) ?_
    obtain ⟨hg, hf⟩ := zq_gd hf
    refine lv_i2l (v := zL p2) hx hb dX7_box_10 (zL_i hg) ?_
    refine lv_lconst (v := zL 0) hx hb dX7_box_11 (by decide) ?_
    refine lv_ldc2 (v := zL 3) hx hb hown (hts _ m_X7_box_2) dX7_box_12 ?_
    obtain ⟨r15, hc15, hf⟩ := zq_bind hf
    refine zcallSi (wr := [eO mO 6 [.int (zI 0), .ref mQtext, .int (zI mmany), .int (zI mcur), .int (zI mst), .int (zI mtok), .int (zI mval), .ref mQnow, .ref mQfresh, .ref mQwas, .int (zI macts), .ref mQisKept, .ref mQkept, .ref mQheard, .ref mQnumber, .ref mQlowUp, .ref mQlowDown, .ref mQhighUp, .ref mQhighDown, .int (zI mlev), .ref mQseen, .int (zI memp), .ref mQfirst], eA mQnow (cy 0) 11 mNow, eA mQheard (cy 0) 11 mHeard, eA mQnumber (cy 0) 7 mNum, eA mQlowUp (cy 0) 7 mLU, eA mQlowDown (cy 0) 7 mLD, eA mQhighUp (cy 0) 7 mHU, eA mQhighDown (cy 0) 7 mHD]) (rest := []) ⟨hx, hb, hml, hown, hts⟩ (c_X7_in l D cy H.size p2 0 3 hc15) (va_cwS 3 hts gX7_box_X7_in rfl rfl rfl (by decide +kernel) ⟨Nat.le_of_ble_eq_true rfl, Nat.le_of_ble_eq_true rfl⟩) hK hP hD hS hA [] [0, 1, 2, 3, 4, 5, 6, 7] rfl rfl rfl rfl (by decide) rfl hl.1 rfl (Nat.le_of_ble_eq_true rfl) dX7_box_15 ⟨Nat.zero_le _, Nat.zero_le _⟩ (fun H locs hP hD hS => ?_)
    have hP : va_P D vwCl [eO mO 6 [.int (zI 0), .ref mQtext, .int (zI mmany), .int (zI mcur), .int (zI mst), .int (zI mtok), .int (zI mval), .ref mQnow, .ref mQfresh, .ref mQwas, .int (zI macts), .ref mQisKept, .ref mQkept, .ref mQheard, .ref mQnumber, .ref mQlowUp, .ref mQlowDown, .ref mQhighUp, .ref mQhighDown, .int (zI mlev), .ref mQseen, .int (zI memp), .ref mQfirst], eA mQnow (cy 0) 11 mNow, eA mQheard (cy 0) 11 mHeard, eA mQnumber (cy 0) 7 mNum, eA mQlowUp (cy 0) 7 mLU, eA mQlowDown (cy 0) 7 mLD, eA mQhighUp (cy 0) 7 mHU, eA mQhighDown (cy 0) 7 mHD] H := hP.sub [0, 1, 2, 3, 4, 5, 6, 7] rfl
    have hD : va_D A [eO mO 6 [.int (zI 0), .ref mQtext, .int (zI mmany), .int (zI mcur), .int (zI mst), .int (zI mtok), .int (zI mval), .ref mQnow, .ref mQfresh, .ref mQwas, .int (zI macts), .ref mQisKept, .ref mQkept, .ref mQheard, .ref mQnumber, .ref mQlowUp, .ref mQlowDown, .ref mQhighUp, .ref mQhighDown, .int (zI mlev), .ref mQseen, .int (zI memp), .ref mQfirst], eA mQnow (cy 0) 11 mNow, eA mQheard (cy 0) 11 mHeard, eA mQnumber (cy 0) 7 mNum, eA mQlowUp (cy 0) 7 mLU, eA mQlowDown (cy 0) 7 mLD, eA mQhighUp (cy 0) 7 mHU, eA mQhighDown (cy 0) 7 mHD] := hD.sub [0, 1, 2, 3, 4, 5, 6, 7] rfl rfl
    refine zz_if_ne (tgt := 23) hx hb dX7_box_18 (by decide) hf (fun hc hf => ?_) (fun hc hf => ?_)
    · refine lv_iconst (v := zI (-1)) hx hb dX7_box_21 rfl ?_
      have hf := zq_some hf
      cases hf
      exact W.iret hx hb hr (fun t ht hW => ⟨⟨_, (), rfl, rfl, by rw [ht]; exact hP, hD⟩, hS.F ht⟩) hS.2.2 dX7_box_22
    · refine lv_aload_n hx hb dX7_box_23 rfl (lv_at hl 0 rfl) ?_
      refine lv_iload_n hx hb dX7_box_24 rfl (lv_at hl 1 rfl) ?_
      obtain ⟨⟨r25, mlev_25, mHeard_25, mNum_25, mLU_25, mLD_25, mHU_25, mHD_25⟩, hc25, hf⟩ := zq_bind hf
      refine zcallVi (wr := []) (rest := []) ⟨hx, hb, hml, hown, hts⟩ (c_X7_isNumbered l D cy mO mQtext mQnow mQfresh mQwas mQisKept mQkept mQheard mQnumber mQlowUp mQlowDown mQhighUp mQhighDown mQseen mQfirst H.size p1 0 mmany mcur mst mtok mval macts mlev memp mNow mHeard mNum mLU mLD mHU mHD hc25) (cwV 1 hts gX7_box_X7_isNumbered rfl rfl rfl (by decide +kernel) ⟨Nat.le_of_ble_eq_true rfl, Nat.le_of_ble_eq_true rfl⟩) hK hP hD hS hA [0, 1, 2, 3, 4, 5, 6, 7] [] rfl rfl rfl rfl (by decide) (va_recv hK.1 hP (ci := 6) (q0 := 0) rfl rfl) rfl hl.1 rfl (Nat.le_of_ble_eq_true rfl) dX7_box_25 ⟨Nat.zero_le _, Nat.zero_le _⟩ (fun H locs hP hD hS => ?_)
      have hP : va_P D vwCl [eO mO 6 [.int (zI 0), .ref mQtext, .int (zI mmany), .int (zI mcur), .int (zI mst), .int (zI mtok), .int (zI mval), .ref mQnow, .ref mQfresh, .ref mQwas, .int (zI macts), .ref mQisKept, .ref mQkept, .ref mQheard, .ref mQnumber, .ref mQlowUp, .ref mQlowDown, .ref mQhighUp, .ref mQhighDown, .int (zI mlev_25), .ref mQseen, .int (zI memp), .ref mQfirst], eA mQnow (cy 0) 11 mNow, eA mQheard (cy 0) 11 mHeard_25, eA mQnumber (cy 0) 7 mNum_25, eA mQlowUp (cy 0) 7 mLU_25, eA mQlowDown (cy 0) 7 mLD_25, eA mQhighUp (cy 0) 7 mHU_25, eA mQhighDown (cy 0) 7 mHD_25] H := hP.sub [0, 1, 2, 3, 4, 5, 6, 7] rfl
      have hD : va_D A [eO mO 6 [.int (zI 0), .ref mQtext, .int (zI mmany), .int (zI mcur), .int (zI mst), .int (zI mtok), .int (zI mval), .ref mQnow, .ref mQfresh, .ref mQwas, .int (zI macts), .ref mQisKept, .ref mQkept, .ref mQheard, .ref mQnumber, .ref mQlowUp, .ref mQlowDown, .ref mQhighUp, .ref mQhighDown, .int (zI mlev_25), .ref mQseen, .int (zI memp), .ref mQfirst], eA mQnow (cy 0) 11 mNow, eA mQheard (cy 0) 11 mHeard_25, eA mQnumber (cy 0) 7 mNum_25, eA mQlowUp (cy 0) 7 mLU_25, eA mQlowDown (cy 0) 7 mLD_25, eA mQhighUp (cy 0) 7 mHU_25, eA mQhighDown (cy 0) 7 mHD_25] := hD.sub [0, 1, 2, 3, 4, 5, 6, 7] rfl rfl
      refine zz_if_ne (tgt := 34) hx hb dX7_box_28 (by decide) hf (fun hc hf => ?_) (fun hc hf => ?_)
      · refine lv_bipush (v := zI (-9)) hx hb dX7_box_31 (by decide) ?_
        have hf := zq_some hf
        cases hf
        exact W.iret hx hb hr (fun t ht hW => ⟨⟨_, (), rfl, rfl, by rw [ht]; exact hP, hD⟩, hS.F ht⟩) hS.2.2 dX7_box_33
      · refine lv_aload_n hx hb dX7_box_34 rfl (lv_at hl 0 rfl) ?_
        refine va_get (D := D) (ci := 6) (v := .ref mQnow) (C := RX7) (T := TX7) (N := 23) hx hb hts u_X7_box_X7 hown hK.1 hP 0 rfl rfl 7 (by decide) (hts _ m_X7_box_3) (fun _ h9 => h9) rfl dX7_box_35 ?_
        refine lv_iconst (v := zI 0) hx hb dX7_box_38 rfl ?_
        refine zz_iald (i := 0) hx hb hK hP 1 rfl (Nat.le_of_ble_eq_true rfl) (by decide) dX7_box_39 ?_
        refine lv_iconst (v := zI 1) hx hb dX7_box_40 rfl ?_
        refine zz_isub hx hb dX7_box_41 ?_
        obtain ⟨v42, e42, hf⟩ := zq_lt hf
        refine zz_top e42 ?_
        refine lv_istore_n (lv' := [(3, .int (zI v42)), (0, .ref mO), (1, .int (zI p1)), (2, .int (zI p2))]) hx hb dX7_box_42 rfl hl (by decide) rfl (fun ls hl => ?_)
        refine lv_aload_n hx hb dX7_box_43 rfl (lv_at hl 1 rfl) ?_
        refine va_get (D := D) (ci := 6) (v := .ref mQlowUp) (C := RX7) (T := TX7) (N := 23) hx hb hts u_X7_box_X7 hown hK.1 hP 0 rfl rfl 15 (by decide) (hts _ m_X7_box_4) (fun _ h9 => h9) rfl dX7_box_44 ?_
        refine lv_iload_n hx hb dX7_box_47 rfl (lv_at hl 0 rfl) ?_
        obtain ⟨hg, hf⟩ := zq_gd hf
        refine zz_iald (i := v42) hx hb hK hP 4 rfl (Nat.le_of_ble_eq_true rfl) hg dX7_box_48 ?_
        refine lv_aload_n hx hb dX7_box_49 rfl (lv_at hl 1 rfl) ?_
        refine va_get (D := D) (ci := 6) (v := .ref mQlowDown) (C := RX7) (T := TX7) (N := 23) hx hb hts u_X7_box_X7 hown hK.1 hP 0 rfl rfl 16 (by decide) (hts _ m_X7_box_5) (fun _ h9 => h9) rfl dX7_box_50 ?_
        refine lv_iload_n hx hb dX7_box_53 rfl (lv_at hl 0 rfl) ?_
        obtain ⟨hg, hf⟩ := zq_gd hf
        refine zz_iald (i := v42) hx hb hK hP 5 rfl (Nat.le_of_ble_eq_true rfl) hg dX7_box_54 ?_
        refine lv_aload_n hx hb dX7_box_55 rfl (lv_at hl 1 rfl) ?_
        refine va_get (D := D) (ci := 6) (v := .ref mQhighUp) (C := RX7) (T := TX7) (N := 23) hx hb hts u_X7_box_X7 hown hK.1 hP 0 rfl rfl 17 (by decide) (hts _ m_X7_box_6) (fun _ h9 => h9) rfl dX7_box_56 ?_
        refine lv_iload_n hx hb dX7_box_59 rfl (lv_at hl 0 rfl) ?_
        obtain ⟨hg, hf⟩ := zq_gd hf
        refine zz_iald (i := v42) hx hb hK hP 6 rfl (Nat.le_of_ble_eq_true rfl) hg dX7_box_60 ?_
        refine lv_aload_n hx hb dX7_box_61 rfl (lv_at hl 1 rfl) ?_
        refine va_get (D := D) (ci := 6) (v := .ref mQhighDown) (C := RX7) (T := TX7) (N := 23) hx hb hts u_X7_box_X7 hown hK.1 hP 0 rfl rfl 18 (by decide) (hts _ m_X7_box_7) (fun _ h9 => h9) rfl dX7_box_62 ?_
        refine lv_iload_n hx hb dX7_box_65 rfl (lv_at hl 0 rfl) ?_
        obtain ⟨hg, hf⟩ := zq_gd hf
        refine zz_iald (i := v42) hx hb hK hP 7 rfl (Nat.le_of_ble_eq_true rfl) hg dX7_box_66 ?_
        refine lv_iload_n hx hb dX7_box_67 rfl (lv_at hl 3 rfl) ?_
        obtain ⟨r68, hc68, hf⟩ := zq_bind hf
        refine zcallSi (wr := [eO mO 6 [.int (zI 0), .ref mQtext, .int (zI mmany), .int (zI mcur), .int (zI mst), .int (zI mtok), .int (zI mval), .ref mQnow, .ref mQfresh, .ref mQwas, .int (zI macts), .ref mQisKept, .ref mQkept, .ref mQheard, .ref mQnumber, .ref mQlowUp, .ref mQlowDown, .ref mQhighUp, .ref mQhighDown, .int (zI mlev_25), .ref mQseen, .int (zI memp), .ref mQfirst], eA mQnow (cy 0) 11 mNow, eA mQheard (cy 0) 11 mHeard_25, eA mQnumber (cy 0) 7 mNum_25, eA mQlowUp (cy 0) 7 mLU_25, eA mQlowDown (cy 0) 7 mLD_25, eA mQhighUp (cy 0) 7 mHU_25, eA mQhighDown (cy 0) 7 mHD_25]) (rest := []) ⟨hx, hb, hml, hown, hts⟩ (c_X7_ends l D cy H.size (mLU_25 (Int.toNat v42)) (mLD_25 (Int.toNat v42)) (mHU_25 (Int.toNat v42)) (mHD_25 (Int.toNat v42)) p2 hc68) (va_cwS 5 hts gX7_box_X7_ends rfl rfl rfl (by decide +kernel) ⟨Nat.le_of_ble_eq_true rfl, Nat.le_of_ble_eq_true rfl⟩) hK hP hD hS hA [] [0, 1, 2, 3, 4, 5, 6, 7] rfl rfl rfl rfl (by decide) rfl hl.1 rfl (Nat.le_of_ble_eq_true rfl) dX7_box_68 ⟨Nat.zero_le _, Nat.zero_le _⟩ (fun H locs hP hD hS => ?_)
        have hP : va_P D vwCl [eO mO 6 [.int (zI 0), .ref mQtext, .int (zI mmany), .int (zI mcur), .int (zI mst), .int (zI mtok), .int (zI mval), .ref mQnow, .ref mQfresh, .ref mQwas, .int (zI macts), .ref mQisKept, .ref mQkept, .ref mQheard, .ref mQnumber, .ref mQlowUp, .ref mQlowDown, .ref mQhighUp, .ref mQhighDown, .int (zI mlev_25), .ref mQseen, .int (zI memp), .ref mQfirst], eA mQnow (cy 0) 11 mNow, eA mQheard (cy 0) 11 mHeard_25, eA mQnumber (cy 0) 7 mNum_25, eA mQlowUp (cy 0) 7 mLU_25, eA mQlowDown (cy 0) 7 mLD_25, eA mQhighUp (cy 0) 7 mHU_25, eA mQhighDown (cy 0) 7 mHD_25] H := hP.sub [0, 1, 2, 3, 4, 5, 6, 7] rfl
        have hD : va_D A [eO mO 6 [.int (zI 0), .ref mQtext, .int (zI mmany), .int (zI mcur), .int (zI mst), .int (zI mtok), .int (zI mval), .ref mQnow, .ref mQfresh, .ref mQwas, .int (zI macts), .ref mQisKept, .ref mQkept, .ref mQheard, .ref mQnumber, .ref mQlowUp, .ref mQlowDown, .ref mQhighUp, .ref mQhighDown, .int (zI mlev_25), .ref mQseen, .int (zI memp), .ref mQfirst], eA mQnow (cy 0) 11 mNow, eA mQheard (cy 0) 11 mHeard_25, eA mQnumber (cy 0) 7 mNum_25, eA mQlowUp (cy 0) 7 mLU_25, eA mQlowDown (cy 0) 7 mLD_25, eA mQhighUp (cy 0) 7 mHU_25, eA mQhighDown (cy 0) 7 mHD_25] := hD.sub [0, 1, 2, 3, 4, 5, 6, 7] rfl rfl
        have hf := zq_some hf
        cases hf
        exact W.iret hx hb hr (fun t ht hW => ⟨⟨_, (), rfl, rfl, by rw [ht]; exact hP, hD⟩, hS.F ht⟩) hS.2.2 dX7_box_71

noncomputable def st_X7_held (p1 : Int) (p2 : Int) (mNow : Nat → Int) : (Nat × Int × Int × Int × Int × Int × Int × (Nat → Int) × (Nat → Int) × (Nat → Int) × (Nat → Int) × (Nat → Int) × (Nat → Int) × (Nat → Int)) → Option ((Nat × Int × Int × Int × Int × Int × Int × (Nat → Int) × (Nat → Int) × (Nat → Int) × (Nat → Int) × (Nat → Int) × (Nat → Int) × (Nat → Int)) ⊕ (Int × Int × Int × (Nat → Int) × (Nat → Int) × (Nat → Int) × (Nat → Int) × (Nat → Int) × (Nat → Int) × (Nat → Int))) := fun v => match v with
  | (0, x3, x4, x5, x6, mth, mlev, mHeard, mNum, mLU, mLD, mHU, mHD, mSeen) =>
  gd (zR x3 ∧ zR 512) <|
  if x3 < 512 then
    gd (zin x3 512) <|
    some (.inl (0, (x3 + 1), 0, 0, 0, mth, mlev, mHeard, mNum, mLU, mLD, mHU, mHD, (zup mSeen x3 0)))
  else
    (f_X7_begin_n mNow mHeard mNum mLU mLD mHU mHD).bind fun (mlev_64, mHeard_64, mNum_64, mLU_64, mLD_64, mHU_64, mHD_64) =>
    some (.inl (1, x3, 0, 0, 0, mth, mlev_64, mHeard_64, mNum_64, mLU_64, mLD_64, mHU_64, mHD_64, mSeen))
  | (1, x3, x4, x5, x6, mth, mlev, mHeard, mNum, mLU, mLD, mHU, mHD, mSeen) =>
  (f_X7_goesOn mlev mHeard mNum mLU mLD mHU mHD).bind fun (r68, mlev_68, mHeard_68, mNum_68, mLU_68, mLD_68, mHU_68, mHD_68) =>
  gd (zR r68) <|
  if r68 = 0 then
    some (.inl (2, 0, (-9), (-9), 0, mth, mlev_68, mHeard_68, mNum_68, mLU_68, mLD_68, mHU_68, mHD_68, mSeen))
  else
    gd (zin (p1 + 1) 7) <|
    gd (zin p1 7) <|
    gd (zin ((mNum_68 (Int.toNat (p1 + 1))) - (mNum_68 (Int.toNat p1))) 512) <|
    some (.inl (1, x3, 0, 0, 0, mth, mlev_68, mHeard_68, mNum_68, mLU_68, mLD_68, mHU_68, mHD_68, (zup mSeen ((mNum_68 (Int.toNat (p1 + 1))) - (mNum_68 (Int.toNat p1))) 1)))
  | (2, x3, x4, x5, x6, mth, mlev, mHeard, mNum, mLU, mLD, mHU, mHD, mSeen) =>
  gd (zR x6 ∧ zR 512) <|
  if x6 < 512 then
    gd (zin x6 512) <|
    gd (zR (mSeen (Int.toNat x6))) <|
    if (mSeen (Int.toNat x6)) = 0 then
      some (.inl (2, x3, x4, x5, (x6 + 1), mth, mlev, mHeard, mNum, mLU, mLD, mHU, mHD, mSeen))
    else
      gd (zR x3) <|
      if x3 = 0 then
        some (.inl (2, (x3 + 1), x6, x6, (x6 + 1), mth, mlev, mHeard, mNum, mLU, mLD, mHU, mHD, mSeen))
      else
        some (.inl (2, (x3 + 1), x4, x6, (x6 + 1), mth, mlev, mHeard, mNum, mLU, mLD, mHU, mHD, mSeen))
  else
    gd (zR p2) <|
    if p2 = 0 then
      some (.inr (x3, mth, mlev, mHeard, mNum, mLU, mLD, mHU, mHD, mSeen))
    else
      gd (zR p2 ∧ zR 1) <|
      if p2 = 1 then
        some (.inr (x4, mth, mlev, mHeard, mNum, mLU, mLD, mHU, mHD, mSeen))
      else
        some (.inr (x5, mth, mlev, mHeard, mNum, mLU, mLD, mHU, mHD, mSeen))
  | _ => none
noncomputable def f_X7_held (p1 : Int) (p2 : Int) (mlev : Int) (mNow : Nat → Int) (mHeard : Nat → Int) (mNum : Nat → Int) (mLU : Nat → Int) (mLD : Nat → Int) (mHU : Nat → Int) (mHD : Nat → Int) (mSeen : Nat → Int) : Option (Int × Int × Int × (Nat → Int) × (Nat → Int) × (Nat → Int) × (Nat → Int) × (Nat → Int) × (Nat → Int) × (Nat → Int)) :=
  gd (zR p1) <|
  gd (zR ((mNow 0) - 2)) <|
  (f_X7_in p1 0 ((mNow 0) - 2)).bind fun r17 =>
  gd (zR r17) <|
  if r17 = 0 then
    some ((-1), 0, mlev, mHeard, mNum, mLU, mLD, mHU, mHD, mSeen)
  else
    gd (zR p2) <|
    (f_X7_in p2 0 2).bind fun r29 =>
    gd (zR r29) <|
    if r29 = 0 then
      some ((-1), 0, mlev, mHeard, mNum, mLU, mLD, mHU, mHD, mSeen)
    else
      zev (st_X7_held p1 p2 mNow) (0, 0, 0, 0, 0, 0, mlev, mHeard, mNum, mLU, mLD, mHU, mHD, mSeen)
theorem m_X7_held_1 : (.fieldLink RX7 1 "PulseTurnsModel" "thrown" "I" : Cond) ∈ wsX7_held := List.mem_of_getElem? (i := 1) rfl
theorem m_X7_held_2 : (.fieldLink RX7 46 "PulseTurnsModel" "now" "[I" : Cond) ∈ wsX7_held := List.mem_of_getElem? (i := 2) rfl
theorem m_X7_held_3 : (.constantLong RX7 178 (2) : Cond) ∈ wsX7_held := List.mem_of_getElem? (i := 3) rfl
theorem m_X7_held_4 : (.fieldLink RX7 80 "PulseTurnsModel" "seen" "[Z" : Cond) ∈ wsX7_held := List.mem_of_getElem? (i := 4) rfl
theorem m_X7_held_5 : (.fieldLink RX7 65 "PulseTurnsModel" "number" "[I" : Cond) ∈ wsX7_held := List.mem_of_getElem? (i := 5) rfl
theorem u_X7_held_X7 : ∀ w ∈ wsX70, w ∈ wsX7_held := fun w h => List.mem_cons_of_mem _ (List.mem_append_right _ h)
set_option maxRecDepth 100000 in
set_option maxHeartbeats 4000000 in
theorem c_X7_held (l : Launch) (D : va_G) (cy : Nat → ClassId) (mO mQtext mQnow mQfresh mQwas mQisKept mQkept mQheard mQnumber mQlowUp mQlowDown mQhighUp mQhighDown mQseen mQfirst : Nat) (sz : Nat) (p1 : Int) (p2 : Int) (mth : Int) (mmany : Int) (mcur : Int) (mst : Int) (mtok : Int) (mval : Int) (macts : Int) (mlev : Int) (memp : Int) (mNow : Nat → Int) (mHeard : Nat → Int) (mNum : Nat → Int) (mLU : Nat → Int) (mLD : Nat → Int) (mHU : Nat → Int) (mHD : Nat → Int) (mSeen : Nat → Int) {r : Int} {mth' : Int} {mlev' : Int} {mHeard' : Nat → Int} {mNum' : Nat → Int} {mLU' : Nat → Int} {mLD' : Nat → Int} {mHU' : Nat → Int} {mHD' : Nat → Int} {mSeen' : Nat → Int} (hf : f_X7_held p1 p2 mlev mNow mHeard mNum mLU mLD mHU mHD mSeen = some (r, mth', mlev', mHeard', mNum', mLU', mLD', mHU', mHD', mSeen')) : zMi l yX7_held wsX7_held ({ frames := 3, cells := 0, slots := 0, locals := 70 }) D cy sz [.ref mO, .int (zI p1), .int (zI p2)] [eO mO 6 [.int (zI mth), .ref mQtext, .int (zI mmany), .int (zI mcur), .int (zI mst), .int (zI mtok), .int (zI mval), .ref mQnow, .ref mQfresh, .ref mQwas, .int (zI macts), .ref mQisKept, .ref mQkept, .ref mQheard, .ref mQnumber, .ref mQlowUp, .ref mQlowDown, .ref mQhighUp, .ref mQhighDown, .int (zI mlev), .ref mQseen, .int (zI memp), .ref mQfirst], eA mQnow (cy 0) 11 mNow, eA mQheard (cy 0) 11 mHeard, eA mQnumber (cy 0) 7 mNum, eA mQlowUp (cy 0) 7 mLU, eA mQlowDown (cy 0) 7 mLD, eA mQhighUp (cy 0) 7 mHU, eA mQhighDown (cy 0) 7 mHD, eA mQseen (cy 2) 512 mSeen] [eO mO 6 [.int (zI mth'), .ref mQtext, .int (zI mmany), .int (zI mcur), .int (zI mst), .int (zI mtok), .int (zI mval), .ref mQnow, .ref mQfresh, .ref mQwas, .int (zI macts), .ref mQisKept, .ref mQkept, .ref mQheard, .ref mQnumber, .ref mQlowUp, .ref mQlowDown, .ref mQhighUp, .ref mQhighDown, .int (zI mlev'), .ref mQseen, .int (zI memp), .ref mQfirst], eA mQnow (cy 0) 11 mNow, eA mQheard (cy 0) 11 mHeard', eA mQnumber (cy 0) 7 mNum', eA mQlowUp (cy 0) 7 mLU', eA mQlowDown (cy 0) 7 mLD', eA mQhighUp (cy 0) 7 mHU', eA mQhighDown (cy 0) 7 mHD', eA mQseen (cy 2) 512 mSeen'] (zI r) := by
  refine Met.ofW (cc := cX7_held) (maxL := 7) (ret := (some .int)) (by decide) rfl ?_
  intro p e s m args below meth c s₁ B hml hv
  obtain ⟨rfl, hsz, hP, hK, hD0⟩ := hv
  have hx := B.exec
  have hb := B.bytes
  have hr := B.returns
  have hts := atoms_spec (ws := wsX7_held) B.pre
  have hown : s.vm.findClass RX7 = some m.cls := findClass_of_methodNamed B.named
  have hlocks := B.notSynchronized
  subst hsz
  have hD := hD0.self (sz := s.heap.size)
  generalize hAe : va_A [eO mO 6 [.int (zI mth), .ref mQtext, .int (zI mmany), .int (zI mcur), .int (zI mst), .int (zI mtok), .int (zI mval), .ref mQnow, .ref mQfresh, .ref mQwas, .int (zI macts), .ref mQisKept, .ref mQkept, .ref mQheard, .ref mQnumber, .ref mQlowUp, .ref mQlowDown, .ref mQhighUp, .ref mQhighDown, .int (zI mlev), .ref mQseen, .int (zI memp), .ref mQfirst], eA mQnow (cy 0) 11 mNow, eA mQheard (cy 0) 11 mHeard, eA mQnumber (cy 0) 7 mNum, eA mQlowUp (cy 0) 7 mLU, eA mQlowDown (cy 0) 7 mLD, eA mQhighUp (cy 0) 7 mHU, eA mQhighDown (cy 0) 7 mHD, eA mQseen (cy 2) 512 mSeen] s.heap.size = A at hD ⊢
  have hA : ∀ q : Nat, s.heap.size ≤ q → A q := fun q h => by rw [← hAe]; exact Or.inr h
  have hS : va_S A s.heap s.heap [] := va_S.rf
  have hl := lv_entry ([.ref mO, .int (zI p1), .int (zI p2)]) (n := 7) (Nat.le_of_ble_eq_true rfl)
  rw [lg_entry_eq]
  generalize (lg_sl ([.ref mO, .int (zI p1), .int (zI p2)]) ++ List.replicate (7 - (lg_sl ([.ref mO, .int (zI p1), .int (zI p2)])).length) Slot.unset).toArray = ls at hl ⊢
  have hl : lv_has ls 7 [(0, .ref mO), (1, .int (zI p1)), (2, .int (zI p2))] := hl
  have hf := zq_of hf
  have key := zloop (st := st_X7_held p1 p2 mNow) (res := (r, mth', mlev', mHeard', mNum', mLU', mLD', mHU', mHD', mSeen')) (K := fun v => match v with
    | (0, x3, x4, x5, x6, mth, mlev, mHeard, mNum, mLU, mLD, mHU, mHD, mSeen) => ∀ (H : Heap) (locs : List Loc) (ls : Array Slot), va_P D vwCl [eO mO 6 [.int (zI mth), .ref mQtext, .int (zI mmany), .int (zI mcur), .int (zI mst), .int (zI mtok), .int (zI mval), .ref mQnow, .ref mQfresh, .ref mQwas, .int (zI macts), .ref mQisKept, .ref mQkept, .ref mQheard, .ref mQnumber, .ref mQlowUp, .ref mQlowDown, .ref mQhighUp, .ref mQhighDown, .int (zI mlev), .ref mQseen, .int (zI memp), .ref mQfirst], eA mQnow (cy 0) 11 mNow, eA mQheard (cy 0) 11 mHeard, eA mQnumber (cy 0) 7 mNum, eA mQlowUp (cy 0) 7 mLU, eA mQlowDown (cy 0) 7 mLD, eA mQhighUp (cy 0) 7 mHU, eA mQhighDown (cy 0) 7 mHD, eA mQseen (cy 2) 512 mSeen] H → va_D A [eO mO 6 [.int (zI mth), .ref mQtext, .int (zI mmany), .int (zI mcur), .int (zI mst), .int (zI mtok), .int (zI mval), .ref mQnow, .ref mQfresh, .ref mQwas, .int (zI macts), .ref mQisKept, .ref mQkept, .ref mQheard, .ref mQnumber, .ref mQlowUp, .ref mQlowDown, .ref mQhighUp, .ref mQhighDown, .int (zI mlev), .ref mQseen, .int (zI memp), .ref mQfirst], eA mQnow (cy 0) 11 mNow, eA mQheard (cy 0) 11 mHeard, eA mQnumber (cy 0) 7 mNum, eA mQlowUp (cy 0) 7 mLU, eA mQlowDown (cy 0) 7 mLD, eA mQhighUp (cy 0) 7 mHU, eA mQhighDown (cy 0) 7 mHD, eA mQseen (cy 2) 512 mSeen] → va_S A s.heap H locs → lv_has ls 7 [(0, .ref mO), (1, .int (zI p1)), (2, .int (zI p2)), (3, .int (zI x3))] → zGi p l e wsX7_held ({ frames := 3, cells := 0, slots := 0, locals := 70 }) s m [.ref mO, .int (zI p1), .int (zI p2)] below meth c A D [eO mO 6 [.int (zI mth'), .ref mQtext, .int (zI mmany), .int (zI mcur), .int (zI mst), .int (zI mtok), .int (zI mval), .ref mQnow, .ref mQfresh, .ref mQwas, .int (zI macts), .ref mQisKept, .ref mQkept, .ref mQheard, .ref mQnumber, .ref mQlowUp, .ref mQlowDown, .ref mQhighUp, .ref mQhighDown, .int (zI mlev'), .ref mQseen, .int (zI memp), .ref mQfirst], eA mQnow (cy 0) 11 mNow, eA mQheard (cy 0) 11 mHeard', eA mQnumber (cy 0) 7 mNum', eA mQlowUp (cy 0) 7 mLU', eA mQlowDown (cy 0) 7 mLD', eA mQhighUp (cy 0) 7 mHU', eA mQhighDown (cy 0) 7 mHD', eA mQseen (cy 2) 512 mSeen'] (zI r) H locs (F0 m 39 ls [])
    | (1, x3, x4, x5, x6, mth, mlev, mHeard, mNum, mLU, mLD, mHU, mHD, mSeen) => ∀ (H : Heap) (locs : List Loc) (ls : Array Slot), va_P D vwCl [eO mO 6 [.int (zI mth), .ref mQtext, .int (zI mmany), .int (zI mcur), .int (zI mst), .int (zI mtok), .int (zI mval), .ref mQnow, .ref mQfresh, .ref mQwas, .int (zI macts), .ref mQisKept, .ref mQkept, .ref mQheard, .ref mQnumber, .ref mQlowUp, .ref mQlowDown, .ref mQhighUp, .ref mQhighDown, .int (zI mlev), .ref mQseen, .int (zI memp), .ref mQfirst], eA mQnow (cy 0) 11 mNow, eA mQheard (cy 0) 11 mHeard, eA mQnumber (cy 0) 7 mNum, eA mQlowUp (cy 0) 7 mLU, eA mQlowDown (cy 0) 7 mLD, eA mQhighUp (cy 0) 7 mHU, eA mQhighDown (cy 0) 7 mHD, eA mQseen (cy 2) 512 mSeen] H → va_D A [eO mO 6 [.int (zI mth), .ref mQtext, .int (zI mmany), .int (zI mcur), .int (zI mst), .int (zI mtok), .int (zI mval), .ref mQnow, .ref mQfresh, .ref mQwas, .int (zI macts), .ref mQisKept, .ref mQkept, .ref mQheard, .ref mQnumber, .ref mQlowUp, .ref mQlowDown, .ref mQhighUp, .ref mQhighDown, .int (zI mlev), .ref mQseen, .int (zI memp), .ref mQfirst], eA mQnow (cy 0) 11 mNow, eA mQheard (cy 0) 11 mHeard, eA mQnumber (cy 0) 7 mNum, eA mQlowUp (cy 0) 7 mLU, eA mQlowDown (cy 0) 7 mLD, eA mQhighUp (cy 0) 7 mHU, eA mQhighDown (cy 0) 7 mHD, eA mQseen (cy 2) 512 mSeen] → va_S A s.heap H locs → lv_has ls 7 [(0, .ref mO), (1, .int (zI p1)), (2, .int (zI p2)), (3, .int (zI x3))] → zGi p l e wsX7_held ({ frames := 3, cells := 0, slots := 0, locals := 70 }) s m [.ref mO, .int (zI p1), .int (zI p2)] below meth c A D [eO mO 6 [.int (zI mth'), .ref mQtext, .int (zI mmany), .int (zI mcur), .int (zI mst), .int (zI mtok), .int (zI mval), .ref mQnow, .ref mQfresh, .ref mQwas, .int (zI macts), .ref mQisKept, .ref mQkept, .ref mQheard, .ref mQnumber, .ref mQlowUp, .ref mQlowDown, .ref mQhighUp, .ref mQhighDown, .int (zI mlev'), .ref mQseen, .int (zI memp), .ref mQfirst], eA mQnow (cy 0) 11 mNow, eA mQheard (cy 0) 11 mHeard', eA mQnumber (cy 0) 7 mNum', eA mQlowUp (cy 0) 7 mLU', eA mQlowDown (cy 0) 7 mLD', eA mQhighUp (cy 0) 7 mHU', eA mQhighDown (cy 0) 7 mHD', eA mQseen (cy 2) 512 mSeen'] (zI r) H locs (F0 m 67 ls [])
    | (2, x3, x4, x5, x6, mth, mlev, mHeard, mNum, mLU, mLD, mHU, mHD, mSeen) => ∀ (H : Heap) (locs : List Loc) (ls : Array Slot), va_P D vwCl [eO mO 6 [.int (zI mth), .ref mQtext, .int (zI mmany), .int (zI mcur), .int (zI mst), .int (zI mtok), .int (zI mval), .ref mQnow, .ref mQfresh, .ref mQwas, .int (zI macts), .ref mQisKept, .ref mQkept, .ref mQheard, .ref mQnumber, .ref mQlowUp, .ref mQlowDown, .ref mQhighUp, .ref mQhighDown, .int (zI mlev), .ref mQseen, .int (zI memp), .ref mQfirst], eA mQnow (cy 0) 11 mNow, eA mQheard (cy 0) 11 mHeard, eA mQnumber (cy 0) 7 mNum, eA mQlowUp (cy 0) 7 mLU, eA mQlowDown (cy 0) 7 mLD, eA mQhighUp (cy 0) 7 mHU, eA mQhighDown (cy 0) 7 mHD, eA mQseen (cy 2) 512 mSeen] H → va_D A [eO mO 6 [.int (zI mth), .ref mQtext, .int (zI mmany), .int (zI mcur), .int (zI mst), .int (zI mtok), .int (zI mval), .ref mQnow, .ref mQfresh, .ref mQwas, .int (zI macts), .ref mQisKept, .ref mQkept, .ref mQheard, .ref mQnumber, .ref mQlowUp, .ref mQlowDown, .ref mQhighUp, .ref mQhighDown, .int (zI mlev), .ref mQseen, .int (zI memp), .ref mQfirst], eA mQnow (cy 0) 11 mNow, eA mQheard (cy 0) 11 mHeard, eA mQnumber (cy 0) 7 mNum, eA mQlowUp (cy 0) 7 mLU, eA mQlowDown (cy 0) 7 mLD, eA mQhighUp (cy 0) 7 mHU, eA mQhighDown (cy 0) 7 mHD, eA mQseen (cy 2) 512 mSeen] → va_S A s.heap H locs → lv_has ls 7 [(0, .ref mO), (1, .int (zI p1)), (2, .int (zI p2)), (3, .int (zI x3)), (4, .int (zI x4)), (5, .int (zI x5)), (6, .int (zI x6))] → zGi p l e wsX7_held ({ frames := 3, cells := 0, slots := 0, locals := 70 }) s m [.ref mO, .int (zI p1), .int (zI p2)] below meth c A D [eO mO 6 [.int (zI mth'), .ref mQtext, .int (zI mmany), .int (zI mcur), .int (zI mst), .int (zI mtok), .int (zI mval), .ref mQnow, .ref mQfresh, .ref mQwas, .int (zI macts), .ref mQisKept, .ref mQkept, .ref mQheard, .ref mQnumber, .ref mQlowUp, .ref mQlowDown, .ref mQhighUp, .ref mQhighDown, .int (zI mlev'), .ref mQseen, .int (zI memp), .ref mQfirst], eA mQnow (cy 0) 11 mNow, eA mQheard (cy 0) 11 mHeard', eA mQnumber (cy 0) 7 mNum', eA mQlowUp (cy 0) 7 mLU', eA mQlowDown (cy 0) 7 mLD', eA mQhighUp (cy 0) 7 mHU', eA mQhighDown (cy 0) 7 mHD', eA mQseen (cy 2) 512 mSeen'] (zI r) H locs (F0 m 111 ls [])
    | _ => True) (by
    rintro ⟨k, x3, x4, x5, x6, mth, mlev, mHeard, mNum, mLU, mLD, mHU, mHD, mSeen⟩ hf
    match k, hf with
    | 0, hf =>
      intro H locs ls hP hD hS hl
      unfold st_X7_held at hf
      try dsimp only at hf
      refine lv_iload_n hx hb dX7_held_39 rfl (lv_at hl 3 rfl) ?_
      refine lv_sipush (v := zI 512) hx hb dX7_held_40 (by decide) ?_
      refine zz_icmp_ge (tgt := 59) hx hb dX7_held_43 (by decide) hf (fun hc hf => ?_) (fun hc hf => ?_)
      · refine lv_aload_n hx hb dX7_held_46 rfl (lv_at hl 0 rfl) ?_
        refine va_get (D := D) (ci := 6) (v := .ref mQseen) (C := RX7) (T := TX7) (N := 23) hx hb hts u_X7_held_X7 hown hK.1 hP 0 rfl rfl 20 (by decide) (hts _ m_X7_held_4) (fun _ h9 => h9) rfl dX7_held_47 ?_
        refine lv_iload_n hx hb dX7_held_50 rfl (lv_at hl 3 rfl) ?_
        refine lv_iconst (v := zI 0) hx hb dX7_held_51 rfl ?_
        obtain ⟨hg, hf⟩ := zq_gd hf
        refine zz_zast (i := x3) hx hb hK hP hD hS 8 rfl (Nat.le_of_ble_eq_true rfl) hg (by decide) dX7_held_52 (fun H locs hP hD hS => ?_)
        have hP : va_P D vwCl [eO mO 6 [.int (zI mth), .ref mQtext, .int (zI mmany), .int (zI mcur), .int (zI mst), .int (zI mtok), .int (zI mval), .ref mQnow, .ref mQfresh, .ref mQwas, .int (zI macts), .ref mQisKept, .ref mQkept, .ref mQheard, .ref mQnumber, .ref mQlowUp, .ref mQlowDown, .ref mQhighUp, .ref mQhighDown, .int (zI mlev), .ref mQseen, .int (zI memp), .ref mQfirst], eA mQnow (cy 0) 11 mNow, eA mQheard (cy 0) 11 mHeard, eA mQnumber (cy 0) 7 mNum, eA mQlowUp (cy 0) 7 mLU, eA mQlowDown (cy 0) 7 mLD, eA mQhighUp (cy 0) 7 mHU, eA mQhighDown (cy 0) 7 mHD, eA mQseen (cy 2) 512 (zup mSeen x3 0)] H := hP
        have hD : va_D A [eO mO 6 [.int (zI mth), .ref mQtext, .int (zI mmany), .int (zI mcur), .int (zI mst), .int (zI mtok), .int (zI mval), .ref mQnow, .ref mQfresh, .ref mQwas, .int (zI macts), .ref mQisKept, .ref mQkept, .ref mQheard, .ref mQnumber, .ref mQlowUp, .ref mQlowDown, .ref mQhighUp, .ref mQhighDown, .int (zI mlev), .ref mQseen, .int (zI memp), .ref mQfirst], eA mQnow (cy 0) 11 mNow, eA mQheard (cy 0) 11 mHeard, eA mQnumber (cy 0) 7 mNum, eA mQlowUp (cy 0) 7 mLU, eA mQlowDown (cy 0) 7 mLD, eA mQhighUp (cy 0) 7 mHU, eA mQhighDown (cy 0) 7 mHD, eA mQseen (cy 2) 512 (zup mSeen x3 0)] := hD
        refine lv_iinc (v := zI (x3 + 1)) (lv' := [(3, .int (zI (x3 + 1))), (0, .ref mO), (1, .int (zI p1)), (2, .int (zI p2))]) hx hb dX7_held_53 hl (k := 3) rfl (zI_add _ _) (by decide) rfl (fun ls hl => ?_)
        refine lv_goto (tgt := 39) hx hb dX7_held_56 (by decide) ?_
        have hf := zq_some hf
        exact hf _ _ _ hP hD hS (lv_sub hl [1, 2, 3, 0] rfl)
      · refine lv_aload_n hx hb dX7_held_59 rfl (lv_at hl 0 rfl) ?_
        refine lv_aload_n hx hb dX7_held_60 rfl (lv_at hl 0 rfl) ?_
        refine va_get (D := D) (ci := 6) (v := .ref mQnow) (C := RX7) (T := TX7) (N := 23) hx hb hts u_X7_held_X7 hown hK.1 hP 0 rfl rfl 7 (by decide) (hts _ m_X7_held_2) (fun _ h9 => h9) rfl dX7_held_61 ?_
        obtain ⟨⟨mlev_64, mHeard_64, mNum_64, mLU_64, mLD_64, mHU_64, mHD_64⟩, hc64, hf⟩ := zq_bind hf
        refine zcallVv (wr := [eA mQseen (cy 2) 512 mSeen]) (rest := []) ⟨hx, hb, hml, hown, hts⟩ (c_X7_begin_n l D cy mO mQtext mQnow mQfresh mQwas mQisKept mQkept mQheard mQnumber mQlowUp mQlowDown mQhighUp mQhighDown mQseen mQfirst H.size mth mmany mcur mst mtok mval macts mlev memp mNow mHeard mNum mLU mLD mHU mHD hc64) (cwV 1 hts gX7_held_X7_begin rfl rfl rfl (by decide +kernel) ⟨Nat.le_of_ble_eq_true rfl, Nat.le_of_ble_eq_true rfl⟩) hK hP hD hS hA [0, 1, 2, 3, 4, 5, 6, 7] [8] rfl rfl rfl rfl (by decide) (va_recv hK.1 hP (ci := 6) (q0 := 0) rfl rfl) rfl hl.1 rfl (Nat.le_of_ble_eq_true rfl) dX7_held_64 ⟨Nat.zero_le _, Nat.zero_le _⟩ (fun H locs hP hD hS => ?_)
        have hP : va_P D vwCl [eO mO 6 [.int (zI mth), .ref mQtext, .int (zI mmany), .int (zI mcur), .int (zI mst), .int (zI mtok), .int (zI mval), .ref mQnow, .ref mQfresh, .ref mQwas, .int (zI macts), .ref mQisKept, .ref mQkept, .ref mQheard, .ref mQnumber, .ref mQlowUp, .ref mQlowDown, .ref mQhighUp, .ref mQhighDown, .int (zI mlev_64), .ref mQseen, .int (zI memp), .ref mQfirst], eA mQnow (cy 0) 11 mNow, eA mQheard (cy 0) 11 mHeard_64, eA mQnumber (cy 0) 7 mNum_64, eA mQlowUp (cy 0) 7 mLU_64, eA mQlowDown (cy 0) 7 mLD_64, eA mQhighUp (cy 0) 7 mHU_64, eA mQhighDown (cy 0) 7 mHD_64, eA mQseen (cy 2) 512 mSeen] H := hP.sub [1, 2, 3, 4, 5, 6, 7, 8, 0] rfl
        have hD : va_D A [eO mO 6 [.int (zI mth), .ref mQtext, .int (zI mmany), .int (zI mcur), .int (zI mst), .int (zI mtok), .int (zI mval), .ref mQnow, .ref mQfresh, .ref mQwas, .int (zI macts), .ref mQisKept, .ref mQkept, .ref mQheard, .ref mQnumber, .ref mQlowUp, .ref mQlowDown, .ref mQhighUp, .ref mQhighDown, .int (zI mlev_64), .ref mQseen, .int (zI memp), .ref mQfirst], eA mQnow (cy 0) 11 mNow, eA mQheard (cy 0) 11 mHeard_64, eA mQnumber (cy 0) 7 mNum_64, eA mQlowUp (cy 0) 7 mLU_64, eA mQlowDown (cy 0) 7 mLD_64, eA mQhighUp (cy 0) 7 mHU_64, eA mQhighDown (cy 0) 7 mHD_64, eA mQseen (cy 2) 512 mSeen] := hD.sub [1, 2, 3, 4, 5, 6, 7, 8, 0] rfl rfl
        have hf := zq_some hf
        exact hf _ _ _ hP hD hS (lv_sub hl [0, 1, 2, 3] rfl)
    | 1, hf =>
      intro H locs ls hP hD hS hl
      unfold st_X7_held at hf
      try dsimp only at hf
      refine lv_aload_n hx hb dX7_held_67 rfl (lv_at hl 0 rfl) ?_
      obtain ⟨⟨r68, mlev_68, mHeard_68, mNum_68, mLU_68, mLD_68, mHU_68, mHD_68⟩, hc68, hf⟩ := zq_bind hf
      refine zcallVi (wr := [eA mQnow (cy 0) 11 mNow, eA mQseen (cy 2) 512 mSeen]) (rest := []) ⟨hx, hb, hml, hown, hts⟩ (c_X7_goesOn l D cy mO mQtext mQnow mQfresh mQwas mQisKept mQkept mQheard mQnumber mQlowUp mQlowDown mQhighUp mQhighDown mQseen mQfirst H.size mth mmany mcur mst mtok mval macts mlev memp mHeard mNum mLU mLD mHU mHD hc68) (cwV 0 hts gX7_held_X7_goesOn rfl rfl rfl (by decide +kernel) ⟨Nat.le_of_ble_eq_true rfl, Nat.le_of_ble_eq_true rfl⟩) hK hP hD hS hA [0, 2, 3, 4, 5, 6, 7] [1, 8] rfl rfl rfl rfl (by decide) (va_recv hK.1 hP (ci := 6) (q0 := 0) rfl rfl) rfl hl.1 rfl (Nat.le_of_ble_eq_true rfl) dX7_held_68 ⟨Nat.zero_le _, Nat.zero_le _⟩ (fun H locs hP hD hS => ?_)
      have hP : va_P D vwCl [eO mO 6 [.int (zI mth), .ref mQtext, .int (zI mmany), .int (zI mcur), .int (zI mst), .int (zI mtok), .int (zI mval), .ref mQnow, .ref mQfresh, .ref mQwas, .int (zI macts), .ref mQisKept, .ref mQkept, .ref mQheard, .ref mQnumber, .ref mQlowUp, .ref mQlowDown, .ref mQhighUp, .ref mQhighDown, .int (zI mlev_68), .ref mQseen, .int (zI memp), .ref mQfirst], eA mQnow (cy 0) 11 mNow, eA mQheard (cy 0) 11 mHeard_68, eA mQnumber (cy 0) 7 mNum_68, eA mQlowUp (cy 0) 7 mLU_68, eA mQlowDown (cy 0) 7 mLD_68, eA mQhighUp (cy 0) 7 mHU_68, eA mQhighDown (cy 0) 7 mHD_68, eA mQseen (cy 2) 512 mSeen] H := hP.sub [2, 0, 3, 4, 5, 6, 7, 8, 1] rfl
      have hD : va_D A [eO mO 6 [.int (zI mth), .ref mQtext, .int (zI mmany), .int (zI mcur), .int (zI mst), .int (zI mtok), .int (zI mval), .ref mQnow, .ref mQfresh, .ref mQwas, .int (zI macts), .ref mQisKept, .ref mQkept, .ref mQheard, .ref mQnumber, .ref mQlowUp, .ref mQlowDown, .ref mQhighUp, .ref mQhighDown, .int (zI mlev_68), .ref mQseen, .int (zI memp), .ref mQfirst], eA mQnow (cy 0) 11 mNow, eA mQheard (cy 0) 11 mHeard_68, eA mQnumber (cy 0) 7 mNum_68, eA mQlowUp (cy 0) 7 mLU_68, eA mQlowDown (cy 0) 7 mLD_68, eA mQhighUp (cy 0) 7 mHU_68, eA mQhighDown (cy 0) 7 mHD_68, eA mQseen (cy 2) 512 mSeen] := hD.sub [2, 0, 3, 4, 5, 6, 7, 8, 1] rfl rfl
      refine zz_if_eq (tgt := 98) hx hb dX7_held_71 (by decide) hf (fun hc hf => ?_) (fun hc hf => ?_)
      · refine lv_iconst (v := zI 0) hx hb dX7_held_98 rfl ?_
        refine lv_istore_n (lv' := [(3, .int (zI 0)), (0, .ref mO), (1, .int (zI p1)), (2, .int (zI p2))]) hx hb dX7_held_99 rfl hl (by decide) rfl (fun ls hl => ?_)
        refine lv_bipush (v := zI (-9)) hx hb dX7_held_100 (by decide) ?_
        refine lv_istore (lv' := [(4, .int (zI (-9))), (3, .int (zI 0)), (0, .ref mO), (1, .int (zI p1)), (2, .int (zI p2))]) hx hb dX7_held_102 hl (by decide) rfl (fun ls hl => ?_)
        refine lv_bipush (v := zI (-9)) hx hb dX7_held_104 (by decide) ?_
        refine lv_istore (lv' := [(5, .int (zI (-9))), (4, .int (zI (-9))), (3, .int (zI 0)), (0, .ref mO), (1, .int (zI p1)), (2, .int (zI p2))]) hx hb dX7_held_106 hl (by decide) rfl (fun ls hl => ?_)
        refine lv_iconst (v := zI 0) hx hb dX7_held_108 rfl ?_
        refine lv_istore (lv' := [(6, .int (zI 0)), (5, .int (zI (-9))), (4, .int (zI (-9))), (3, .int (zI 0)), (0, .ref mO), (1, .int (zI p1)), (2, .int (zI p2))]) hx hb dX7_held_109 hl (by decide) rfl (fun ls hl => ?_)
        have hf := zq_some hf
        exact hf _ _ _ hP hD hS (lv_sub hl [4, 5, 6, 3, 2, 1, 0] rfl)
      · refine lv_aload_n hx hb dX7_held_74 rfl (lv_at hl 0 rfl) ?_
        refine va_get (D := D) (ci := 6) (v := .ref mQseen) (C := RX7) (T := TX7) (N := 23) hx hb hts u_X7_held_X7 hown hK.1 hP 0 rfl rfl 20 (by decide) (hts _ m_X7_held_4) (fun _ h9 => h9) rfl dX7_held_75 ?_
        refine lv_aload_n hx hb dX7_held_78 rfl (lv_at hl 0 rfl) ?_
        refine va_get (D := D) (ci := 6) (v := .ref mQnumber) (C := RX7) (T := TX7) (N := 23) hx hb hts u_X7_held_X7 hown hK.1 hP 0 rfl rfl 14 (by decide) (hts _ m_X7_held_5) (fun _ h9 => h9) rfl dX7_held_79 ?_
        refine lv_iload_n hx hb dX7_held_82 rfl (lv_at hl 1 rfl) ?_
        refine lv_iconst (v := zI 1) hx hb dX7_held_83 rfl ?_
        refine zz_iadd hx hb dX7_held_84 ?_
        obtain ⟨hg, hf⟩ := zq_gd hf
        refine zz_iald (i := (p1 + 1)) hx hb hK hP 3 rfl (Nat.le_of_ble_eq_true rfl) hg dX7_held_85 ?_
        refine lv_aload_n hx hb dX7_held_86 rfl (lv_at hl 0 rfl) ?_
        refine va_get (D := D) (ci := 6) (v := .ref mQnumber) (C := RX7) (T := TX7) (N := 23) hx hb hts u_X7_held_X7 hown hK.1 hP 0 rfl rfl 14 (by decide) (hts _ m_X7_held_5) (fun _ h9 => h9) rfl dX7_held_87 ?_
        refine lv_iload_n hx hb dX7_held_90 rfl (lv_at hl 1 rfl) ?_
        obtain ⟨hg, hf⟩ := zq_gd hf
        refine zz_iald (i := p1) hx hb hK hP 3 rfl (Nat.le_of_ble_eq_true rfl) hg dX7_held_91 ?_
        refine zz_isub hx hb dX7_held_92 ?_
        refine lv_iconst (v := zI 1) hx hb dX7_held_93 rfl ?_
        obtain ⟨hg, hf⟩ := zq_gd hf
        refine zz_zast (i := ((mNum_68 (Int.toNat (p1 + 1))) - (mNum_68 (Int.toNat p1)))) hx hb hK hP hD hS 8 rfl (Nat.le_of_ble_eq_true rfl) hg (by decide) dX7_held_94 (fun H locs hP hD hS => ?_)
        have hP : va_P D vwCl [eO mO 6 [.int (zI mth), .ref mQtext, .int (zI mmany), .int (zI mcur), .int (zI mst), .int (zI mtok), .int (zI mval), .ref mQnow, .ref mQfresh, .ref mQwas, .int (zI macts), .ref mQisKept, .ref mQkept, .ref mQheard, .ref mQnumber, .ref mQlowUp, .ref mQlowDown, .ref mQhighUp, .ref mQhighDown, .int (zI mlev_68), .ref mQseen, .int (zI memp), .ref mQfirst], eA mQnow (cy 0) 11 mNow, eA mQheard (cy 0) 11 mHeard_68, eA mQnumber (cy 0) 7 mNum_68, eA mQlowUp (cy 0) 7 mLU_68, eA mQlowDown (cy 0) 7 mLD_68, eA mQhighUp (cy 0) 7 mHU_68, eA mQhighDown (cy 0) 7 mHD_68, eA mQseen (cy 2) 512 (zup mSeen ((mNum_68 (Int.toNat (p1 + 1))) - (mNum_68 (Int.toNat p1))) 1)] H := hP
        have hD : va_D A [eO mO 6 [.int (zI mth), .ref mQtext, .int (zI mmany), .int (zI mcur), .int (zI mst), .int (zI mtok), .int (zI mval), .ref mQnow, .ref mQfresh, .ref mQwas, .int (zI macts), .ref mQisKept, .ref mQkept, .ref mQheard, .ref mQnumber, .ref mQlowUp, .ref mQlowDown, .ref mQhighUp, .ref mQhighDown, .int (zI mlev_68), .ref mQseen, .int (zI memp), .ref mQfirst], eA mQnow (cy 0) 11 mNow, eA mQheard (cy 0) 11 mHeard_68, eA mQnumber (cy 0) 7 mNum_68, eA mQlowUp (cy 0) 7 mLU_68, eA mQlowDown (cy 0) 7 mLD_68, eA mQhighUp (cy 0) 7 mHU_68, eA mQhighDown (cy 0) 7 mHD_68, eA mQseen (cy 2) 512 (zup mSeen ((mNum_68 (Int.toNat (p1 + 1))) - (mNum_68 (Int.toNat p1))) 1)] := hD
        refine lv_goto (tgt := 67) hx hb dX7_held_95 (by decide) ?_
        have hf := zq_some hf
        exact hf _ _ _ hP hD hS (lv_sub hl [0, 1, 2, 3] rfl)
    | 2, hf =>
      intro H locs ls hP hD hS hl
      unfold st_X7_held at hf
      try dsimp only at hf
      refine lv_iload hx hb dX7_held_111 (lv_at hl 6 rfl) ?_
      refine lv_sipush (v := zI 512) hx hb dX7_held_113 (by decide) ?_
      refine zz_icmp_ge (tgt := 155) hx hb dX7_held_116 (by decide) hf (fun hc hf => ?_) (fun hc hf => ?_)
      · refine lv_aload_n hx hb dX7_held_119 rfl (lv_at hl 0 rfl) ?_
        refine va_get (D := D) (ci := 6) (v := .ref mQseen) (C := RX7) (T := TX7) (N := 23) hx hb hts u_X7_held_X7 hown hK.1 hP 0 rfl rfl 20 (by decide) (hts _ m_X7_held_4) (fun _ h9 => h9) rfl dX7_held_120 ?_
        refine lv_iload hx hb dX7_held_123 (lv_at hl 6 rfl) ?_
        obtain ⟨hg, hf⟩ := zq_gd hf
        refine zz_zald (i := x6) hx hb hK hP 8 rfl (Nat.le_of_ble_eq_true rfl) hg dX7_held_125 ?_
        refine zz_if_eq (tgt := 149) hx hb dX7_held_126 (by decide) hf (fun hc hf => ?_) (fun hc hf => ?_)
        · refine lv_iinc (v := zI (x6 + 1)) (lv' := [(6, .int (zI (x6 + 1))), (0, .ref mO), (1, .int (zI p1)), (2, .int (zI p2)), (3, .int (zI x3)), (4, .int (zI x4)), (5, .int (zI x5))]) hx hb dX7_held_149 hl (k := 6) rfl (zI_add _ _) (by decide) rfl (fun ls hl => ?_)
          refine lv_goto (tgt := 111) hx hb dX7_held_152 (by decide) ?_
          have hf := zq_some hf
          exact hf _ _ _ hP hD hS (lv_sub hl [1, 2, 3, 4, 5, 6, 0] rfl)
        · refine lv_iload_n hx hb dX7_held_129 rfl (lv_at hl 3 rfl) ?_
          refine zz_if_ne (tgt := 138) hx hb dX7_held_130 (by decide) hf (fun hc hf => ?_) (fun hc hf => ?_)
          · refine lv_iload hx hb dX7_held_133 (lv_at hl 6 rfl) ?_
            refine lv_goto (tgt := 140) hx hb dX7_held_135 (by decide) ?_
            refine lv_istore (lv' := [(4, .int (zI x6)), (0, .ref mO), (1, .int (zI p1)), (2, .int (zI p2)), (3, .int (zI x3)), (5, .int (zI x5)), (6, .int (zI x6))]) hx hb dX7_held_140 hl (by decide) rfl (fun ls hl => ?_)
            refine lv_iload hx hb dX7_held_142 (lv_at hl 6 rfl) ?_
            refine lv_istore (lv' := [(5, .int (zI x6)), (4, .int (zI x6)), (0, .ref mO), (1, .int (zI p1)), (2, .int (zI p2)), (3, .int (zI x3)), (6, .int (zI x6))]) hx hb dX7_held_144 hl (by decide) rfl (fun ls hl => ?_)
            refine lv_iinc (v := zI (x3 + 1)) (lv' := [(3, .int (zI (x3 + 1))), (5, .int (zI x6)), (4, .int (zI x6)), (0, .ref mO), (1, .int (zI p1)), (2, .int (zI p2)), (6, .int (zI x6))]) hx hb dX7_held_146 hl (k := 5) rfl (zI_add _ _) (by decide) rfl (fun ls hl => ?_)
            refine lv_iinc (v := zI (x6 + 1)) (lv' := [(6, .int (zI (x6 + 1))), (3, .int (zI (x3 + 1))), (5, .int (zI x6)), (4, .int (zI x6)), (0, .ref mO), (1, .int (zI p1)), (2, .int (zI p2))]) hx hb dX7_held_149 hl (k := 6) rfl (zI_add _ _) (by decide) rfl (fun ls hl => ?_)
            refine lv_goto (tgt := 111) hx hb dX7_held_152 (by decide) ?_
            have hf := zq_some hf
            exact hf _ _ _ hP hD hS (lv_sub hl [4, 5, 6, 1, 3, 2, 0] rfl)
          · refine lv_iload hx hb dX7_held_138 (lv_at hl 4 rfl) ?_
            refine lv_istore (lv' := [(4, .int (zI x4)), (0, .ref mO), (1, .int (zI p1)), (2, .int (zI p2)), (3, .int (zI x3)), (5, .int (zI x5)), (6, .int (zI x6))]) hx hb dX7_held_140 hl (by decide) rfl (fun ls hl => ?_)
            refine lv_iload hx hb dX7_held_142 (lv_at hl 6 rfl) ?_
            refine lv_istore (lv' := [(5, .int (zI x6)), (4, .int (zI x4)), (0, .ref mO), (1, .int (zI p1)), (2, .int (zI p2)), (3, .int (zI x3)), (6, .int (zI x6))]) hx hb dX7_held_144 hl (by decide) rfl (fun ls hl => ?_)
            refine lv_iinc (v := zI (x3 + 1)) (lv' := [(3, .int (zI (x3 + 1))), (5, .int (zI x6)), (4, .int (zI x4)), (0, .ref mO), (1, .int (zI p1)), (2, .int (zI p2)), (6, .int (zI x6))]) hx hb dX7_held_146 hl (k := 5) rfl (zI_add _ _) (by decide) rfl (fun ls hl => ?_)
            refine lv_iinc (v := zI (x6 + 1)) (lv' := [(6, .int (zI (x6 + 1))), (3, .int (zI (x3 + 1))), (5, .int (zI x6)), (4, .int (zI x4)), (0, .ref mO), (1, .int (zI p1)), (2, .int (zI p2))]) hx hb dX7_held_149 hl (k := 6) rfl (zI_add _ _) (by decide) rfl (fun ls hl => ?_)
            refine lv_goto (tgt := 111) hx hb dX7_held_152 (by decide) ?_
            have hf := zq_some hf
            exact hf _ _ _ hP hD hS (lv_sub hl [4, 5, 6, 1, 3, 2, 0] rfl)
      · refine lv_iload_n hx hb dX7_held_155 rfl (lv_at hl 2 rfl) ?_
        refine zz_if_ne (tgt := 163) hx hb dX7_held_156 (by decide) hf (fun hc hf => ?_) (fun hc hf => ?_)
        · refine lv_iload_n hx hb dX7_held_159 rfl (lv_at hl 3 rfl) ?_
          refine lv_goto (tgt := 175) hx hb dX7_held_160 (by decide) ?_
          have hf := zq_some hf
          cases hf
          exact W.iret hx hb hr (fun t ht hW => ⟨⟨_, (), rfl, rfl, by rw [ht]; exact hP, hD⟩, hS.F ht⟩) hS.2.2 dX7_held_175
        · refine lv_iload_n hx hb dX7_held_163 rfl (lv_at hl 2 rfl) ?_
          refine lv_iconst (v := zI 1) hx hb dX7_held_164 rfl ?_
          refine zz_icmp_ne (tgt := 173) hx hb dX7_held_165 (by decide) hf (fun hc hf => ?_) (fun hc hf => ?_)
          · refine lv_iload hx hb dX7_held_168 (lv_at hl 4 rfl) ?_
            refine lv_goto (tgt := 175) hx hb dX7_held_170 (by decide) ?_
            have hf := zq_some hf
            cases hf
            exact W.iret hx hb hr (fun t ht hW => ⟨⟨_, (), rfl, rfl, by rw [ht]; exact hP, hD⟩, hS.F ht⟩) hS.2.2 dX7_held_175
          · refine lv_iload hx hb dX7_held_173 (lv_at hl 5 rfl) ?_
            have hf := zq_some hf
            cases hf
            exact W.iret hx hb hr (fun t ht hW => ⟨⟨_, (), rfl, rfl, by rw [ht]; exact hP, hD⟩, hS.F ht⟩) hS.2.2 dX7_held_175
    | n + 3, hf => exact hf.elim)
  unfold f_X7_held at hf
  refine lv_aload_n hx hb dX7_held_0 rfl (lv_at hl 0 rfl) ?_
  refine lv_iconst (v := zI 0) hx hb dX7_held_1 rfl ?_
  refine va_put (D := D) (ci := 6) (v := .int (zI 0)) (ty := .int) (C := RX7) (T := TX7) (N := 23) hx hb hts u_X7_held_X7 tyX7 tyX7_ok nmX7 hown hK.1 hP hD hS 0 rfl rfl 0 (by decide) (hts _ m_X7_held_1) (fun _ h9 => h9) rfl (tyX7_ok 0 (by decide)) rfl rfl (Nat.le_of_ble_eq_true rfl) dX7_held_2 (fun H locs hP hD hS => ?_)
  have hP : va_P D vwCl [eO mO 6 [.int (zI 0), .ref mQtext, .int (zI mmany), .int (zI mcur), .int (zI mst), .int (zI mtok), .int (zI mval), .ref mQnow, .ref mQfresh, .ref mQwas, .int (zI macts), .ref mQisKept, .ref mQkept, .ref mQheard, .ref mQnumber, .ref mQlowUp, .ref mQlowDown, .ref mQhighUp, .ref mQhighDown, .int (zI mlev), .ref mQseen, .int (zI memp), .ref mQfirst], eA mQnow (cy 0) 11 mNow, eA mQheard (cy 0) 11 mHeard, eA mQnumber (cy 0) 7 mNum, eA mQlowUp (cy 0) 7 mLU, eA mQlowDown (cy 0) 7 mLD, eA mQhighUp (cy 0) 7 mHU, eA mQhighDown (cy 0) 7 mHD, eA mQseen (cy 2) 512 mSeen] H := hP
  have hD : va_D A [eO mO 6 [.int (zI 0), .ref mQtext, .int (zI mmany), .int (zI mcur), .int (zI mst), .int (zI mtok), .int (zI mval), .ref mQnow, .ref mQfresh, .ref mQwas, .int (zI macts), .ref mQisKept, .ref mQkept, .ref mQheard, .ref mQnumber, .ref mQlowUp, .ref mQlowDown, .ref mQhighUp, .ref mQhighDown, .int (zI mlev), .ref mQseen, .int (zI memp), .ref mQfirst], eA mQnow (cy 0) 11 mNow, eA mQheard (cy 0) 11 mHeard, eA mQnumber (cy 0) 7 mNum, eA mQlowUp (cy 0) 7 mLU, eA mQlowDown (cy 0) 7 mLD, eA mQhighUp (cy 0) 7 mHU, eA mQhighDown (cy 0) 7 mHD, eA mQseen (cy 2) 512 mSeen] := hD
  refine lv_iload_n hx hb dX7_held_5 rfl (lv_at hl 1 rfl) ?_
  obtain ⟨hg, hf⟩ := zq_gd hf
  refine lv_i2l (v := zL p1) hx hb dX7_held_6 (zL_i hg) ?_
  refine lv_lconst (v := zL 0) hx hb dX7_held_7 (by decide) ?_
  refine lv_aload_n hx hb dX7_held_8 rfl (lv_at hl 0 rfl) ?_
  refine va_get (D := D) (ci := 6) (v := .ref mQnow) (C := RX7) (T := TX7) (N := 23) hx hb hts u_X7_held_X7 hown hK.1 hP 0 rfl rfl 7 (by decide) (hts _ m_X7_held_2) (fun _ h9 => h9) rfl dX7_held_9 ?_
  refine lv_iconst (v := zI 0) hx hb dX7_held_12 rfl ?_
  refine zz_iald (i := 0) hx hb hK hP 1 rfl (Nat.le_of_ble_eq_true rfl) (by decide) dX7_held_13 ?_
  refine lv_iconst (v := zI 2) hx hb dX7_held_14 rfl ?_
  refine zz_isub hx hb dX7_held_15 ?_
  obtain ⟨hg, hf⟩ := zq_gd hf
  refine lv_i2l (v := zL ((mNow 0) - 2)) hx hb dX7_held_16 (zL_i hg) ?_
  obtain ⟨r17, hc17, hf⟩ := zq_bind hf
  refine zcallSi (wr := [eO mO 6 [.int (zI 0), .ref mQtext, .int (zI mmany), .int (zI mcur), .int (zI mst), .int (zI mtok), .int (zI mval), .ref mQnow, .ref mQfresh, .ref mQwas, .int (zI macts), .ref mQisKept, .ref mQkept, .ref mQheard, .ref mQnumber, .ref mQlowUp, .ref mQlowDown, .ref mQhighUp, .ref mQhighDown, .int (zI mlev), .ref mQseen, .int (zI memp), .ref mQfirst], eA mQnow (cy 0) 11 mNow, eA mQheard (cy 0) 11 mHeard, eA mQnumber (cy 0) 7 mNum, eA mQlowUp (cy 0) 7 mLU, eA mQlowDown (cy 0) 7 mLD, eA mQhighUp (cy 0) 7 mHU, eA mQhighDown (cy 0) 7 mHD, eA mQseen (cy 2) 512 mSeen]) (rest := []) ⟨hx, hb, hml, hown, hts⟩ (c_X7_in l D cy H.size p1 0 ((mNow 0) - 2) hc17) (va_cwS 3 hts gX7_held_X7_in rfl rfl rfl (by decide +kernel) ⟨Nat.le_of_ble_eq_true rfl, Nat.le_of_ble_eq_true rfl⟩) hK hP hD hS hA [] [0, 1, 2, 3, 4, 5, 6, 7, 8] rfl rfl rfl rfl (by decide) rfl hl.1 rfl (Nat.le_of_ble_eq_true rfl) dX7_held_17 ⟨Nat.zero_le _, Nat.zero_le _⟩ (fun H locs hP hD hS => ?_)
  have hP : va_P D vwCl [eO mO 6 [.int (zI 0), .ref mQtext, .int (zI mmany), .int (zI mcur), .int (zI mst), .int (zI mtok), .int (zI mval), .ref mQnow, .ref mQfresh, .ref mQwas, .int (zI macts), .ref mQisKept, .ref mQkept, .ref mQheard, .ref mQnumber, .ref mQlowUp, .ref mQlowDown, .ref mQhighUp, .ref mQhighDown, .int (zI mlev), .ref mQseen, .int (zI memp), .ref mQfirst], eA mQnow (cy 0) 11 mNow, eA mQheard (cy 0) 11 mHeard, eA mQnumber (cy 0) 7 mNum, eA mQlowUp (cy 0) 7 mLU, eA mQlowDown (cy 0) 7 mLD, eA mQhighUp (cy 0) 7 mHU, eA mQhighDown (cy 0) 7 mHD, eA mQseen (cy 2) 512 mSeen] H := hP.sub [0, 1, 2, 3, 4, 5, 6, 7, 8] rfl
  have hD : va_D A [eO mO 6 [.int (zI 0), .ref mQtext, .int (zI mmany), .int (zI mcur), .int (zI mst), .int (zI mtok), .int (zI mval), .ref mQnow, .ref mQfresh, .ref mQwas, .int (zI macts), .ref mQisKept, .ref mQkept, .ref mQheard, .ref mQnumber, .ref mQlowUp, .ref mQlowDown, .ref mQhighUp, .ref mQhighDown, .int (zI mlev), .ref mQseen, .int (zI memp), .ref mQfirst], eA mQnow (cy 0) 11 mNow, eA mQheard (cy 0) 11 mHeard, eA mQnumber (cy 0) 7 mNum, eA mQlowUp (cy 0) 7 mLU, eA mQlowDown (cy 0) 7 mLD, eA mQhighUp (cy 0) 7 mHU, eA mQhighDown (cy 0) 7 mHD, eA mQseen (cy 2) 512 mSeen] := hD.sub [0, 1, 2, 3, 4, 5, 6, 7, 8] rfl rfl
  refine zz_if_eq (tgt := 35) hx hb dX7_held_20 (by decide) hf (fun hc hf => ?_) (fun hc hf => ?_)
  · refine lv_iconst (v := zI (-1)) hx hb dX7_held_35 rfl ?_
    have hf := zq_some hf
    cases hf
    exact W.iret hx hb hr (fun t ht hW => ⟨⟨_, (), rfl, rfl, by rw [ht]; exact hP, hD⟩, hS.F ht⟩) hS.2.2 dX7_held_36
  · refine lv_iload_n hx hb dX7_held_23 rfl (lv_at hl 2 rfl) ?_
    obtain ⟨hg, hf⟩ := zq_gd hf
    refine lv_i2l (v := zL p2) hx hb dX7_held_24 (zL_i hg) ?_
    refine lv_lconst (v := zL 0) hx hb dX7_held_25 (by decide) ?_
    refine lv_ldc2 (v := zL 2) hx hb hown (hts _ m_X7_held_3) dX7_held_26 ?_
    obtain ⟨r29, hc29, hf⟩ := zq_bind hf
    refine zcallSi (wr := [eO mO 6 [.int (zI 0), .ref mQtext, .int (zI mmany), .int (zI mcur), .int (zI mst), .int (zI mtok), .int (zI mval), .ref mQnow, .ref mQfresh, .ref mQwas, .int (zI macts), .ref mQisKept, .ref mQkept, .ref mQheard, .ref mQnumber, .ref mQlowUp, .ref mQlowDown, .ref mQhighUp, .ref mQhighDown, .int (zI mlev), .ref mQseen, .int (zI memp), .ref mQfirst], eA mQnow (cy 0) 11 mNow, eA mQheard (cy 0) 11 mHeard, eA mQnumber (cy 0) 7 mNum, eA mQlowUp (cy 0) 7 mLU, eA mQlowDown (cy 0) 7 mLD, eA mQhighUp (cy 0) 7 mHU, eA mQhighDown (cy 0) 7 mHD, eA mQseen (cy 2) 512 mSeen]) (rest := []) ⟨hx, hb, hml, hown, hts⟩ (c_X7_in l D cy H.size p2 0 2 hc29) (va_cwS 3 hts gX7_held_X7_in rfl rfl rfl (by decide +kernel) ⟨Nat.le_of_ble_eq_true rfl, Nat.le_of_ble_eq_true rfl⟩) hK hP hD hS hA [] [0, 1, 2, 3, 4, 5, 6, 7, 8] rfl rfl rfl rfl (by decide) rfl hl.1 rfl (Nat.le_of_ble_eq_true rfl) dX7_held_29 ⟨Nat.zero_le _, Nat.zero_le _⟩ (fun H locs hP hD hS => ?_)
    have hP : va_P D vwCl [eO mO 6 [.int (zI 0), .ref mQtext, .int (zI mmany), .int (zI mcur), .int (zI mst), .int (zI mtok), .int (zI mval), .ref mQnow, .ref mQfresh, .ref mQwas, .int (zI macts), .ref mQisKept, .ref mQkept, .ref mQheard, .ref mQnumber, .ref mQlowUp, .ref mQlowDown, .ref mQhighUp, .ref mQhighDown, .int (zI mlev), .ref mQseen, .int (zI memp), .ref mQfirst], eA mQnow (cy 0) 11 mNow, eA mQheard (cy 0) 11 mHeard, eA mQnumber (cy 0) 7 mNum, eA mQlowUp (cy 0) 7 mLU, eA mQlowDown (cy 0) 7 mLD, eA mQhighUp (cy 0) 7 mHU, eA mQhighDown (cy 0) 7 mHD, eA mQseen (cy 2) 512 mSeen] H := hP.sub [0, 1, 2, 3, 4, 5, 6, 7, 8] rfl
    have hD : va_D A [eO mO 6 [.int (zI 0), .ref mQtext, .int (zI mmany), .int (zI mcur), .int (zI mst), .int (zI mtok), .int (zI mval), .ref mQnow, .ref mQfresh, .ref mQwas, .int (zI macts), .ref mQisKept, .ref mQkept, .ref mQheard, .ref mQnumber, .ref mQlowUp, .ref mQlowDown, .ref mQhighUp, .ref mQhighDown, .int (zI mlev), .ref mQseen, .int (zI memp), .ref mQfirst], eA mQnow (cy 0) 11 mNow, eA mQheard (cy 0) 11 mHeard, eA mQnumber (cy 0) 7 mNum, eA mQlowUp (cy 0) 7 mLU, eA mQlowDown (cy 0) 7 mLD, eA mQhighUp (cy 0) 7 mHU, eA mQhighDown (cy 0) 7 mHD, eA mQseen (cy 2) 512 mSeen] := hD.sub [0, 1, 2, 3, 4, 5, 6, 7, 8] rfl rfl
    refine zz_if_ne (tgt := 37) hx hb dX7_held_32 (by decide) hf (fun hc hf => ?_) (fun hc hf => ?_)
    · refine lv_iconst (v := zI (-1)) hx hb dX7_held_35 rfl ?_
      have hf := zq_some hf
      cases hf
      exact W.iret hx hb hr (fun t ht hW => ⟨⟨_, (), rfl, rfl, by rw [ht]; exact hP, hD⟩, hS.F ht⟩) hS.2.2 dX7_held_36
    · refine lv_iconst (v := zI 0) hx hb dX7_held_37 rfl ?_
      refine lv_istore_n (lv' := [(3, .int (zI 0)), (0, .ref mO), (1, .int (zI p1)), (2, .int (zI p2))]) hx hb dX7_held_38 rfl hl (by decide) rfl (fun ls hl => ?_)
      exact key _ (zq_eq hf) _ _ _ hP hD hS (lv_sub hl [1, 2, 3, 0] rfl)

noncomputable def f_X7_bend (p1 : Int) (p2 : Int) (p3 : Int) (p4 : Int) (mlev : Int) (mNow : Nat → Int) (mHeard : Nat → Int) (mNum : Nat → Int) (mLU : Nat → Int) (mLD : Nat → Int) (mHU : Nat → Int) (mHD : Nat → Int) : Option (Int × Int × Int × (Nat → Int) × (Nat → Int) × (Nat → Int) × (Nat → Int) × (Nat → Int) × (Nat → Int)) :=
  (f_X7_isArrival p1 mNow).bind fun r7 =>
  gd (zR r7) <|
  if r7 = 0 then
    some ((-1000000), 0, mlev, mHeard, mNum, mLU, mLD, mHU, mHD)
  else
    (f_X7_isArrival p3 mNow).bind fun r15 =>
    gd (zR r15) <|
    if r15 = 0 then
      some ((-1000000), 0, mlev, mHeard, mNum, mLU, mLD, mHU, mHD)
    else
      gd (zR p1 ∧ zR p2) <|
      if p1 < p2 then
        gd (zR p2 ∧ zR p3) <|
        if p2 < p3 then
          gd (zR p4) <|
          (f_X7_in p4 0 1).bind fun r36 =>
          gd (zR r36) <|
          if r36 = 0 then
            some ((-1000000), 0, mlev, mHeard, mNum, mLU, mLD, mHU, mHD)
          else
            (f_X7_isNumbered 0 mNow mHeard mNum mLU mLD mHU mHD).bind fun (r44, mlev_44, mHeard_44, mNum_44, mLU_44, mLD_44, mHU_44, mHD_44) =>
            gd (zR r44) <|
            if r44 = 0 then
              some ((-1000000), 0, mlev_44, mHeard_44, mNum_44, mLU_44, mLD_44, mHU_44, mHD_44)
            else
              gd (zin p2 7) <|
              gd (zin p1 7) <|
              zlt ((mNum_44 (Int.toNat p2)) - (mNum_44 (Int.toNat p1))) fun v66 =>
              gd (zin p3 7) <|
              gd (zin p2 7) <|
              zlt ((mNum_44 (Int.toNat p3)) - (mNum_44 (Int.toNat p2))) fun v81 =>
              (f_X7_apart p2 p3 mNow).bind fun r89 =>
              (f_X7_apart p1 p2 mNow).bind fun r101 =>
              zlt ((r89 * v66) - (r101 * v81)) fun v108 =>
              gd (zR p4) <|
              if p4 = 0 then
                (f_X7_least v108 (v66 * v81) 1).bind fun r127 =>
                some (r127, 0, mlev_44, mHeard_44, mNum_44, mLU_44, mLD_44, mHU_44, mHD_44)
              else
                (f_X7_least v108 (v66 * v81) 0).bind fun r127 =>
                some (r127, 0, mlev_44, mHeard_44, mNum_44, mLU_44, mLD_44, mHU_44, mHD_44)
        else
          some ((-1000000), 0, mlev, mHeard, mNum, mLU, mLD, mHU, mHD)
      else
        some ((-1000000), 0, mlev, mHeard, mNum, mLU, mLD, mHU, mHD)
theorem m_X7_bend_1 : (.fieldLink RX7 1 "PulseTurnsModel" "thrown" "I" : Cond) ∈ wsX7_bend := List.mem_of_getElem? (i := 1) rfl
theorem m_X7_bend_2 : (.constant RX7 180 (-1000000) : Cond) ∈ wsX7_bend := List.mem_of_getElem? (i := 2) rfl
theorem m_X7_bend_3 : (.fieldLink RX7 65 "PulseTurnsModel" "number" "[I" : Cond) ∈ wsX7_bend := List.mem_of_getElem? (i := 3) rfl
theorem m_X7_bend_4 : (.fieldLink RX7 46 "PulseTurnsModel" "now" "[I" : Cond) ∈ wsX7_bend := List.mem_of_getElem? (i := 4) rfl
theorem u_X7_bend_X7 : ∀ w ∈ wsX70, w ∈ wsX7_bend := fun w h => List.mem_cons_of_mem _ (List.mem_append_right _ h)
set_option maxRecDepth 100000 in
set_option maxHeartbeats 4000000 in
theorem c_X7_bend (l : Launch) (D : va_G) (cy : Nat → ClassId) (mO mQtext mQnow mQfresh mQwas mQisKept mQkept mQheard mQnumber mQlowUp mQlowDown mQhighUp mQhighDown mQseen mQfirst : Nat) (sz : Nat) (p1 : Int) (p2 : Int) (p3 : Int) (p4 : Int) (mth : Int) (mmany : Int) (mcur : Int) (mst : Int) (mtok : Int) (mval : Int) (macts : Int) (mlev : Int) (memp : Int) (mNow : Nat → Int) (mHeard : Nat → Int) (mNum : Nat → Int) (mLU : Nat → Int) (mLD : Nat → Int) (mHU : Nat → Int) (mHD : Nat → Int) {r : Int} {mth' : Int} {mlev' : Int} {mHeard' : Nat → Int} {mNum' : Nat → Int} {mLU' : Nat → Int} {mLD' : Nat → Int} {mHU' : Nat → Int} {mHD' : Nat → Int} (hf : f_X7_bend p1 p2 p3 p4 mlev mNow mHeard mNum mLU mLD mHU mHD = some (r, mth', mlev', mHeard', mNum', mLU', mLD', mHU', mHD')) : zMi l yX7_bend wsX7_bend ({ frames := 4, cells := 0, slots := 0, locals := 92 }) D cy sz [.ref mO, .int (zI p1), .int (zI p2), .int (zI p3), .int (zI p4)] [eO mO 6 [.int (zI mth), .ref mQtext, .int (zI mmany), .int (zI mcur), .int (zI mst), .int (zI mtok), .int (zI mval), .ref mQnow, .ref mQfresh, .ref mQwas, .int (zI macts), .ref mQisKept, .ref mQkept, .ref mQheard, .ref mQnumber, .ref mQlowUp, .ref mQlowDown, .ref mQhighUp, .ref mQhighDown, .int (zI mlev), .ref mQseen, .int (zI memp), .ref mQfirst], eA mQnow (cy 0) 11 mNow, eA mQheard (cy 0) 11 mHeard, eA mQnumber (cy 0) 7 mNum, eA mQlowUp (cy 0) 7 mLU, eA mQlowDown (cy 0) 7 mLD, eA mQhighUp (cy 0) 7 mHU, eA mQhighDown (cy 0) 7 mHD] [eO mO 6 [.int (zI mth'), .ref mQtext, .int (zI mmany), .int (zI mcur), .int (zI mst), .int (zI mtok), .int (zI mval), .ref mQnow, .ref mQfresh, .ref mQwas, .int (zI macts), .ref mQisKept, .ref mQkept, .ref mQheard, .ref mQnumber, .ref mQlowUp, .ref mQlowDown, .ref mQhighUp, .ref mQhighDown, .int (zI mlev'), .ref mQseen, .int (zI memp), .ref mQfirst], eA mQnow (cy 0) 11 mNow, eA mQheard (cy 0) 11 mHeard', eA mQnumber (cy 0) 7 mNum', eA mQlowUp (cy 0) 7 mLU', eA mQlowDown (cy 0) 7 mLD', eA mQhighUp (cy 0) 7 mHU', eA mQhighDown (cy 0) 7 mHD'] (zI r) := by
  refine Met.ofW (cc := cX7_bend) (maxL := 8) (ret := (some .int)) (by decide) rfl ?_
  intro p e s m args below meth c s₁ B hml hv
  obtain ⟨rfl, hsz, hP, hK, hD0⟩ := hv
  have hx := B.exec
  have hb := B.bytes
  have hr := B.returns
  have hts := atoms_spec (ws := wsX7_bend) B.pre
  have hown : s.vm.findClass RX7 = some m.cls := findClass_of_methodNamed B.named
  have hlocks := B.notSynchronized
  subst hsz
  have hD := hD0.self (sz := s.heap.size)
  generalize hAe : va_A [eO mO 6 [.int (zI mth), .ref mQtext, .int (zI mmany), .int (zI mcur), .int (zI mst), .int (zI mtok), .int (zI mval), .ref mQnow, .ref mQfresh, .ref mQwas, .int (zI macts), .ref mQisKept, .ref mQkept, .ref mQheard, .ref mQnumber, .ref mQlowUp, .ref mQlowDown, .ref mQhighUp, .ref mQhighDown, .int (zI mlev), .ref mQseen, .int (zI memp), .ref mQfirst], eA mQnow (cy 0) 11 mNow, eA mQheard (cy 0) 11 mHeard, eA mQnumber (cy 0) 7 mNum, eA mQlowUp (cy 0) 7 mLU, eA mQlowDown (cy 0) 7 mLD, eA mQhighUp (cy 0) 7 mHU, eA mQhighDown (cy 0) 7 mHD] s.heap.size = A at hD ⊢
  have hA : ∀ q : Nat, s.heap.size ≤ q → A q := fun q h => by rw [← hAe]; exact Or.inr h
  have hS : va_S A s.heap s.heap [] := va_S.rf
  have hl := lv_entry ([.ref mO, .int (zI p1), .int (zI p2), .int (zI p3), .int (zI p4)]) (n := 8) (Nat.le_of_ble_eq_true rfl)
  rw [lg_entry_eq]
  generalize (lg_sl ([.ref mO, .int (zI p1), .int (zI p2), .int (zI p3), .int (zI p4)]) ++ List.replicate (8 - (lg_sl ([.ref mO, .int (zI p1), .int (zI p2), .int (zI p3), .int (zI p4)])).length) Slot.unset).toArray = ls at hl ⊢
  have hl : lv_has ls 8 [(0, .ref mO), (1, .int (zI p1)), (2, .int (zI p2)), (3, .int (zI p3)), (4, .int (zI p4))] := hl
  have hf := zq_of hf
  unfold f_X7_bend at hf
  refine lv_aload_n hx hb dX7_bend_0 rfl (lv_at hl 0 rfl) ?_
  refine lv_iconst (v := zI 0) hx hb dX7_bend_1 rfl ?_
  refine va_put (D := D) (ci := 6) (v := .int (zI 0)) (ty := .int) (C := RX7) (T := TX7) (N := 23) hx hb hts u_X7_bend_X7 tyX7 tyX7_ok nmX7 hown hK.1 hP hD hS 0 rfl rfl 0 (by decide) (hts _ m_X7_bend_1) (fun _ h9 => h9) rfl (tyX7_ok 0 (by decide)) rfl rfl (Nat.le_of_ble_eq_true rfl) dX7_bend_2 (fun H locs hP hD hS => ?_)
  have hP : va_P D vwCl [eO mO 6 [.int (zI 0), .ref mQtext, .int (zI mmany), .int (zI mcur), .int (zI mst), .int (zI mtok), .int (zI mval), .ref mQnow, .ref mQfresh, .ref mQwas, .int (zI macts), .ref mQisKept, .ref mQkept, .ref mQheard, .ref mQnumber, .ref mQlowUp, .ref mQlowDown, .ref mQhighUp, .ref mQhighDown, .int (zI mlev), .ref mQseen, .int (zI memp), .ref mQfirst], eA mQnow (cy 0) 11 mNow, eA mQheard (cy 0) 11 mHeard, eA mQnumber (cy 0) 7 mNum, eA mQlowUp (cy 0) 7 mLU, eA mQlowDown (cy 0) 7 mLD, eA mQhighUp (cy 0) 7 mHU, eA mQhighDown (cy 0) 7 mHD] H := hP
  have hD : va_D A [eO mO 6 [.int (zI 0), .ref mQtext, .int (zI mmany), .int (zI mcur), .int (zI mst), .int (zI mtok), .int (zI mval), .ref mQnow, .ref mQfresh, .ref mQwas, .int (zI macts), .ref mQisKept, .ref mQkept, .ref mQheard, .ref mQnumber, .ref mQlowUp, .ref mQlowDown, .ref mQhighUp, .ref mQhighDown, .int (zI mlev), .ref mQseen, .int (zI memp), .ref mQfirst], eA mQnow (cy 0) 11 mNow, eA mQheard (cy 0) 11 mHeard, eA mQnumber (cy 0) 7 mNum, eA mQlowUp (cy 0) 7 mLU, eA mQlowDown (cy 0) 7 mLD, eA mQhighUp (cy 0) 7 mHU, eA mQhighDown (cy 0) 7 mHD] := hD
  refine lv_aload_n hx hb dX7_bend_5 rfl (lv_at hl 0 rfl) ?_
  refine lv_iload_n hx hb dX7_bend_6 rfl (lv_at hl 1 rfl) ?_
  obtain ⟨r7, hc7, hf⟩ := zq_bind hf
  refine zcallVi (wr := [eA mQheard (cy 0) 11 mHeard, eA mQnumber (cy 0) 7 mNum, eA mQlowUp (cy 0) 7 mLU, eA mQlowDown (cy 0) 7 mLD, eA mQhighUp (cy 0) 7 mHU, eA mQhighDown (cy 0) 7 mHD]) (rest := []) ⟨hx, hb, hml, hown, hts⟩ (c_X7_isArrival l D cy mO mQtext mQnow mQfresh mQwas mQisKept mQkept mQheard mQnumber mQlowUp mQlowDown mQhighUp mQhighDown mQseen mQfirst H.size p1 0 mmany mcur mst mtok mval macts mlev memp mNow hc7) (cwV 1 hts gX7_bend_X7_isArrival rfl rfl rfl (by decide +kernel) ⟨Nat.le_of_ble_eq_true rfl, Nat.le_of_ble_eq_true rfl⟩) hK hP hD hS hA [0, 1] [2, 3, 4, 5, 6, 7] rfl rfl rfl rfl (by decide) (va_recv hK.1 hP (ci := 6) (q0 := 0) rfl rfl) rfl hl.1 rfl (Nat.le_of_ble_eq_true rfl) dX7_bend_7 ⟨Nat.zero_le _, Nat.zero_le _⟩ (fun H locs hP hD hS => ?_)
  have hP : va_P D vwCl [eO mO 6 [.int (zI 0), .ref mQtext, .int (zI mmany), .int (zI mcur), .int (zI mst), .int (zI mtok), .int (zI mval), .ref mQnow, .ref mQfresh, .ref mQwas, .int (zI macts), .ref mQisKept, .ref mQkept, .ref mQheard, .ref mQnumber, .ref mQlowUp, .ref mQlowDown, .ref mQhighUp, .ref mQhighDown, .int (zI mlev), .ref mQseen, .int (zI memp), .ref mQfirst], eA mQnow (cy 0) 11 mNow, eA mQheard (cy 0) 11 mHeard, eA mQnumber (cy 0) 7 mNum, eA mQlowUp (cy 0) 7 mLU, eA mQlowDown (cy 0) 7 mLD, eA mQhighUp (cy 0) 7 mHU, eA mQhighDown (cy 0) 7 mHD] H := hP.sub [6, 7, 0, 1, 2, 3, 4, 5] rfl
  have hD : va_D A [eO mO 6 [.int (zI 0), .ref mQtext, .int (zI mmany), .int (zI mcur), .int (zI mst), .int (zI mtok), .int (zI mval), .ref mQnow, .ref mQfresh, .ref mQwas, .int (zI macts), .ref mQisKept, .ref mQkept, .ref mQheard, .ref mQnumber, .ref mQlowUp, .ref mQlowDown, .ref mQhighUp, .ref mQhighDown, .int (zI mlev), .ref mQseen, .int (zI memp), .ref mQfirst], eA mQnow (cy 0) 11 mNow, eA mQheard (cy 0) 11 mHeard, eA mQnumber (cy 0) 7 mNum, eA mQlowUp (cy 0) 7 mLU, eA mQlowDown (cy 0) 7 mLD, eA mQhighUp (cy 0) 7 mHU, eA mQhighDown (cy 0) 7 mHD] := hD.sub [6, 7, 0, 1, 2, 3, 4, 5] rfl rfl
  refine zz_if_eq (tgt := 50) hx hb dX7_bend_10 (by decide) hf (fun hc hf => ?_) (fun hc hf => ?_)
  · refine lv_ldc (v := zI (-1000000)) hx hb hown (hts _ m_X7_bend_2) dX7_bend_50 ?_
    have hf := zq_some hf
    cases hf
    exact W.iret hx hb hr (fun t ht hW => ⟨⟨_, (), rfl, rfl, by rw [ht]; exact hP, hD⟩, hS.F ht⟩) hS.2.2 dX7_bend_52
  · refine lv_aload_n hx hb dX7_bend_13 rfl (lv_at hl 0 rfl) ?_
    refine lv_iload_n hx hb dX7_bend_14 rfl (lv_at hl 3 rfl) ?_
    obtain ⟨r15, hc15, hf⟩ := zq_bind hf
    refine zcallVi (wr := [eA mQheard (cy 0) 11 mHeard, eA mQnumber (cy 0) 7 mNum, eA mQlowUp (cy 0) 7 mLU, eA mQlowDown (cy 0) 7 mLD, eA mQhighUp (cy 0) 7 mHU, eA mQhighDown (cy 0) 7 mHD]) (rest := []) ⟨hx, hb, hml, hown, hts⟩ (c_X7_isArrival l D cy mO mQtext mQnow mQfresh mQwas mQisKept mQkept mQheard mQnumber mQlowUp mQlowDown mQhighUp mQhighDown mQseen mQfirst H.size p3 0 mmany mcur mst mtok mval macts mlev memp mNow hc15) (cwV 1 hts gX7_bend_X7_isArrival rfl rfl rfl (by decide +kernel) ⟨Nat.le_of_ble_eq_true rfl, Nat.le_of_ble_eq_true rfl⟩) hK hP hD hS hA [0, 1] [2, 3, 4, 5, 6, 7] rfl rfl rfl rfl (by decide) (va_recv hK.1 hP (ci := 6) (q0 := 0) rfl rfl) rfl hl.1 rfl (Nat.le_of_ble_eq_true rfl) dX7_bend_15 ⟨Nat.zero_le _, Nat.zero_le _⟩ (fun H locs hP hD hS => ?_)
    have hP : va_P D vwCl [eO mO 6 [.int (zI 0), .ref mQtext, .int (zI mmany), .int (zI mcur), .int (zI mst), .int (zI mtok), .int (zI mval), .ref mQnow, .ref mQfresh, .ref mQwas, .int (zI macts), .ref mQisKept, .ref mQkept, .ref mQheard, .ref mQnumber, .ref mQlowUp, .ref mQlowDown, .ref mQhighUp, .ref mQhighDown, .int (zI mlev), .ref mQseen, .int (zI memp), .ref mQfirst], eA mQnow (cy 0) 11 mNow, eA mQheard (cy 0) 11 mHeard, eA mQnumber (cy 0) 7 mNum, eA mQlowUp (cy 0) 7 mLU, eA mQlowDown (cy 0) 7 mLD, eA mQhighUp (cy 0) 7 mHU, eA mQhighDown (cy 0) 7 mHD] H := hP.sub [6, 7, 0, 1, 2, 3, 4, 5] rfl
    have hD : va_D A [eO mO 6 [.int (zI 0), .ref mQtext, .int (zI mmany), .int (zI mcur), .int (zI mst), .int (zI mtok), .int (zI mval), .ref mQnow, .ref mQfresh, .ref mQwas, .int (zI macts), .ref mQisKept, .ref mQkept, .ref mQheard, .ref mQnumber, .ref mQlowUp, .ref mQlowDown, .ref mQhighUp, .ref mQhighDown, .int (zI mlev), .ref mQseen, .int (zI memp), .ref mQfirst], eA mQnow (cy 0) 11 mNow, eA mQheard (cy 0) 11 mHeard, eA mQnumber (cy 0) 7 mNum, eA mQlowUp (cy 0) 7 mLU, eA mQlowDown (cy 0) 7 mLD, eA mQhighUp (cy 0) 7 mHU, eA mQhighDown (cy 0) 7 mHD] := hD.sub [6, 7, 0, 1, 2, 3, 4, 5] rfl rfl
    refine zz_if_eq (tgt := 50) hx hb dX7_bend_18 (by decide) hf (fun hc hf => ?_) (fun hc hf => ?_)
    · refine lv_ldc (v := zI (-1000000)) hx hb hown (hts _ m_X7_bend_2) dX7_bend_50 ?_
      have hf := zq_some hf
      cases hf
      exact W.iret hx hb hr (fun t ht hW => ⟨⟨_, (), rfl, rfl, by rw [ht]; exact hP, hD⟩, hS.F ht⟩) hS.2.2 dX7_bend_52
    · refine lv_iload_n hx hb dX7_bend_21 rfl (lv_at hl 1 rfl) ?_
      refine lv_iload_n hx hb dX7_bend_22 rfl (lv_at hl 2 rfl) ?_
      refine zz_icmp_ge (tgt := 50) hx hb dX7_bend_23 (by decide) hf (fun hc hf => ?_) (fun hc hf => ?_)
      · refine lv_iload_n hx hb dX7_bend_26 rfl (lv_at hl 2 rfl) ?_
        refine lv_iload_n hx hb dX7_bend_27 rfl (lv_at hl 3 rfl) ?_
        refine zz_icmp_ge (tgt := 50) hx hb dX7_bend_28 (by decide) hf (fun hc hf => ?_) (fun hc hf => ?_)
        · refine lv_iload hx hb dX7_bend_31 (lv_at hl 4 rfl) ?_
          obtain ⟨hg, hf⟩ := zq_gd hf
          refine lv_i2l (v := zL p4) hx hb dX7_bend_33 (zL_i hg) ?_
          refine lv_lconst (v := zL 0) hx hb dX7_bend_34 (by decide) ?_
          refine lv_lconst (v := zL 1) hx hb dX7_bend_35 (by decide) ?_
          obtain ⟨r36, hc36, hf⟩ := zq_bind hf
          refine zcallSi (wr := [eO mO 6 [.int (zI 0), .ref mQtext, .int (zI mmany), .int (zI mcur), .int (zI mst), .int (zI mtok), .int (zI mval), .ref mQnow, .ref mQfresh, .ref mQwas, .int (zI macts), .ref mQisKept, .ref mQkept, .ref mQheard, .ref mQnumber, .ref mQlowUp, .ref mQlowDown, .ref mQhighUp, .ref mQhighDown, .int (zI mlev), .ref mQseen, .int (zI memp), .ref mQfirst], eA mQnow (cy 0) 11 mNow, eA mQheard (cy 0) 11 mHeard, eA mQnumber (cy 0) 7 mNum, eA mQlowUp (cy 0) 7 mLU, eA mQlowDown (cy 0) 7 mLD, eA mQhighUp (cy 0) 7 mHU, eA mQhighDown (cy 0) 7 mHD]) (rest := []) ⟨hx, hb, hml, hown, hts⟩ (c_X7_in l D cy H.size p4 0 1 hc36) (va_cwS 3 hts gX7_bend_X7_in rfl rfl rfl (by decide +kernel) ⟨Nat.le_of_ble_eq_true rfl, Nat.le_of_ble_eq_true rfl⟩) hK hP hD hS hA [] [0, 1, 2, 3, 4, 5, 6, 7] rfl rfl rfl rfl (by decide) rfl hl.1 rfl (Nat.le_of_ble_eq_true rfl) dX7_bend_36 ⟨Nat.zero_le _, Nat.zero_le _⟩ (fun H locs hP hD hS => ?_)
          have hP : va_P D vwCl [eO mO 6 [.int (zI 0), .ref mQtext, .int (zI mmany), .int (zI mcur), .int (zI mst), .int (zI mtok), .int (zI mval), .ref mQnow, .ref mQfresh, .ref mQwas, .int (zI macts), .ref mQisKept, .ref mQkept, .ref mQheard, .ref mQnumber, .ref mQlowUp, .ref mQlowDown, .ref mQhighUp, .ref mQhighDown, .int (zI mlev), .ref mQseen, .int (zI memp), .ref mQfirst], eA mQnow (cy 0) 11 mNow, eA mQheard (cy 0) 11 mHeard, eA mQnumber (cy 0) 7 mNum, eA mQlowUp (cy 0) 7 mLU, eA mQlowDown (cy 0) 7 mLD, eA mQhighUp (cy 0) 7 mHU, eA mQhighDown (cy 0) 7 mHD] H := hP.sub [0, 1, 2, 3, 4, 5, 6, 7] rfl
          have hD : va_D A [eO mO 6 [.int (zI 0), .ref mQtext, .int (zI mmany), .int (zI mcur), .int (zI mst), .int (zI mtok), .int (zI mval), .ref mQnow, .ref mQfresh, .ref mQwas, .int (zI macts), .ref mQisKept, .ref mQkept, .ref mQheard, .ref mQnumber, .ref mQlowUp, .ref mQlowDown, .ref mQhighUp, .ref mQhighDown, .int (zI mlev), .ref mQseen, .int (zI memp), .ref mQfirst], eA mQnow (cy 0) 11 mNow, eA mQheard (cy 0) 11 mHeard, eA mQnumber (cy 0) 7 mNum, eA mQlowUp (cy 0) 7 mLU, eA mQlowDown (cy 0) 7 mLD, eA mQhighUp (cy 0) 7 mHU, eA mQhighDown (cy 0) 7 mHD] := hD.sub [0, 1, 2, 3, 4, 5, 6, 7] rfl rfl
          refine zz_if_eq (tgt := 50) hx hb dX7_bend_39 (by decide) hf (fun hc hf => ?_) (fun hc hf => ?_)
          · refine lv_ldc (v := zI (-1000000)) hx hb hown (hts _ m_X7_bend_2) dX7_bend_50 ?_
            have hf := zq_some hf
            cases hf
            exact W.iret hx hb hr (fun t ht hW => ⟨⟨_, (), rfl, rfl, by rw [ht]; exact hP, hD⟩, hS.F ht⟩) hS.2.2 dX7_bend_52
          · refine lv_aload_n hx hb dX7_bend_42 rfl (lv_at hl 0 rfl) ?_
            refine lv_iconst (v := zI 0) hx hb dX7_bend_43 rfl ?_
            obtain ⟨⟨r44, mlev_44, mHeard_44, mNum_44, mLU_44, mLD_44, mHU_44, mHD_44⟩, hc44, hf⟩ := zq_bind hf
            refine zcallVi (wr := []) (rest := []) ⟨hx, hb, hml, hown, hts⟩ (c_X7_isNumbered l D cy mO mQtext mQnow mQfresh mQwas mQisKept mQkept mQheard mQnumber mQlowUp mQlowDown mQhighUp mQhighDown mQseen mQfirst H.size 0 0 mmany mcur mst mtok mval macts mlev memp mNow mHeard mNum mLU mLD mHU mHD hc44) (cwV 1 hts gX7_bend_X7_isNumbered rfl rfl rfl (by decide +kernel) ⟨Nat.le_of_ble_eq_true rfl, Nat.le_of_ble_eq_true rfl⟩) hK hP hD hS hA [0, 1, 2, 3, 4, 5, 6, 7] [] rfl rfl rfl rfl (by decide) (va_recv hK.1 hP (ci := 6) (q0 := 0) rfl rfl) rfl hl.1 rfl (Nat.le_of_ble_eq_true rfl) dX7_bend_44 ⟨Nat.zero_le _, Nat.zero_le _⟩ (fun H locs hP hD hS => ?_)
            have hP : va_P D vwCl [eO mO 6 [.int (zI 0), .ref mQtext, .int (zI mmany), .int (zI mcur), .int (zI mst), .int (zI mtok), .int (zI mval), .ref mQnow, .ref mQfresh, .ref mQwas, .int (zI macts), .ref mQisKept, .ref mQkept, .ref mQheard, .ref mQnumber, .ref mQlowUp, .ref mQlowDown, .ref mQhighUp, .ref mQhighDown, .int (zI mlev_44), .ref mQseen, .int (zI memp), .ref mQfirst], eA mQnow (cy 0) 11 mNow, eA mQheard (cy 0) 11 mHeard_44, eA mQnumber (cy 0) 7 mNum_44, eA mQlowUp (cy 0) 7 mLU_44, eA mQlowDown (cy 0) 7 mLD_44, eA mQhighUp (cy 0) 7 mHU_44, eA mQhighDown (cy 0) 7 mHD_44] H := hP.sub [0, 1, 2, 3, 4, 5, 6, 7] rfl
            have hD : va_D A [eO mO 6 [.int (zI 0), .ref mQtext, .int (zI mmany), .int (zI mcur), .int (zI mst), .int (zI mtok), .int (zI mval), .ref mQnow, .ref mQfresh, .ref mQwas, .int (zI macts), .ref mQisKept, .ref mQkept, .ref mQheard, .ref mQnumber, .ref mQlowUp, .ref mQlowDown, .ref mQhighUp, .ref mQhighDown, .int (zI mlev_44), .ref mQseen, .int (zI memp), .ref mQfirst], eA mQnow (cy 0) 11 mNow, eA mQheard (cy 0) 11 mHeard_44, eA mQnumber (cy 0) 7 mNum_44, eA mQlowUp (cy 0) 7 mLU_44, eA mQlowDown (cy 0) 7 mLD_44, eA mQhighUp (cy 0) 7 mHU_44, eA mQhighDown (cy 0) 7 mHD_44] := hD.sub [0, 1, 2, 3, 4, 5, 6, 7] rfl rfl
            refine zz_if_ne (tgt := 53) hx hb dX7_bend_47 (by decide) hf (fun hc hf => ?_) (fun hc hf => ?_)
            · refine lv_ldc (v := zI (-1000000)) hx hb hown (hts _ m_X7_bend_2) dX7_bend_50 ?_
              have hf := zq_some hf
              cases hf
              exact W.iret hx hb hr (fun t ht hW => ⟨⟨_, (), rfl, rfl, by rw [ht]; exact hP, hD⟩, hS.F ht⟩) hS.2.2 dX7_bend_52
            · refine lv_aload_n hx hb dX7_bend_53 rfl (lv_at hl 0 rfl) ?_
              refine va_get (D := D) (ci := 6) (v := .ref mQnumber) (C := RX7) (T := TX7) (N := 23) hx hb hts u_X7_bend_X7 hown hK.1 hP 0 rfl rfl 14 (by decide) (hts _ m_X7_bend_3) (fun _ h9 => h9) rfl dX7_bend_54 ?_
              refine lv_iload_n hx hb dX7_bend_57 rfl (lv_at hl 2 rfl) ?_
              obtain ⟨hg, hf⟩ := zq_gd hf
              refine zz_iald (i := p2) hx hb hK hP 3 rfl (Nat.le_of_ble_eq_true rfl) hg dX7_bend_58 ?_
              refine lv_aload_n hx hb dX7_bend_59 rfl (lv_at hl 0 rfl) ?_
              refine va_get (D := D) (ci := 6) (v := .ref mQnumber) (C := RX7) (T := TX7) (N := 23) hx hb hts u_X7_bend_X7 hown hK.1 hP 0 rfl rfl 14 (by decide) (hts _ m_X7_bend_3) (fun _ h9 => h9) rfl dX7_bend_60 ?_
              refine lv_iload_n hx hb dX7_bend_63 rfl (lv_at hl 1 rfl) ?_
              obtain ⟨hg, hf⟩ := zq_gd hf
              refine zz_iald (i := p1) hx hb hK hP 3 rfl (Nat.le_of_ble_eq_true rfl) hg dX7_bend_64 ?_
              refine zz_isub hx hb dX7_bend_65 ?_
              obtain ⟨v66, e66, hf⟩ := zq_lt hf
              refine zz_top e66 ?_
              refine lv_istore (lv' := [(5, .int (zI v66)), (0, .ref mO), (1, .int (zI p1)), (2, .int (zI p2)), (3, .int (zI p3)), (4, .int (zI p4))]) hx hb dX7_bend_66 hl (by decide) rfl (fun ls hl => ?_)
              refine lv_aload_n hx hb dX7_bend_68 rfl (lv_at hl 1 rfl) ?_
              refine va_get (D := D) (ci := 6) (v := .ref mQnumber) (C := RX7) (T := TX7) (N := 23) hx hb hts u_X7_bend_X7 hown hK.1 hP 0 rfl rfl 14 (by decide) (hts _ m_X7_bend_3) (fun _ h9 => h9) rfl dX7_bend_69 ?_
              refine lv_iload_n hx hb dX7_bend_72 rfl (lv_at hl 4 rfl) ?_
              obtain ⟨hg, hf⟩ := zq_gd hf
              refine zz_iald (i := p3) hx hb hK hP 3 rfl (Nat.le_of_ble_eq_true rfl) hg dX7_bend_73 ?_
              refine lv_aload_n hx hb dX7_bend_74 rfl (lv_at hl 1 rfl) ?_
              refine va_get (D := D) (ci := 6) (v := .ref mQnumber) (C := RX7) (T := TX7) (N := 23) hx hb hts u_X7_bend_X7 hown hK.1 hP 0 rfl rfl 14 (by decide) (hts _ m_X7_bend_3) (fun _ h9 => h9) rfl dX7_bend_75 ?_
              refine lv_iload_n hx hb dX7_bend_78 rfl (lv_at hl 3 rfl) ?_
              obtain ⟨hg, hf⟩ := zq_gd hf
              refine zz_iald (i := p2) hx hb hK hP 3 rfl (Nat.le_of_ble_eq_true rfl) hg dX7_bend_79 ?_
              refine zz_isub hx hb dX7_bend_80 ?_
              obtain ⟨v81, e81, hf⟩ := zq_lt hf
              refine zz_top e81 ?_
              refine lv_istore (lv' := [(6, .int (zI v81)), (5, .int (zI v66)), (0, .ref mO), (1, .int (zI p1)), (2, .int (zI p2)), (3, .int (zI p3)), (4, .int (zI p4))]) hx hb dX7_bend_81 hl (by decide) rfl (fun ls hl => ?_)
              refine lv_aload_n hx hb dX7_bend_83 rfl (lv_at hl 2 rfl) ?_
              refine va_get (D := D) (ci := 6) (v := .ref mQnow) (C := RX7) (T := TX7) (N := 23) hx hb hts u_X7_bend_X7 hown hK.1 hP 0 rfl rfl 7 (by decide) (hts _ m_X7_bend_4) (fun _ h9 => h9) rfl dX7_bend_84 ?_
              refine lv_iload_n hx hb dX7_bend_87 rfl (lv_at hl 4 rfl) ?_
              refine lv_iload_n hx hb dX7_bend_88 rfl (lv_at hl 5 rfl) ?_
              obtain ⟨r89, hc89, hf⟩ := zq_bind hf
              refine zcallSi (wr := [eO mO 6 [.int (zI 0), .ref mQtext, .int (zI mmany), .int (zI mcur), .int (zI mst), .int (zI mtok), .int (zI mval), .ref mQnow, .ref mQfresh, .ref mQwas, .int (zI macts), .ref mQisKept, .ref mQkept, .ref mQheard, .ref mQnumber, .ref mQlowUp, .ref mQlowDown, .ref mQhighUp, .ref mQhighDown, .int (zI mlev_44), .ref mQseen, .int (zI memp), .ref mQfirst], eA mQheard (cy 0) 11 mHeard_44, eA mQnumber (cy 0) 7 mNum_44, eA mQlowUp (cy 0) 7 mLU_44, eA mQlowDown (cy 0) 7 mLD_44, eA mQhighUp (cy 0) 7 mHU_44, eA mQhighDown (cy 0) 7 mHD_44]) (rest := []) ⟨hx, hb, hml, hown, hts⟩ (c_X7_apart l D cy mQnow H.size p2 p3 mNow hc89) (va_cwS 3 hts gX7_bend_X7_apart rfl rfl rfl (by decide +kernel) ⟨Nat.le_of_ble_eq_true rfl, Nat.le_of_ble_eq_true rfl⟩) hK hP hD hS hA [1] [0, 2, 3, 4, 5, 6, 7] rfl rfl rfl rfl (by decide) rfl hl.1 rfl (Nat.le_of_ble_eq_true rfl) dX7_bend_89 ⟨Nat.zero_le _, Nat.zero_le _⟩ (fun H locs hP hD hS => ?_)
              have hP : va_P D vwCl [eO mO 6 [.int (zI 0), .ref mQtext, .int (zI mmany), .int (zI mcur), .int (zI mst), .int (zI mtok), .int (zI mval), .ref mQnow, .ref mQfresh, .ref mQwas, .int (zI macts), .ref mQisKept, .ref mQkept, .ref mQheard, .ref mQnumber, .ref mQlowUp, .ref mQlowDown, .ref mQhighUp, .ref mQhighDown, .int (zI mlev_44), .ref mQseen, .int (zI memp), .ref mQfirst], eA mQnow (cy 0) 11 mNow, eA mQheard (cy 0) 11 mHeard_44, eA mQnumber (cy 0) 7 mNum_44, eA mQlowUp (cy 0) 7 mLU_44, eA mQlowDown (cy 0) 7 mLD_44, eA mQhighUp (cy 0) 7 mHU_44, eA mQhighDown (cy 0) 7 mHD_44] H := hP.sub [0, 7, 1, 2, 3, 4, 5, 6] rfl
              have hD : va_D A [eO mO 6 [.int (zI 0), .ref mQtext, .int (zI mmany), .int (zI mcur), .int (zI mst), .int (zI mtok), .int (zI mval), .ref mQnow, .ref mQfresh, .ref mQwas, .int (zI macts), .ref mQisKept, .ref mQkept, .ref mQheard, .ref mQnumber, .ref mQlowUp, .ref mQlowDown, .ref mQhighUp, .ref mQhighDown, .int (zI mlev_44), .ref mQseen, .int (zI memp), .ref mQfirst], eA mQnow (cy 0) 11 mNow, eA mQheard (cy 0) 11 mHeard_44, eA mQnumber (cy 0) 7 mNum_44, eA mQlowUp (cy 0) 7 mLU_44, eA mQlowDown (cy 0) 7 mLD_44, eA mQhighUp (cy 0) 7 mHU_44, eA mQhighDown (cy 0) 7 mHD_44] := hD.sub [0, 7, 1, 2, 3, 4, 5, 6] rfl rfl
              refine lv_iload hx hb dX7_bend_92 (lv_at hl 1 rfl) ?_
              refine zz_imul hx hb dX7_bend_94 ?_
              refine lv_aload_n hx hb dX7_bend_95 rfl (lv_at hl 2 rfl) ?_
              refine va_get (D := D) (ci := 6) (v := .ref mQnow) (C := RX7) (T := TX7) (N := 23) hx hb hts u_X7_bend_X7 hown hK.1 hP 0 rfl rfl 7 (by decide) (hts _ m_X7_bend_4) (fun _ h9 => h9) rfl dX7_bend_96 ?_
              refine lv_iload_n hx hb dX7_bend_99 rfl (lv_at hl 3 rfl) ?_
              refine lv_iload_n hx hb dX7_bend_100 rfl (lv_at hl 4 rfl) ?_
              obtain ⟨r101, hc101, hf⟩ := zq_bind hf
              refine zcallSi (wr := [eO mO 6 [.int (zI 0), .ref mQtext, .int (zI mmany), .int (zI mcur), .int (zI mst), .int (zI mtok), .int (zI mval), .ref mQnow, .ref mQfresh, .ref mQwas, .int (zI macts), .ref mQisKept, .ref mQkept, .ref mQheard, .ref mQnumber, .ref mQlowUp, .ref mQlowDown, .ref mQhighUp, .ref mQhighDown, .int (zI mlev_44), .ref mQseen, .int (zI memp), .ref mQfirst], eA mQheard (cy 0) 11 mHeard_44, eA mQnumber (cy 0) 7 mNum_44, eA mQlowUp (cy 0) 7 mLU_44, eA mQlowDown (cy 0) 7 mLD_44, eA mQhighUp (cy 0) 7 mHU_44, eA mQhighDown (cy 0) 7 mHD_44]) (rest := [.int (zI (r89 * v66))]) ⟨hx, hb, hml, hown, hts⟩ (c_X7_apart l D cy mQnow H.size p1 p2 mNow hc101) (va_cwS 3 hts gX7_bend_X7_apart rfl rfl rfl (by decide +kernel) ⟨Nat.le_of_ble_eq_true rfl, Nat.le_of_ble_eq_true rfl⟩) hK hP hD hS hA [1] [0, 2, 3, 4, 5, 6, 7] rfl rfl rfl rfl (by decide) rfl hl.1 rfl (Nat.le_of_ble_eq_true rfl) dX7_bend_101 ⟨Nat.zero_le _, Nat.zero_le _⟩ (fun H locs hP hD hS => ?_)
              have hP : va_P D vwCl [eO mO 6 [.int (zI 0), .ref mQtext, .int (zI mmany), .int (zI mcur), .int (zI mst), .int (zI mtok), .int (zI mval), .ref mQnow, .ref mQfresh, .ref mQwas, .int (zI macts), .ref mQisKept, .ref mQkept, .ref mQheard, .ref mQnumber, .ref mQlowUp, .ref mQlowDown, .ref mQhighUp, .ref mQhighDown, .int (zI mlev_44), .ref mQseen, .int (zI memp), .ref mQfirst], eA mQnow (cy 0) 11 mNow, eA mQheard (cy 0) 11 mHeard_44, eA mQnumber (cy 0) 7 mNum_44, eA mQlowUp (cy 0) 7 mLU_44, eA mQlowDown (cy 0) 7 mLD_44, eA mQhighUp (cy 0) 7 mHU_44, eA mQhighDown (cy 0) 7 mHD_44] H := hP.sub [0, 7, 1, 2, 3, 4, 5, 6] rfl
              have hD : va_D A [eO mO 6 [.int (zI 0), .ref mQtext, .int (zI mmany), .int (zI mcur), .int (zI mst), .int (zI mtok), .int (zI mval), .ref mQnow, .ref mQfresh, .ref mQwas, .int (zI macts), .ref mQisKept, .ref mQkept, .ref mQheard, .ref mQnumber, .ref mQlowUp, .ref mQlowDown, .ref mQhighUp, .ref mQhighDown, .int (zI mlev_44), .ref mQseen, .int (zI memp), .ref mQfirst], eA mQnow (cy 0) 11 mNow, eA mQheard (cy 0) 11 mHeard_44, eA mQnumber (cy 0) 7 mNum_44, eA mQlowUp (cy 0) 7 mLU_44, eA mQlowDown (cy 0) 7 mLD_44, eA mQhighUp (cy 0) 7 mHU_44, eA mQhighDown (cy 0) 7 mHD_44] := hD.sub [0, 7, 1, 2, 3, 4, 5, 6] rfl rfl
              refine lv_iload hx hb dX7_bend_104 (lv_at hl 0 rfl) ?_
              refine zz_imul hx hb dX7_bend_106 ?_
              refine zz_isub hx hb dX7_bend_107 ?_
              obtain ⟨v108, e108, hf⟩ := zq_lt hf
              refine zz_top e108 ?_
              refine lv_istore (lv' := [(7, .int (zI v108)), (6, .int (zI v81)), (5, .int (zI v66)), (0, .ref mO), (1, .int (zI p1)), (2, .int (zI p2)), (3, .int (zI p3)), (4, .int (zI p4))]) hx hb dX7_bend_108 hl (by decide) rfl (fun ls hl => ?_)
              refine lv_iload hx hb dX7_bend_110 (lv_at hl 0 rfl) ?_
              refine lv_iload hx hb dX7_bend_112 (lv_at hl 2 rfl) ?_
              refine lv_iload hx hb dX7_bend_114 (lv_at hl 1 rfl) ?_
              refine zz_imul hx hb dX7_bend_116 ?_
              refine lv_iload hx hb dX7_bend_117 (lv_at hl 7 rfl) ?_
              refine zz_if_ne (tgt := 126) hx hb dX7_bend_119 (by decide) hf (fun hc hf => ?_) (fun hc hf => ?_)
              · refine lv_iconst (v := zI 1) hx hb dX7_bend_122 rfl ?_
                refine lv_goto (tgt := 127) hx hb dX7_bend_123 (by decide) ?_
                obtain ⟨r127, hc127, hf⟩ := zq_bind hf
                refine zcallSi (wr := [eO mO 6 [.int (zI 0), .ref mQtext, .int (zI mmany), .int (zI mcur), .int (zI mst), .int (zI mtok), .int (zI mval), .ref mQnow, .ref mQfresh, .ref mQwas, .int (zI macts), .ref mQisKept, .ref mQkept, .ref mQheard, .ref mQnumber, .ref mQlowUp, .ref mQlowDown, .ref mQhighUp, .ref mQhighDown, .int (zI mlev_44), .ref mQseen, .int (zI memp), .ref mQfirst], eA mQnow (cy 0) 11 mNow, eA mQheard (cy 0) 11 mHeard_44, eA mQnumber (cy 0) 7 mNum_44, eA mQlowUp (cy 0) 7 mLU_44, eA mQlowDown (cy 0) 7 mLD_44, eA mQhighUp (cy 0) 7 mHU_44, eA mQhighDown (cy 0) 7 mHD_44]) (rest := []) ⟨hx, hb, hml, hown, hts⟩ (c_X7_least l D cy H.size v108 (v66 * v81) 1 hc127) (va_cwS 3 hts gX7_bend_X7_least rfl rfl rfl (by decide +kernel) ⟨Nat.le_of_ble_eq_true rfl, Nat.le_of_ble_eq_true rfl⟩) hK hP hD hS hA [] [0, 1, 2, 3, 4, 5, 6, 7] rfl rfl rfl rfl (by decide) rfl hl.1 rfl (Nat.le_of_ble_eq_true rfl) dX7_bend_127 ⟨Nat.zero_le _, Nat.zero_le _⟩ (fun H locs hP hD hS => ?_)
                have hP : va_P D vwCl [eO mO 6 [.int (zI 0), .ref mQtext, .int (zI mmany), .int (zI mcur), .int (zI mst), .int (zI mtok), .int (zI mval), .ref mQnow, .ref mQfresh, .ref mQwas, .int (zI macts), .ref mQisKept, .ref mQkept, .ref mQheard, .ref mQnumber, .ref mQlowUp, .ref mQlowDown, .ref mQhighUp, .ref mQhighDown, .int (zI mlev_44), .ref mQseen, .int (zI memp), .ref mQfirst], eA mQnow (cy 0) 11 mNow, eA mQheard (cy 0) 11 mHeard_44, eA mQnumber (cy 0) 7 mNum_44, eA mQlowUp (cy 0) 7 mLU_44, eA mQlowDown (cy 0) 7 mLD_44, eA mQhighUp (cy 0) 7 mHU_44, eA mQhighDown (cy 0) 7 mHD_44] H := hP.sub [0, 1, 2, 3, 4, 5, 6, 7] rfl
                have hD : va_D A [eO mO 6 [.int (zI 0), .ref mQtext, .int (zI mmany), .int (zI mcur), .int (zI mst), .int (zI mtok), .int (zI mval), .ref mQnow, .ref mQfresh, .ref mQwas, .int (zI macts), .ref mQisKept, .ref mQkept, .ref mQheard, .ref mQnumber, .ref mQlowUp, .ref mQlowDown, .ref mQhighUp, .ref mQhighDown, .int (zI mlev_44), .ref mQseen, .int (zI memp), .ref mQfirst], eA mQnow (cy 0) 11 mNow, eA mQheard (cy 0) 11 mHeard_44, eA mQnumber (cy 0) 7 mNum_44, eA mQlowUp (cy 0) 7 mLU_44, eA mQlowDown (cy 0) 7 mLD_44, eA mQhighUp (cy 0) 7 mHU_44, eA mQhighDown (cy 0) 7 mHD_44] := hD.sub [0, 1, 2, 3, 4, 5, 6, 7] rfl rfl
                have hf := zq_some hf
                cases hf
                exact W.iret hx hb hr (fun t ht hW => ⟨⟨_, (), rfl, rfl, by rw [ht]; exact hP, hD⟩, hS.F ht⟩) hS.2.2 dX7_bend_130
              · refine lv_iconst (v := zI 0) hx hb dX7_bend_126 rfl ?_
                obtain ⟨r127, hc127, hf⟩ := zq_bind hf
                refine zcallSi (wr := [eO mO 6 [.int (zI 0), .ref mQtext, .int (zI mmany), .int (zI mcur), .int (zI mst), .int (zI mtok), .int (zI mval), .ref mQnow, .ref mQfresh, .ref mQwas, .int (zI macts), .ref mQisKept, .ref mQkept, .ref mQheard, .ref mQnumber, .ref mQlowUp, .ref mQlowDown, .ref mQhighUp, .ref mQhighDown, .int (zI mlev_44), .ref mQseen, .int (zI memp), .ref mQfirst], eA mQnow (cy 0) 11 mNow, eA mQheard (cy 0) 11 mHeard_44, eA mQnumber (cy 0) 7 mNum_44, eA mQlowUp (cy 0) 7 mLU_44, eA mQlowDown (cy 0) 7 mLD_44, eA mQhighUp (cy 0) 7 mHU_44, eA mQhighDown (cy 0) 7 mHD_44]) (rest := []) ⟨hx, hb, hml, hown, hts⟩ (c_X7_least l D cy H.size v108 (v66 * v81) 0 hc127) (va_cwS 3 hts gX7_bend_X7_least rfl rfl rfl (by decide +kernel) ⟨Nat.le_of_ble_eq_true rfl, Nat.le_of_ble_eq_true rfl⟩) hK hP hD hS hA [] [0, 1, 2, 3, 4, 5, 6, 7] rfl rfl rfl rfl (by decide) rfl hl.1 rfl (Nat.le_of_ble_eq_true rfl) dX7_bend_127 ⟨Nat.zero_le _, Nat.zero_le _⟩ (fun H locs hP hD hS => ?_)
                have hP : va_P D vwCl [eO mO 6 [.int (zI 0), .ref mQtext, .int (zI mmany), .int (zI mcur), .int (zI mst), .int (zI mtok), .int (zI mval), .ref mQnow, .ref mQfresh, .ref mQwas, .int (zI macts), .ref mQisKept, .ref mQkept, .ref mQheard, .ref mQnumber, .ref mQlowUp, .ref mQlowDown, .ref mQhighUp, .ref mQhighDown, .int (zI mlev_44), .ref mQseen, .int (zI memp), .ref mQfirst], eA mQnow (cy 0) 11 mNow, eA mQheard (cy 0) 11 mHeard_44, eA mQnumber (cy 0) 7 mNum_44, eA mQlowUp (cy 0) 7 mLU_44, eA mQlowDown (cy 0) 7 mLD_44, eA mQhighUp (cy 0) 7 mHU_44, eA mQhighDown (cy 0) 7 mHD_44] H := hP.sub [0, 1, 2, 3, 4, 5, 6, 7] rfl
                have hD : va_D A [eO mO 6 [.int (zI 0), .ref mQtext, .int (zI mmany), .int (zI mcur), .int (zI mst), .int (zI mtok), .int (zI mval), .ref mQnow, .ref mQfresh, .ref mQwas, .int (zI macts), .ref mQisKept, .ref mQkept, .ref mQheard, .ref mQnumber, .ref mQlowUp, .ref mQlowDown, .ref mQhighUp, .ref mQhighDown, .int (zI mlev_44), .ref mQseen, .int (zI memp), .ref mQfirst], eA mQnow (cy 0) 11 mNow, eA mQheard (cy 0) 11 mHeard_44, eA mQnumber (cy 0) 7 mNum_44, eA mQlowUp (cy 0) 7 mLU_44, eA mQlowDown (cy 0) 7 mLD_44, eA mQhighUp (cy 0) 7 mHU_44, eA mQhighDown (cy 0) 7 mHD_44] := hD.sub [0, 1, 2, 3, 4, 5, 6, 7] rfl rfl
                have hf := zq_some hf
                cases hf
                exact W.iret hx hb hr (fun t ht hW => ⟨⟨_, (), rfl, rfl, by rw [ht]; exact hP, hD⟩, hS.F ht⟩) hS.2.2 dX7_bend_130
        · refine lv_ldc (v := zI (-1000000)) hx hb hown (hts _ m_X7_bend_2) dX7_bend_50 ?_
          have hf := zq_some hf
          cases hf
          exact W.iret hx hb hr (fun t ht hW => ⟨⟨_, (), rfl, rfl, by rw [ht]; exact hP, hD⟩, hS.F ht⟩) hS.2.2 dX7_bend_52
      · refine lv_ldc (v := zI (-1000000)) hx hb hown (hts _ m_X7_bend_2) dX7_bend_50 ?_
        have hf := zq_some hf
        cases hf
        exact W.iret hx hb hr (fun t ht hW => ⟨⟨_, (), rfl, rfl, by rw [ht]; exact hP, hD⟩, hS.F ht⟩) hS.2.2 dX7_bend_52

noncomputable def f_X7_leftBy (p1 : Int) (mNow : Nat → Int) (mFresh : Nat → Int) (mHeard : Nat → Int) (mNum : Nat → Int) (mLU : Nat → Int) (mLD : Nat → Int) (mHU : Nat → Int) (mHD : Nat → Int) : Option (Int × Int × (Nat → Int) × (Nat → Int) × (Nat → Int) × (Nat → Int) × (Nat → Int) × (Nat → Int) × (Nat → Int)) :=
  (f_X7_copyAll mNow mFresh).bind fun tR_8 =>
  (f_X7_put p1 tR_8).bind fun qR_16 =>
  (f_X7_standing_f qR_16 mHeard mNum mLU mLD mHU mHD).bind fun (r24, mlev_24, mHeard_24, mNum_24, mLU_24, mLD_24, mHU_24, mHD_24) =>
  some (r24, mlev_24, qR_16, mHeard_24, mNum_24, mLU_24, mLD_24, mHU_24, mHD_24)
theorem m_X7_leftBy_1 : (.fieldLink RX7 46 "PulseTurnsModel" "now" "[I" : Cond) ∈ wsX7_leftBy := List.mem_of_getElem? (i := 1) rfl
theorem m_X7_leftBy_2 : (.fieldLink RX7 49 "PulseTurnsModel" "fresh" "[I" : Cond) ∈ wsX7_leftBy := List.mem_of_getElem? (i := 2) rfl
theorem u_X7_leftBy_X7 : ∀ w ∈ wsX70, w ∈ wsX7_leftBy := fun w h => List.mem_cons_of_mem _ (List.mem_append_right _ h)
set_option maxRecDepth 100000 in
set_option maxHeartbeats 4000000 in
theorem c_X7_leftBy (l : Launch) (D : va_G) (cy : Nat → ClassId) (mO mQtext mQnow mQfresh mQwas mQisKept mQkept mQheard mQnumber mQlowUp mQlowDown mQhighUp mQhighDown mQseen mQfirst : Nat) (sz : Nat) (p1 : Int) (mth : Int) (mmany : Int) (mcur : Int) (mst : Int) (mtok : Int) (mval : Int) (macts : Int) (mlev : Int) (memp : Int) (mNow : Nat → Int) (mFresh : Nat → Int) (mHeard : Nat → Int) (mNum : Nat → Int) (mLU : Nat → Int) (mLD : Nat → Int) (mHU : Nat → Int) (mHD : Nat → Int) {r : Int} {mlev' : Int} {mFresh' : Nat → Int} {mHeard' : Nat → Int} {mNum' : Nat → Int} {mLU' : Nat → Int} {mLD' : Nat → Int} {mHU' : Nat → Int} {mHD' : Nat → Int} (hf : f_X7_leftBy p1 mNow mFresh mHeard mNum mLU mLD mHU mHD = some (r, mlev', mFresh', mHeard', mNum', mLU', mLD', mHU', mHD')) : zMi l yX7_leftBy wsX7_leftBy ({ frames := 4, cells := 0, slots := 0, locals := 92 }) D cy sz [.ref mO, .int (zI p1)] [eO mO 6 [.int (zI mth), .ref mQtext, .int (zI mmany), .int (zI mcur), .int (zI mst), .int (zI mtok), .int (zI mval), .ref mQnow, .ref mQfresh, .ref mQwas, .int (zI macts), .ref mQisKept, .ref mQkept, .ref mQheard, .ref mQnumber, .ref mQlowUp, .ref mQlowDown, .ref mQhighUp, .ref mQhighDown, .int (zI mlev), .ref mQseen, .int (zI memp), .ref mQfirst], eA mQnow (cy 0) 11 mNow, eA mQfresh (cy 0) 11 mFresh, eA mQheard (cy 0) 11 mHeard, eA mQnumber (cy 0) 7 mNum, eA mQlowUp (cy 0) 7 mLU, eA mQlowDown (cy 0) 7 mLD, eA mQhighUp (cy 0) 7 mHU, eA mQhighDown (cy 0) 7 mHD] [eO mO 6 [.int (zI mth), .ref mQtext, .int (zI mmany), .int (zI mcur), .int (zI mst), .int (zI mtok), .int (zI mval), .ref mQnow, .ref mQfresh, .ref mQwas, .int (zI macts), .ref mQisKept, .ref mQkept, .ref mQheard, .ref mQnumber, .ref mQlowUp, .ref mQlowDown, .ref mQhighUp, .ref mQhighDown, .int (zI mlev'), .ref mQseen, .int (zI memp), .ref mQfirst], eA mQnow (cy 0) 11 mNow, eA mQfresh (cy 0) 11 mFresh', eA mQheard (cy 0) 11 mHeard', eA mQnumber (cy 0) 7 mNum', eA mQlowUp (cy 0) 7 mLU', eA mQlowDown (cy 0) 7 mLD', eA mQhighUp (cy 0) 7 mHU', eA mQhighDown (cy 0) 7 mHD'] (zI r) := by
  refine Met.ofW (cc := cX7_leftBy) (maxL := 2) (ret := (some .int)) (by decide) rfl ?_
  intro p e s m args below meth c s₁ B hml hv
  obtain ⟨rfl, hsz, hP, hK, hD0⟩ := hv
  have hx := B.exec
  have hb := B.bytes
  have hr := B.returns
  have hts := atoms_spec (ws := wsX7_leftBy) B.pre
  have hown : s.vm.findClass RX7 = some m.cls := findClass_of_methodNamed B.named
  have hlocks := B.notSynchronized
  subst hsz
  have hD := hD0.self (sz := s.heap.size)
  generalize hAe : va_A [eO mO 6 [.int (zI mth), .ref mQtext, .int (zI mmany), .int (zI mcur), .int (zI mst), .int (zI mtok), .int (zI mval), .ref mQnow, .ref mQfresh, .ref mQwas, .int (zI macts), .ref mQisKept, .ref mQkept, .ref mQheard, .ref mQnumber, .ref mQlowUp, .ref mQlowDown, .ref mQhighUp, .ref mQhighDown, .int (zI mlev), .ref mQseen, .int (zI memp), .ref mQfirst], eA mQnow (cy 0) 11 mNow, eA mQfresh (cy 0) 11 mFresh, eA mQheard (cy 0) 11 mHeard, eA mQnumber (cy 0) 7 mNum, eA mQlowUp (cy 0) 7 mLU, eA mQlowDown (cy 0) 7 mLD, eA mQhighUp (cy 0) 7 mHU, eA mQhighDown (cy 0) 7 mHD] s.heap.size = A at hD ⊢
  have hA : ∀ q : Nat, s.heap.size ≤ q → A q := fun q h => by rw [← hAe]; exact Or.inr h
  have hS : va_S A s.heap s.heap [] := va_S.rf
  have hl := lv_entry ([.ref mO, .int (zI p1)]) (n := 2) (Nat.le_of_ble_eq_true rfl)
  rw [lg_entry_eq]
  generalize (lg_sl ([.ref mO, .int (zI p1)]) ++ List.replicate (2 - (lg_sl ([.ref mO, .int (zI p1)])).length) Slot.unset).toArray = ls at hl ⊢
  have hl : lv_has ls 2 [(0, .ref mO), (1, .int (zI p1))] := hl
  have hf := zq_of hf
  unfold f_X7_leftBy at hf
  refine lv_aload_n hx hb dX7_leftBy_0 rfl (lv_at hl 0 rfl) ?_
  refine va_get (D := D) (ci := 6) (v := .ref mQnow) (C := RX7) (T := TX7) (N := 23) hx hb hts u_X7_leftBy_X7 hown hK.1 hP 0 rfl rfl 7 (by decide) (hts _ m_X7_leftBy_1) (fun _ h9 => h9) rfl dX7_leftBy_1 ?_
  refine lv_aload_n hx hb dX7_leftBy_4 rfl (lv_at hl 0 rfl) ?_
  refine va_get (D := D) (ci := 6) (v := .ref mQfresh) (C := RX7) (T := TX7) (N := 23) hx hb hts u_X7_leftBy_X7 hown hK.1 hP 0 rfl rfl 8 (by decide) (hts _ m_X7_leftBy_2) (fun _ h9 => h9) rfl dX7_leftBy_5 ?_
  obtain ⟨tR_8, hc8, hf⟩ := zq_bind hf
  refine zcallSv (wr := [eO mO 6 [.int (zI mth), .ref mQtext, .int (zI mmany), .int (zI mcur), .int (zI mst), .int (zI mtok), .int (zI mval), .ref mQnow, .ref mQfresh, .ref mQwas, .int (zI macts), .ref mQisKept, .ref mQkept, .ref mQheard, .ref mQnumber, .ref mQlowUp, .ref mQlowDown, .ref mQhighUp, .ref mQhighDown, .int (zI mlev), .ref mQseen, .int (zI memp), .ref mQfirst], eA mQheard (cy 0) 11 mHeard, eA mQnumber (cy 0) 7 mNum, eA mQlowUp (cy 0) 7 mLU, eA mQlowDown (cy 0) 7 mLD, eA mQhighUp (cy 0) 7 mHU, eA mQhighDown (cy 0) 7 mHD]) (rest := []) ⟨hx, hb, hml, hown, hts⟩ (c_X7_copyAll l D cy mQnow mQfresh s.heap.size mNow mFresh hc8) (va_cwS 2 hts gX7_leftBy_X7_copyAll rfl rfl rfl (by decide +kernel) ⟨Nat.le_of_ble_eq_true rfl, Nat.le_of_ble_eq_true rfl⟩) hK hP hD hS hA [1, 2] [0, 3, 4, 5, 6, 7, 8] rfl rfl rfl rfl (by decide) rfl hl.1 rfl (Nat.le_of_ble_eq_true rfl) dX7_leftBy_8 ⟨Nat.zero_le _, Nat.zero_le _⟩ (fun H locs hP hD hS => ?_)
  have hP : va_P D vwCl [eO mO 6 [.int (zI mth), .ref mQtext, .int (zI mmany), .int (zI mcur), .int (zI mst), .int (zI mtok), .int (zI mval), .ref mQnow, .ref mQfresh, .ref mQwas, .int (zI macts), .ref mQisKept, .ref mQkept, .ref mQheard, .ref mQnumber, .ref mQlowUp, .ref mQlowDown, .ref mQhighUp, .ref mQhighDown, .int (zI mlev), .ref mQseen, .int (zI memp), .ref mQfirst], eA mQnow (cy 0) 11 mNow, eA mQfresh (cy 0) 11 tR_8, eA mQheard (cy 0) 11 mHeard, eA mQnumber (cy 0) 7 mNum, eA mQlowUp (cy 0) 7 mLU, eA mQlowDown (cy 0) 7 mLD, eA mQhighUp (cy 0) 7 mHU, eA mQhighDown (cy 0) 7 mHD] H := hP.sub [0, 7, 8, 1, 2, 3, 4, 5, 6] rfl
  have hD : va_D A [eO mO 6 [.int (zI mth), .ref mQtext, .int (zI mmany), .int (zI mcur), .int (zI mst), .int (zI mtok), .int (zI mval), .ref mQnow, .ref mQfresh, .ref mQwas, .int (zI macts), .ref mQisKept, .ref mQkept, .ref mQheard, .ref mQnumber, .ref mQlowUp, .ref mQlowDown, .ref mQhighUp, .ref mQhighDown, .int (zI mlev), .ref mQseen, .int (zI memp), .ref mQfirst], eA mQnow (cy 0) 11 mNow, eA mQfresh (cy 0) 11 tR_8, eA mQheard (cy 0) 11 mHeard, eA mQnumber (cy 0) 7 mNum, eA mQlowUp (cy 0) 7 mLU, eA mQlowDown (cy 0) 7 mLD, eA mQhighUp (cy 0) 7 mHU, eA mQhighDown (cy 0) 7 mHD] := hD.sub [0, 7, 8, 1, 2, 3, 4, 5, 6] rfl rfl
  refine lv_aload_n hx hb dX7_leftBy_11 rfl (lv_at hl 0 rfl) ?_
  refine va_get (D := D) (ci := 6) (v := .ref mQfresh) (C := RX7) (T := TX7) (N := 23) hx hb hts u_X7_leftBy_X7 hown hK.1 hP 0 rfl rfl 8 (by decide) (hts _ m_X7_leftBy_2) (fun _ h9 => h9) rfl dX7_leftBy_12 ?_
  refine lv_iload_n hx hb dX7_leftBy_15 rfl (lv_at hl 1 rfl) ?_
  obtain ⟨qR_16, hc16, hf⟩ := zq_bind hf
  refine zcallSv (wr := [eO mO 6 [.int (zI mth), .ref mQtext, .int (zI mmany), .int (zI mcur), .int (zI mst), .int (zI mtok), .int (zI mval), .ref mQnow, .ref mQfresh, .ref mQwas, .int (zI macts), .ref mQisKept, .ref mQkept, .ref mQheard, .ref mQnumber, .ref mQlowUp, .ref mQlowDown, .ref mQhighUp, .ref mQhighDown, .int (zI mlev), .ref mQseen, .int (zI memp), .ref mQfirst], eA mQnow (cy 0) 11 mNow, eA mQheard (cy 0) 11 mHeard, eA mQnumber (cy 0) 7 mNum, eA mQlowUp (cy 0) 7 mLU, eA mQlowDown (cy 0) 7 mLD, eA mQhighUp (cy 0) 7 mHU, eA mQhighDown (cy 0) 7 mHD]) (rest := []) ⟨hx, hb, hml, hown, hts⟩ (c_X7_put l D cy mQfresh H.size p1 tR_8 hc16) (va_cwS 2 hts gX7_leftBy_X7_put rfl rfl rfl (by decide +kernel) ⟨Nat.le_of_ble_eq_true rfl, Nat.le_of_ble_eq_true rfl⟩) hK hP hD hS hA [2] [0, 1, 3, 4, 5, 6, 7, 8] rfl rfl rfl rfl (by decide) rfl hl.1 rfl (Nat.le_of_ble_eq_true rfl) dX7_leftBy_16 ⟨Nat.zero_le _, Nat.zero_le _⟩ (fun H locs hP hD hS => ?_)
  have hP : va_P D vwCl [eO mO 6 [.int (zI mth), .ref mQtext, .int (zI mmany), .int (zI mcur), .int (zI mst), .int (zI mtok), .int (zI mval), .ref mQnow, .ref mQfresh, .ref mQwas, .int (zI macts), .ref mQisKept, .ref mQkept, .ref mQheard, .ref mQnumber, .ref mQlowUp, .ref mQlowDown, .ref mQhighUp, .ref mQhighDown, .int (zI mlev), .ref mQseen, .int (zI memp), .ref mQfirst], eA mQnow (cy 0) 11 mNow, eA mQfresh (cy 0) 11 qR_16, eA mQheard (cy 0) 11 mHeard, eA mQnumber (cy 0) 7 mNum, eA mQlowUp (cy 0) 7 mLU, eA mQlowDown (cy 0) 7 mLD, eA mQhighUp (cy 0) 7 mHU, eA mQhighDown (cy 0) 7 mHD] H := hP.sub [0, 1, 8, 2, 3, 4, 5, 6, 7] rfl
  have hD : va_D A [eO mO 6 [.int (zI mth), .ref mQtext, .int (zI mmany), .int (zI mcur), .int (zI mst), .int (zI mtok), .int (zI mval), .ref mQnow, .ref mQfresh, .ref mQwas, .int (zI macts), .ref mQisKept, .ref mQkept, .ref mQheard, .ref mQnumber, .ref mQlowUp, .ref mQlowDown, .ref mQhighUp, .ref mQhighDown, .int (zI mlev), .ref mQseen, .int (zI memp), .ref mQfirst], eA mQnow (cy 0) 11 mNow, eA mQfresh (cy 0) 11 qR_16, eA mQheard (cy 0) 11 mHeard, eA mQnumber (cy 0) 7 mNum, eA mQlowUp (cy 0) 7 mLU, eA mQlowDown (cy 0) 7 mLD, eA mQhighUp (cy 0) 7 mHU, eA mQhighDown (cy 0) 7 mHD] := hD.sub [0, 1, 8, 2, 3, 4, 5, 6, 7] rfl rfl
  refine lv_aload_n hx hb dX7_leftBy_19 rfl (lv_at hl 0 rfl) ?_
  refine lv_aload_n hx hb dX7_leftBy_20 rfl (lv_at hl 0 rfl) ?_
  refine va_get (D := D) (ci := 6) (v := .ref mQfresh) (C := RX7) (T := TX7) (N := 23) hx hb hts u_X7_leftBy_X7 hown hK.1 hP 0 rfl rfl 8 (by decide) (hts _ m_X7_leftBy_2) (fun _ h9 => h9) rfl dX7_leftBy_21 ?_
  obtain ⟨⟨r24, mlev_24, mHeard_24, mNum_24, mLU_24, mLD_24, mHU_24, mHD_24⟩, hc24, hf⟩ := zq_bind hf
  refine zcallVi (wr := [eA mQnow (cy 0) 11 mNow]) (rest := []) ⟨hx, hb, hml, hown, hts⟩ (c_X7_standing_f l D cy mO mQtext mQnow mQfresh mQwas mQisKept mQkept mQheard mQnumber mQlowUp mQlowDown mQhighUp mQhighDown mQseen mQfirst H.size mth mmany mcur mst mtok mval macts mlev memp qR_16 mHeard mNum mLU mLD mHU mHD hc24) (cwV 1 hts gX7_leftBy_X7_standing rfl rfl rfl (by decide +kernel) ⟨Nat.le_of_ble_eq_true rfl, Nat.le_of_ble_eq_true rfl⟩) hK hP hD hS hA [0, 2, 3, 4, 5, 6, 7, 8] [1] rfl rfl rfl rfl (by decide) (va_recv hK.1 hP (ci := 6) (q0 := 0) rfl rfl) rfl hl.1 rfl (Nat.le_of_ble_eq_true rfl) dX7_leftBy_24 ⟨Nat.zero_le _, Nat.zero_le _⟩ (fun H locs hP hD hS => ?_)
  have hP : va_P D vwCl [eO mO 6 [.int (zI mth), .ref mQtext, .int (zI mmany), .int (zI mcur), .int (zI mst), .int (zI mtok), .int (zI mval), .ref mQnow, .ref mQfresh, .ref mQwas, .int (zI macts), .ref mQisKept, .ref mQkept, .ref mQheard, .ref mQnumber, .ref mQlowUp, .ref mQlowDown, .ref mQhighUp, .ref mQhighDown, .int (zI mlev_24), .ref mQseen, .int (zI memp), .ref mQfirst], eA mQnow (cy 0) 11 mNow, eA mQfresh (cy 0) 11 qR_16, eA mQheard (cy 0) 11 mHeard_24, eA mQnumber (cy 0) 7 mNum_24, eA mQlowUp (cy 0) 7 mLU_24, eA mQlowDown (cy 0) 7 mLD_24, eA mQhighUp (cy 0) 7 mHU_24, eA mQhighDown (cy 0) 7 mHD_24] H := hP.sub [1, 0, 2, 3, 4, 5, 6, 7, 8] rfl
  have hD : va_D A [eO mO 6 [.int (zI mth), .ref mQtext, .int (zI mmany), .int (zI mcur), .int (zI mst), .int (zI mtok), .int (zI mval), .ref mQnow, .ref mQfresh, .ref mQwas, .int (zI macts), .ref mQisKept, .ref mQkept, .ref mQheard, .ref mQnumber, .ref mQlowUp, .ref mQlowDown, .ref mQhighUp, .ref mQhighDown, .int (zI mlev_24), .ref mQseen, .int (zI memp), .ref mQfirst], eA mQnow (cy 0) 11 mNow, eA mQfresh (cy 0) 11 qR_16, eA mQheard (cy 0) 11 mHeard_24, eA mQnumber (cy 0) 7 mNum_24, eA mQlowUp (cy 0) 7 mLU_24, eA mQlowDown (cy 0) 7 mLD_24, eA mQhighUp (cy 0) 7 mHU_24, eA mQhighDown (cy 0) 7 mHD_24] := hD.sub [1, 0, 2, 3, 4, 5, 6, 7, 8] rfl rfl
  have hf := zq_some hf
  cases hf
  exact W.iret hx hb hr (fun t ht hW => ⟨⟨_, (), rfl, rfl, by rw [ht]; exact hP, hD⟩, hS.F ht⟩) hS.2.2 dX7_leftBy_27

noncomputable def f_X7_left (p1 : Int) (mlev : Int) (mNow : Nat → Int) (mFresh : Nat → Int) (mHeard : Nat → Int) (mNum : Nat → Int) (mLU : Nat → Int) (mLD : Nat → Int) (mHU : Nat → Int) (mHD : Nat → Int) : Option (Int × Int × Int × (Nat → Int) × (Nat → Int) × (Nat → Int) × (Nat → Int) × (Nat → Int) × (Nat → Int) × (Nat → Int)) :=
  gd (zR p1) <|
  (f_X7_in p1 0 2999).bind fun r11 =>
  gd (zR r11) <|
  if r11 = 0 then
    some ((-1), 0, mlev, mFresh, mHeard, mNum, mLU, mLD, mHU, mHD)
  else
    (f_X7_placeOf p1 mNow).bind fun r24 =>
    gd (zR r24) <|
    if r24 < 0 then
      gd (zR (mNow 0) ∧ zR 7) <|
      if (mNow 0) = 7 then
        some ((-3), 0, mlev, mFresh, mHeard, mNum, mLU, mLD, mHU, mHD)
      else
        (f_X7_leftBy p1 mNow mFresh mHeard mNum mLU mLD mHU mHD).bind fun (r49, mlev_49, mFresh_49, mHeard_49, mNum_49, mLU_49, mLD_49, mHU_49, mHD_49) =>
        some (r49, 0, mlev_49, mFresh_49, mHeard_49, mNum_49, mLU_49, mLD_49, mHU_49, mHD_49)
    else
      some ((-2), 0, mlev, mFresh, mHeard, mNum, mLU, mLD, mHU, mHD)
theorem m_X7_left_1 : (.fieldLink RX7 1 "PulseTurnsModel" "thrown" "I" : Cond) ∈ wsX7_left := List.mem_of_getElem? (i := 1) rfl
theorem m_X7_left_2 : (.constantLong RX7 123 (2999) : Cond) ∈ wsX7_left := List.mem_of_getElem? (i := 2) rfl
theorem m_X7_left_3 : (.fieldLink RX7 46 "PulseTurnsModel" "now" "[I" : Cond) ∈ wsX7_left := List.mem_of_getElem? (i := 3) rfl
theorem u_X7_left_X7 : ∀ w ∈ wsX70, w ∈ wsX7_left := fun w h => List.mem_cons_of_mem _ (List.mem_append_right _ h)
set_option maxRecDepth 100000 in
set_option maxHeartbeats 4000000 in
theorem c_X7_left (l : Launch) (D : va_G) (cy : Nat → ClassId) (mO mQtext mQnow mQfresh mQwas mQisKept mQkept mQheard mQnumber mQlowUp mQlowDown mQhighUp mQhighDown mQseen mQfirst : Nat) (sz : Nat) (p1 : Int) (mth : Int) (mmany : Int) (mcur : Int) (mst : Int) (mtok : Int) (mval : Int) (macts : Int) (mlev : Int) (memp : Int) (mNow : Nat → Int) (mFresh : Nat → Int) (mHeard : Nat → Int) (mNum : Nat → Int) (mLU : Nat → Int) (mLD : Nat → Int) (mHU : Nat → Int) (mHD : Nat → Int) {r : Int} {mth' : Int} {mlev' : Int} {mFresh' : Nat → Int} {mHeard' : Nat → Int} {mNum' : Nat → Int} {mLU' : Nat → Int} {mLD' : Nat → Int} {mHU' : Nat → Int} {mHD' : Nat → Int} (hf : f_X7_left p1 mlev mNow mFresh mHeard mNum mLU mLD mHU mHD = some (r, mth', mlev', mFresh', mHeard', mNum', mLU', mLD', mHU', mHD')) : zMi l yX7_left wsX7_left ({ frames := 5, cells := 0, slots := 0, locals := 113 }) D cy sz [.ref mO, .int (zI p1)] [eO mO 6 [.int (zI mth), .ref mQtext, .int (zI mmany), .int (zI mcur), .int (zI mst), .int (zI mtok), .int (zI mval), .ref mQnow, .ref mQfresh, .ref mQwas, .int (zI macts), .ref mQisKept, .ref mQkept, .ref mQheard, .ref mQnumber, .ref mQlowUp, .ref mQlowDown, .ref mQhighUp, .ref mQhighDown, .int (zI mlev), .ref mQseen, .int (zI memp), .ref mQfirst], eA mQnow (cy 0) 11 mNow, eA mQfresh (cy 0) 11 mFresh, eA mQheard (cy 0) 11 mHeard, eA mQnumber (cy 0) 7 mNum, eA mQlowUp (cy 0) 7 mLU, eA mQlowDown (cy 0) 7 mLD, eA mQhighUp (cy 0) 7 mHU, eA mQhighDown (cy 0) 7 mHD] [eO mO 6 [.int (zI mth'), .ref mQtext, .int (zI mmany), .int (zI mcur), .int (zI mst), .int (zI mtok), .int (zI mval), .ref mQnow, .ref mQfresh, .ref mQwas, .int (zI macts), .ref mQisKept, .ref mQkept, .ref mQheard, .ref mQnumber, .ref mQlowUp, .ref mQlowDown, .ref mQhighUp, .ref mQhighDown, .int (zI mlev'), .ref mQseen, .int (zI memp), .ref mQfirst], eA mQnow (cy 0) 11 mNow, eA mQfresh (cy 0) 11 mFresh', eA mQheard (cy 0) 11 mHeard', eA mQnumber (cy 0) 7 mNum', eA mQlowUp (cy 0) 7 mLU', eA mQlowDown (cy 0) 7 mLD', eA mQhighUp (cy 0) 7 mHU', eA mQhighDown (cy 0) 7 mHD'] (zI r) := by
  refine Met.ofW (cc := cX7_left) (maxL := 2) (ret := (some .int)) (by decide) rfl ?_
  intro p e s m args below meth c s₁ B hml hv
  obtain ⟨rfl, hsz, hP, hK, hD0⟩ := hv
  have hx := B.exec
  have hb := B.bytes
  have hr := B.returns
  have hts := atoms_spec (ws := wsX7_left) B.pre
  have hown : s.vm.findClass RX7 = some m.cls := findClass_of_methodNamed B.named
  have hlocks := B.notSynchronized
  subst hsz
  have hD := hD0.self (sz := s.heap.size)
  generalize hAe : va_A [eO mO 6 [.int (zI mth), .ref mQtext, .int (zI mmany), .int (zI mcur), .int (zI mst), .int (zI mtok), .int (zI mval), .ref mQnow, .ref mQfresh, .ref mQwas, .int (zI macts), .ref mQisKept, .ref mQkept, .ref mQheard, .ref mQnumber, .ref mQlowUp, .ref mQlowDown, .ref mQhighUp, .ref mQhighDown, .int (zI mlev), .ref mQseen, .int (zI memp), .ref mQfirst], eA mQnow (cy 0) 11 mNow, eA mQfresh (cy 0) 11 mFresh, eA mQheard (cy 0) 11 mHeard, eA mQnumber (cy 0) 7 mNum, eA mQlowUp (cy 0) 7 mLU, eA mQlowDown (cy 0) 7 mLD, eA mQhighUp (cy 0) 7 mHU, eA mQhighDown (cy 0) 7 mHD] s.heap.size = A at hD ⊢
  have hA : ∀ q : Nat, s.heap.size ≤ q → A q := fun q h => by rw [← hAe]; exact Or.inr h
  have hS : va_S A s.heap s.heap [] := va_S.rf
  have hl := lv_entry ([.ref mO, .int (zI p1)]) (n := 2) (Nat.le_of_ble_eq_true rfl)
  rw [lg_entry_eq]
  generalize (lg_sl ([.ref mO, .int (zI p1)]) ++ List.replicate (2 - (lg_sl ([.ref mO, .int (zI p1)])).length) Slot.unset).toArray = ls at hl ⊢
  have hl : lv_has ls 2 [(0, .ref mO), (1, .int (zI p1))] := hl
  have hf := zq_of hf
  unfold f_X7_left at hf
  refine lv_aload_n hx hb dX7_left_0 rfl (lv_at hl 0 rfl) ?_
  refine lv_iconst (v := zI 0) hx hb dX7_left_1 rfl ?_
  refine va_put (D := D) (ci := 6) (v := .int (zI 0)) (ty := .int) (C := RX7) (T := TX7) (N := 23) hx hb hts u_X7_left_X7 tyX7 tyX7_ok nmX7 hown hK.1 hP hD hS 0 rfl rfl 0 (by decide) (hts _ m_X7_left_1) (fun _ h9 => h9) rfl (tyX7_ok 0 (by decide)) rfl rfl (Nat.le_of_ble_eq_true rfl) dX7_left_2 (fun H locs hP hD hS => ?_)
  have hP : va_P D vwCl [eO mO 6 [.int (zI 0), .ref mQtext, .int (zI mmany), .int (zI mcur), .int (zI mst), .int (zI mtok), .int (zI mval), .ref mQnow, .ref mQfresh, .ref mQwas, .int (zI macts), .ref mQisKept, .ref mQkept, .ref mQheard, .ref mQnumber, .ref mQlowUp, .ref mQlowDown, .ref mQhighUp, .ref mQhighDown, .int (zI mlev), .ref mQseen, .int (zI memp), .ref mQfirst], eA mQnow (cy 0) 11 mNow, eA mQfresh (cy 0) 11 mFresh, eA mQheard (cy 0) 11 mHeard, eA mQnumber (cy 0) 7 mNum, eA mQlowUp (cy 0) 7 mLU, eA mQlowDown (cy 0) 7 mLD, eA mQhighUp (cy 0) 7 mHU, eA mQhighDown (cy 0) 7 mHD] H := hP
  have hD : va_D A [eO mO 6 [.int (zI 0), .ref mQtext, .int (zI mmany), .int (zI mcur), .int (zI mst), .int (zI mtok), .int (zI mval), .ref mQnow, .ref mQfresh, .ref mQwas, .int (zI macts), .ref mQisKept, .ref mQkept, .ref mQheard, .ref mQnumber, .ref mQlowUp, .ref mQlowDown, .ref mQhighUp, .ref mQhighDown, .int (zI mlev), .ref mQseen, .int (zI memp), .ref mQfirst], eA mQnow (cy 0) 11 mNow, eA mQfresh (cy 0) 11 mFresh, eA mQheard (cy 0) 11 mHeard, eA mQnumber (cy 0) 7 mNum, eA mQlowUp (cy 0) 7 mLU, eA mQlowDown (cy 0) 7 mLD, eA mQhighUp (cy 0) 7 mHU, eA mQhighDown (cy 0) 7 mHD] := hD
  refine lv_iload_n hx hb dX7_left_5 rfl (lv_at hl 1 rfl) ?_
  obtain ⟨hg, hf⟩ := zq_gd hf
  refine lv_i2l (v := zL p1) hx hb dX7_left_6 (zL_i hg) ?_
  refine lv_lconst (v := zL 0) hx hb dX7_left_7 (by decide) ?_
  refine lv_ldc2 (v := zL 2999) hx hb hown (hts _ m_X7_left_2) dX7_left_8 ?_
  obtain ⟨r11, hc11, hf⟩ := zq_bind hf
  refine zcallSi (wr := [eO mO 6 [.int (zI 0), .ref mQtext, .int (zI mmany), .int (zI mcur), .int (zI mst), .int (zI mtok), .int (zI mval), .ref mQnow, .ref mQfresh, .ref mQwas, .int (zI macts), .ref mQisKept, .ref mQkept, .ref mQheard, .ref mQnumber, .ref mQlowUp, .ref mQlowDown, .ref mQhighUp, .ref mQhighDown, .int (zI mlev), .ref mQseen, .int (zI memp), .ref mQfirst], eA mQnow (cy 0) 11 mNow, eA mQfresh (cy 0) 11 mFresh, eA mQheard (cy 0) 11 mHeard, eA mQnumber (cy 0) 7 mNum, eA mQlowUp (cy 0) 7 mLU, eA mQlowDown (cy 0) 7 mLD, eA mQhighUp (cy 0) 7 mHU, eA mQhighDown (cy 0) 7 mHD]) (rest := []) ⟨hx, hb, hml, hown, hts⟩ (c_X7_in l D cy H.size p1 0 2999 hc11) (va_cwS 3 hts gX7_left_X7_in rfl rfl rfl (by decide +kernel) ⟨Nat.le_of_ble_eq_true rfl, Nat.le_of_ble_eq_true rfl⟩) hK hP hD hS hA [] [0, 1, 2, 3, 4, 5, 6, 7, 8] rfl rfl rfl rfl (by decide) rfl hl.1 rfl (Nat.le_of_ble_eq_true rfl) dX7_left_11 ⟨Nat.zero_le _, Nat.zero_le _⟩ (fun H locs hP hD hS => ?_)
  have hP : va_P D vwCl [eO mO 6 [.int (zI 0), .ref mQtext, .int (zI mmany), .int (zI mcur), .int (zI mst), .int (zI mtok), .int (zI mval), .ref mQnow, .ref mQfresh, .ref mQwas, .int (zI macts), .ref mQisKept, .ref mQkept, .ref mQheard, .ref mQnumber, .ref mQlowUp, .ref mQlowDown, .ref mQhighUp, .ref mQhighDown, .int (zI mlev), .ref mQseen, .int (zI memp), .ref mQfirst], eA mQnow (cy 0) 11 mNow, eA mQfresh (cy 0) 11 mFresh, eA mQheard (cy 0) 11 mHeard, eA mQnumber (cy 0) 7 mNum, eA mQlowUp (cy 0) 7 mLU, eA mQlowDown (cy 0) 7 mLD, eA mQhighUp (cy 0) 7 mHU, eA mQhighDown (cy 0) 7 mHD] H := hP.sub [0, 1, 2, 3, 4, 5, 6, 7, 8] rfl
  have hD : va_D A [eO mO 6 [.int (zI 0), .ref mQtext, .int (zI mmany), .int (zI mcur), .int (zI mst), .int (zI mtok), .int (zI mval), .ref mQnow, .ref mQfresh, .ref mQwas, .int (zI macts), .ref mQisKept, .ref mQkept, .ref mQheard, .ref mQnumber, .ref mQlowUp, .ref mQlowDown, .ref mQhighUp, .ref mQhighDown, .int (zI mlev), .ref mQseen, .int (zI memp), .ref mQfirst], eA mQnow (cy 0) 11 mNow, eA mQfresh (cy 0) 11 mFresh, eA mQheard (cy 0) 11 mHeard, eA mQnumber (cy 0) 7 mNum, eA mQlowUp (cy 0) 7 mLU, eA mQlowDown (cy 0) 7 mLD, eA mQhighUp (cy 0) 7 mHU, eA mQhighDown (cy 0) 7 mHD] := hD.sub [0, 1, 2, 3, 4, 5, 6, 7, 8] rfl rfl
  refine zz_if_ne (tgt := 19) hx hb dX7_left_14 (by decide) hf (fun hc hf => ?_) (fun hc hf => ?_)
  · refine lv_iconst (v := zI (-1)) hx hb dX7_left_17 rfl ?_
    have hf := zq_some hf
    cases hf
    exact W.iret hx hb hr (fun t ht hW => ⟨⟨_, (), rfl, rfl, by rw [ht]; exact hP, hD⟩, hS.F ht⟩) hS.2.2 dX7_left_18
  · refine lv_aload_n hx hb dX7_left_19 rfl (lv_at hl 0 rfl) ?_
    refine va_get (D := D) (ci := 6) (v := .ref mQnow) (C := RX7) (T := TX7) (N := 23) hx hb hts u_X7_left_X7 hown hK.1 hP 0 rfl rfl 7 (by decide) (hts _ m_X7_left_3) (fun _ h9 => h9) rfl dX7_left_20 ?_
    refine lv_iload_n hx hb dX7_left_23 rfl (lv_at hl 1 rfl) ?_
    obtain ⟨r24, hc24, hf⟩ := zq_bind hf
    refine zcallSi (wr := [eO mO 6 [.int (zI 0), .ref mQtext, .int (zI mmany), .int (zI mcur), .int (zI mst), .int (zI mtok), .int (zI mval), .ref mQnow, .ref mQfresh, .ref mQwas, .int (zI macts), .ref mQisKept, .ref mQkept, .ref mQheard, .ref mQnumber, .ref mQlowUp, .ref mQlowDown, .ref mQhighUp, .ref mQhighDown, .int (zI mlev), .ref mQseen, .int (zI memp), .ref mQfirst], eA mQfresh (cy 0) 11 mFresh, eA mQheard (cy 0) 11 mHeard, eA mQnumber (cy 0) 7 mNum, eA mQlowUp (cy 0) 7 mLU, eA mQlowDown (cy 0) 7 mLD, eA mQhighUp (cy 0) 7 mHU, eA mQhighDown (cy 0) 7 mHD]) (rest := []) ⟨hx, hb, hml, hown, hts⟩ (c_X7_placeOf l D cy mQnow H.size p1 mNow hc24) (va_cwS 2 hts gX7_left_X7_placeOf rfl rfl rfl (by decide +kernel) ⟨Nat.le_of_ble_eq_true rfl, Nat.le_of_ble_eq_true rfl⟩) hK hP hD hS hA [1] [0, 2, 3, 4, 5, 6, 7, 8] rfl rfl rfl rfl (by decide) rfl hl.1 rfl (Nat.le_of_ble_eq_true rfl) dX7_left_24 ⟨Nat.zero_le _, Nat.zero_le _⟩ (fun H locs hP hD hS => ?_)
    have hP : va_P D vwCl [eO mO 6 [.int (zI 0), .ref mQtext, .int (zI mmany), .int (zI mcur), .int (zI mst), .int (zI mtok), .int (zI mval), .ref mQnow, .ref mQfresh, .ref mQwas, .int (zI macts), .ref mQisKept, .ref mQkept, .ref mQheard, .ref mQnumber, .ref mQlowUp, .ref mQlowDown, .ref mQhighUp, .ref mQhighDown, .int (zI mlev), .ref mQseen, .int (zI memp), .ref mQfirst], eA mQnow (cy 0) 11 mNow, eA mQfresh (cy 0) 11 mFresh, eA mQheard (cy 0) 11 mHeard, eA mQnumber (cy 0) 7 mNum, eA mQlowUp (cy 0) 7 mLU, eA mQlowDown (cy 0) 7 mLD, eA mQhighUp (cy 0) 7 mHU, eA mQhighDown (cy 0) 7 mHD] H := hP.sub [0, 8, 1, 2, 3, 4, 5, 6, 7] rfl
    have hD : va_D A [eO mO 6 [.int (zI 0), .ref mQtext, .int (zI mmany), .int (zI mcur), .int (zI mst), .int (zI mtok), .int (zI mval), .ref mQnow, .ref mQfresh, .ref mQwas, .int (zI macts), .ref mQisKept, .ref mQkept, .ref mQheard, .ref mQnumber, .ref mQlowUp, .ref mQlowDown, .ref mQhighUp, .ref mQhighDown, .int (zI mlev), .ref mQseen, .int (zI memp), .ref mQfirst], eA mQnow (cy 0) 11 mNow, eA mQfresh (cy 0) 11 mFresh, eA mQheard (cy 0) 11 mHeard, eA mQnumber (cy 0) 7 mNum, eA mQlowUp (cy 0) 7 mLU, eA mQlowDown (cy 0) 7 mLD, eA mQhighUp (cy 0) 7 mHU, eA mQhighDown (cy 0) 7 mHD] := hD.sub [0, 8, 1, 2, 3, 4, 5, 6, 7] rfl rfl
    refine zz_if_lt (tgt := 33) hx hb dX7_left_27 (by decide) hf (fun hc hf => ?_) (fun hc hf => ?_)
    · refine lv_aload_n hx hb dX7_left_33 rfl (lv_at hl 0 rfl) ?_
      refine va_get (D := D) (ci := 6) (v := .ref mQnow) (C := RX7) (T := TX7) (N := 23) hx hb hts u_X7_left_X7 hown hK.1 hP 0 rfl rfl 7 (by decide) (hts _ m_X7_left_3) (fun _ h9 => h9) rfl dX7_left_34 ?_
      refine lv_iconst (v := zI 0) hx hb dX7_left_37 rfl ?_
      refine zz_iald (i := 0) hx hb hK hP 1 rfl (Nat.le_of_ble_eq_true rfl) (by decide) dX7_left_38 ?_
      refine lv_bipush (v := zI 7) hx hb dX7_left_39 (by decide) ?_
      refine zz_icmp_ne (tgt := 47) hx hb dX7_left_41 (by decide) hf (fun hc hf => ?_) (fun hc hf => ?_)
      · refine lv_bipush (v := zI (-3)) hx hb dX7_left_44 (by decide) ?_
        have hf := zq_some hf
        cases hf
        exact W.iret hx hb hr (fun t ht hW => ⟨⟨_, (), rfl, rfl, by rw [ht]; exact hP, hD⟩, hS.F ht⟩) hS.2.2 dX7_left_46
      · refine lv_aload_n hx hb dX7_left_47 rfl (lv_at hl 0 rfl) ?_
        refine lv_iload_n hx hb dX7_left_48 rfl (lv_at hl 1 rfl) ?_
        obtain ⟨⟨r49, mlev_49, mFresh_49, mHeard_49, mNum_49, mLU_49, mLD_49, mHU_49, mHD_49⟩, hc49, hf⟩ := zq_bind hf
        refine zcallVi (wr := []) (rest := []) ⟨hx, hb, hml, hown, hts⟩ (c_X7_leftBy l D cy mO mQtext mQnow mQfresh mQwas mQisKept mQkept mQheard mQnumber mQlowUp mQlowDown mQhighUp mQhighDown mQseen mQfirst H.size p1 0 mmany mcur mst mtok mval macts mlev memp mNow mFresh mHeard mNum mLU mLD mHU mHD hc49) (cwV 1 hts gX7_left_X7_leftBy rfl rfl rfl (by decide +kernel) ⟨Nat.le_of_ble_eq_true rfl, Nat.le_of_ble_eq_true rfl⟩) hK hP hD hS hA [0, 1, 2, 3, 4, 5, 6, 7, 8] [] rfl rfl rfl rfl (by decide) (va_recv hK.1 hP (ci := 6) (q0 := 0) rfl rfl) rfl hl.1 rfl (Nat.le_of_ble_eq_true rfl) dX7_left_49 ⟨Nat.zero_le _, Nat.zero_le _⟩ (fun H locs hP hD hS => ?_)
        have hP : va_P D vwCl [eO mO 6 [.int (zI 0), .ref mQtext, .int (zI mmany), .int (zI mcur), .int (zI mst), .int (zI mtok), .int (zI mval), .ref mQnow, .ref mQfresh, .ref mQwas, .int (zI macts), .ref mQisKept, .ref mQkept, .ref mQheard, .ref mQnumber, .ref mQlowUp, .ref mQlowDown, .ref mQhighUp, .ref mQhighDown, .int (zI mlev_49), .ref mQseen, .int (zI memp), .ref mQfirst], eA mQnow (cy 0) 11 mNow, eA mQfresh (cy 0) 11 mFresh_49, eA mQheard (cy 0) 11 mHeard_49, eA mQnumber (cy 0) 7 mNum_49, eA mQlowUp (cy 0) 7 mLU_49, eA mQlowDown (cy 0) 7 mLD_49, eA mQhighUp (cy 0) 7 mHU_49, eA mQhighDown (cy 0) 7 mHD_49] H := hP.sub [0, 1, 2, 3, 4, 5, 6, 7, 8] rfl
        have hD : va_D A [eO mO 6 [.int (zI 0), .ref mQtext, .int (zI mmany), .int (zI mcur), .int (zI mst), .int (zI mtok), .int (zI mval), .ref mQnow, .ref mQfresh, .ref mQwas, .int (zI macts), .ref mQisKept, .ref mQkept, .ref mQheard, .ref mQnumber, .ref mQlowUp, .ref mQlowDown, .ref mQhighUp, .ref mQhighDown, .int (zI mlev_49), .ref mQseen, .int (zI memp), .ref mQfirst], eA mQnow (cy 0) 11 mNow, eA mQfresh (cy 0) 11 mFresh_49, eA mQheard (cy 0) 11 mHeard_49, eA mQnumber (cy 0) 7 mNum_49, eA mQlowUp (cy 0) 7 mLU_49, eA mQlowDown (cy 0) 7 mLD_49, eA mQhighUp (cy 0) 7 mHU_49, eA mQhighDown (cy 0) 7 mHD_49] := hD.sub [0, 1, 2, 3, 4, 5, 6, 7, 8] rfl rfl
        have hf := zq_some hf
        cases hf
        exact W.iret hx hb hr (fun t ht hW => ⟨⟨_, (), rfl, rfl, by rw [ht]; exact hP, hD⟩, hS.F ht⟩) hS.2.2 dX7_left_52
    · refine lv_bipush (v := zI (-2)) hx hb dX7_left_30 (by decide) ?_
      have hf := zq_some hf
      cases hf
      exact W.iret hx hb hr (fun t ht hW => ⟨⟨_, (), rfl, rfl, by rw [ht]; exact hP, hD⟩, hS.F ht⟩) hS.2.2 dX7_left_32

noncomputable def st_X7_listen (mNow : Nat → Int) : (Int × Int × Int × Int × Int × Int × (Nat → Int) × (Nat → Int) × (Nat → Int) × (Nat → Int) × (Nat → Int) × (Nat → Int) × (Nat → Int)) → Option ((Int × Int × Int × Int × Int × Int × (Nat → Int) × (Nat → Int) × (Nat → Int) × (Nat → Int) × (Nat → Int) × (Nat → Int) × (Nat → Int)) ⊕ (Int × Int × Int × (Nat → Int) × (Nat → Int) × (Nat → Int) × (Nat → Int) × (Nat → Int) × (Nat → Int) × (Nat → Int))) := fun (x1, x2, x3, x4, mth, mlev, mFresh, mHeard, mNum, mLU, mLD, mHU, mHD) =>
  gd (zR x4 ∧ zR (x3 + 100)) <|
  if x4 ≤ (x3 + 100) then
    gd (zR x4 ∧ zR 2999) <|
    if x4 ≤ 2999 then
      (f_X7_leftBy x4 mNow mFresh mHeard mNum mLU mLD mHU mHD).bind fun (r80, mlev_80, mFresh_80, mHeard_80, mNum_80, mLU_80, mLD_80, mHU_80, mHD_80) =>
      gd (zR r80) <|
      if r80 ≤ 0 then
        some (.inl (x1, x2, x3, (x4 + 1), mth, mlev_80, mFresh_80, mHeard_80, mNum_80, mLU_80, mLD_80, mHU_80, mHD_80))
      else
        gd (zR x1 ∧ zR (-9)) <|
        if x1 = (-9) then
          some (.inl (x4, r80, x3, (x4 + 1), mth, mlev_80, mFresh_80, mHeard_80, mNum_80, mLU_80, mLD_80, mHU_80, mHD_80))
        else
          gd (zR r80 ∧ zR x2) <|
          if r80 < x2 then
            some (.inl (x4, r80, x3, (x4 + 1), mth, mlev_80, mFresh_80, mHeard_80, mNum_80, mLU_80, mLD_80, mHU_80, mHD_80))
          else
            some (.inl (x1, x2, x3, (x4 + 1), mth, mlev_80, mFresh_80, mHeard_80, mNum_80, mLU_80, mLD_80, mHU_80, mHD_80))
    else
      some (.inr (x1, mth, mlev, mFresh, mHeard, mNum, mLU, mLD, mHU, mHD))
  else
    some (.inr (x1, mth, mlev, mFresh, mHeard, mNum, mLU, mLD, mHU, mHD))
noncomputable def f_X7_listen (mlev : Int) (mNow : Nat → Int) (mFresh : Nat → Int) (mHeard : Nat → Int) (mNum : Nat → Int) (mLU : Nat → Int) (mLD : Nat → Int) (mHU : Nat → Int) (mHD : Nat → Int) : Option (Int × Int × Int × (Nat → Int) × (Nat → Int) × (Nat → Int) × (Nat → Int) × (Nat → Int) × (Nat → Int) × (Nat → Int)) :=
  gd (zR (mNow 0) ∧ zR 7) <|
  if (mNow 0) = 7 then
    some ((-3), 0, mlev, mFresh, mHeard, mNum, mLU, mLD, mHU, mHD)
  else
    gd (zR (mNow 0)) <|
    if (mNow 0) = 0 then
      zlt (2999 + 1) fun v58 =>
      zev (st_X7_listen mNow) ((-9), 0, 2999, v58, 0, mlev, mFresh, mHeard, mNum, mLU, mLD, mHU, mHD)
    else
      gd (zin ((4 + (mNow 0)) - 1) 11) <|
      zlt (mNow (Int.toNat ((4 + (mNow 0)) - 1))) fun v54 =>
      zlt (v54 + 1) fun v58 =>
      zev (st_X7_listen mNow) ((-9), 0, v54, v58, 0, mlev, mFresh, mHeard, mNum, mLU, mLD, mHU, mHD)
theorem m_X7_listen_1 : (.fieldLink RX7 1 "PulseTurnsModel" "thrown" "I" : Cond) ∈ wsX7_listen := List.mem_of_getElem? (i := 1) rfl
theorem m_X7_listen_2 : (.fieldLink RX7 46 "PulseTurnsModel" "now" "[I" : Cond) ∈ wsX7_listen := List.mem_of_getElem? (i := 2) rfl
theorem u_X7_listen_X7 : ∀ w ∈ wsX70, w ∈ wsX7_listen := fun w h => List.mem_cons_of_mem _ (List.mem_append_right _ h)
set_option maxRecDepth 100000 in
set_option maxHeartbeats 4000000 in
theorem c_X7_listen (l : Launch) (D : va_G) (cy : Nat → ClassId) (mO mQtext mQnow mQfresh mQwas mQisKept mQkept mQheard mQnumber mQlowUp mQlowDown mQhighUp mQhighDown mQseen mQfirst : Nat) (sz : Nat) (mth : Int) (mmany : Int) (mcur : Int) (mst : Int) (mtok : Int) (mval : Int) (macts : Int) (mlev : Int) (memp : Int) (mNow : Nat → Int) (mFresh : Nat → Int) (mHeard : Nat → Int) (mNum : Nat → Int) (mLU : Nat → Int) (mLD : Nat → Int) (mHU : Nat → Int) (mHD : Nat → Int) {r : Int} {mth' : Int} {mlev' : Int} {mFresh' : Nat → Int} {mHeard' : Nat → Int} {mNum' : Nat → Int} {mLU' : Nat → Int} {mLD' : Nat → Int} {mHU' : Nat → Int} {mHD' : Nat → Int} (hf : f_X7_listen mlev mNow mFresh mHeard mNum mLU mLD mHU mHD = some (r, mth', mlev', mFresh', mHeard', mNum', mLU', mLD', mHU', mHD')) : zMi l yX7_listen wsX7_listen ({ frames := 5, cells := 0, slots := 0, locals := 113 }) D cy sz [.ref mO] [eO mO 6 [.int (zI mth), .ref mQtext, .int (zI mmany), .int (zI mcur), .int (zI mst), .int (zI mtok), .int (zI mval), .ref mQnow, .ref mQfresh, .ref mQwas, .int (zI macts), .ref mQisKept, .ref mQkept, .ref mQheard, .ref mQnumber, .ref mQlowUp, .ref mQlowDown, .ref mQhighUp, .ref mQhighDown, .int (zI mlev), .ref mQseen, .int (zI memp), .ref mQfirst], eA mQnow (cy 0) 11 mNow, eA mQfresh (cy 0) 11 mFresh, eA mQheard (cy 0) 11 mHeard, eA mQnumber (cy 0) 7 mNum, eA mQlowUp (cy 0) 7 mLU, eA mQlowDown (cy 0) 7 mLD, eA mQhighUp (cy 0) 7 mHU, eA mQhighDown (cy 0) 7 mHD] [eO mO 6 [.int (zI mth'), .ref mQtext, .int (zI mmany), .int (zI mcur), .int (zI mst), .int (zI mtok), .int (zI mval), .ref mQnow, .ref mQfresh, .ref mQwas, .int (zI macts), .ref mQisKept, .ref mQkept, .ref mQheard, .ref mQnumber, .ref mQlowUp, .ref mQlowDown, .ref mQhighUp, .ref mQhighDown, .int (zI mlev'), .ref mQseen, .int (zI memp), .ref mQfirst], eA mQnow (cy 0) 11 mNow, eA mQfresh (cy 0) 11 mFresh', eA mQheard (cy 0) 11 mHeard', eA mQnumber (cy 0) 7 mNum', eA mQlowUp (cy 0) 7 mLU', eA mQlowDown (cy 0) 7 mLD', eA mQhighUp (cy 0) 7 mHU', eA mQhighDown (cy 0) 7 mHD'] (zI r) := by
  refine Met.ofW (cc := cX7_listen) (maxL := 6) (ret := (some .int)) (by decide) rfl ?_
  intro p e s m args below meth c s₁ B hml hv
  obtain ⟨rfl, hsz, hP, hK, hD0⟩ := hv
  have hx := B.exec
  have hb := B.bytes
  have hr := B.returns
  have hts := atoms_spec (ws := wsX7_listen) B.pre
  have hown : s.vm.findClass RX7 = some m.cls := findClass_of_methodNamed B.named
  have hlocks := B.notSynchronized
  subst hsz
  have hD := hD0.self (sz := s.heap.size)
  generalize hAe : va_A [eO mO 6 [.int (zI mth), .ref mQtext, .int (zI mmany), .int (zI mcur), .int (zI mst), .int (zI mtok), .int (zI mval), .ref mQnow, .ref mQfresh, .ref mQwas, .int (zI macts), .ref mQisKept, .ref mQkept, .ref mQheard, .ref mQnumber, .ref mQlowUp, .ref mQlowDown, .ref mQhighUp, .ref mQhighDown, .int (zI mlev), .ref mQseen, .int (zI memp), .ref mQfirst], eA mQnow (cy 0) 11 mNow, eA mQfresh (cy 0) 11 mFresh, eA mQheard (cy 0) 11 mHeard, eA mQnumber (cy 0) 7 mNum, eA mQlowUp (cy 0) 7 mLU, eA mQlowDown (cy 0) 7 mLD, eA mQhighUp (cy 0) 7 mHU, eA mQhighDown (cy 0) 7 mHD] s.heap.size = A at hD ⊢
  have hA : ∀ q : Nat, s.heap.size ≤ q → A q := fun q h => by rw [← hAe]; exact Or.inr h
  have hS : va_S A s.heap s.heap [] := va_S.rf
  have hl := lv_entry ([.ref mO]) (n := 6) (Nat.le_of_ble_eq_true rfl)
  rw [lg_entry_eq]
  generalize (lg_sl ([.ref mO]) ++ List.replicate (6 - (lg_sl ([.ref mO])).length) Slot.unset).toArray = ls at hl ⊢
  have hl : lv_has ls 6 [(0, .ref mO)] := hl
  have hf := zq_of hf
  have key := zloop (st := st_X7_listen mNow) (res := (r, mth', mlev', mFresh', mHeard', mNum', mLU', mLD', mHU', mHD')) (K := fun (x1, x2, x3, x4, mth, mlev, mFresh, mHeard, mNum, mLU, mLD, mHU, mHD) => ∀ (H : Heap) (locs : List Loc) (ls : Array Slot), va_P D vwCl [eO mO 6 [.int (zI mth), .ref mQtext, .int (zI mmany), .int (zI mcur), .int (zI mst), .int (zI mtok), .int (zI mval), .ref mQnow, .ref mQfresh, .ref mQwas, .int (zI macts), .ref mQisKept, .ref mQkept, .ref mQheard, .ref mQnumber, .ref mQlowUp, .ref mQlowDown, .ref mQhighUp, .ref mQhighDown, .int (zI mlev), .ref mQseen, .int (zI memp), .ref mQfirst], eA mQnow (cy 0) 11 mNow, eA mQfresh (cy 0) 11 mFresh, eA mQheard (cy 0) 11 mHeard, eA mQnumber (cy 0) 7 mNum, eA mQlowUp (cy 0) 7 mLU, eA mQlowDown (cy 0) 7 mLD, eA mQhighUp (cy 0) 7 mHU, eA mQhighDown (cy 0) 7 mHD] H → va_D A [eO mO 6 [.int (zI mth), .ref mQtext, .int (zI mmany), .int (zI mcur), .int (zI mst), .int (zI mtok), .int (zI mval), .ref mQnow, .ref mQfresh, .ref mQwas, .int (zI macts), .ref mQisKept, .ref mQkept, .ref mQheard, .ref mQnumber, .ref mQlowUp, .ref mQlowDown, .ref mQhighUp, .ref mQhighDown, .int (zI mlev), .ref mQseen, .int (zI memp), .ref mQfirst], eA mQnow (cy 0) 11 mNow, eA mQfresh (cy 0) 11 mFresh, eA mQheard (cy 0) 11 mHeard, eA mQnumber (cy 0) 7 mNum, eA mQlowUp (cy 0) 7 mLU, eA mQlowDown (cy 0) 7 mLD, eA mQhighUp (cy 0) 7 mHU, eA mQhighDown (cy 0) 7 mHD] → va_S A s.heap H locs → lv_has ls 6 [(0, .ref mO), (1, .int (zI x1)), (2, .int (zI x2)), (3, .int (zI x3)), (4, .int (zI x4))] → zGi p l e wsX7_listen ({ frames := 5, cells := 0, slots := 0, locals := 113 }) s m [.ref mO] below meth c A D [eO mO 6 [.int (zI mth'), .ref mQtext, .int (zI mmany), .int (zI mcur), .int (zI mst), .int (zI mtok), .int (zI mval), .ref mQnow, .ref mQfresh, .ref mQwas, .int (zI macts), .ref mQisKept, .ref mQkept, .ref mQheard, .ref mQnumber, .ref mQlowUp, .ref mQlowDown, .ref mQhighUp, .ref mQhighDown, .int (zI mlev'), .ref mQseen, .int (zI memp), .ref mQfirst], eA mQnow (cy 0) 11 mNow, eA mQfresh (cy 0) 11 mFresh', eA mQheard (cy 0) 11 mHeard', eA mQnumber (cy 0) 7 mNum', eA mQlowUp (cy 0) 7 mLU', eA mQlowDown (cy 0) 7 mLD', eA mQhighUp (cy 0) 7 mHU', eA mQhighDown (cy 0) 7 mHD'] (zI r) H locs (F0 m 60 ls [])) (by
    rintro ⟨x1, x2, x3, x4, mth, mlev, mFresh, mHeard, mNum, mLU, mLD, mHU, mHD⟩ hf
    intro H locs ls hP hD hS hl
    unfold st_X7_listen at hf
    try dsimp only at hf
    refine lv_iload hx hb dX7_listen_60 (lv_at hl 4 rfl) ?_
    refine lv_iload_n hx hb dX7_listen_62 rfl (lv_at hl 3 rfl) ?_
    refine lv_bipush (v := zI 100) hx hb dX7_listen_63 (by decide) ?_
    refine zz_iadd hx hb dX7_listen_65 ?_
    refine zz_icmp_gt (tgt := 114) hx hb dX7_listen_66 (by decide) hf (fun hc hf => ?_) (fun hc hf => ?_)
    · refine lv_iload hx hb dX7_listen_69 (lv_at hl 4 rfl) ?_
      refine lv_sipush (v := zI 2999) hx hb dX7_listen_71 (by decide) ?_
      refine zz_icmp_gt (tgt := 114) hx hb dX7_listen_74 (by decide) hf (fun hc hf => ?_) (fun hc hf => ?_)
      · refine lv_aload_n hx hb dX7_listen_77 rfl (lv_at hl 0 rfl) ?_
        refine lv_iload hx hb dX7_listen_78 (lv_at hl 4 rfl) ?_
        obtain ⟨⟨r80, mlev_80, mFresh_80, mHeard_80, mNum_80, mLU_80, mLD_80, mHU_80, mHD_80⟩, hc80, hf⟩ := zq_bind hf
        refine zcallVi (wr := []) (rest := []) ⟨hx, hb, hml, hown, hts⟩ (c_X7_leftBy l D cy mO mQtext mQnow mQfresh mQwas mQisKept mQkept mQheard mQnumber mQlowUp mQlowDown mQhighUp mQhighDown mQseen mQfirst H.size x4 mth mmany mcur mst mtok mval macts mlev memp mNow mFresh mHeard mNum mLU mLD mHU mHD hc80) (cwV 1 hts gX7_listen_X7_leftBy rfl rfl rfl (by decide +kernel) ⟨Nat.le_of_ble_eq_true rfl, Nat.le_of_ble_eq_true rfl⟩) hK hP hD hS hA [0, 1, 2, 3, 4, 5, 6, 7, 8] [] rfl rfl rfl rfl (by decide) (va_recv hK.1 hP (ci := 6) (q0 := 0) rfl rfl) rfl hl.1 rfl (Nat.le_of_ble_eq_true rfl) dX7_listen_80 ⟨Nat.zero_le _, Nat.zero_le _⟩ (fun H locs hP hD hS => ?_)
        have hP : va_P D vwCl [eO mO 6 [.int (zI mth), .ref mQtext, .int (zI mmany), .int (zI mcur), .int (zI mst), .int (zI mtok), .int (zI mval), .ref mQnow, .ref mQfresh, .ref mQwas, .int (zI macts), .ref mQisKept, .ref mQkept, .ref mQheard, .ref mQnumber, .ref mQlowUp, .ref mQlowDown, .ref mQhighUp, .ref mQhighDown, .int (zI mlev_80), .ref mQseen, .int (zI memp), .ref mQfirst], eA mQnow (cy 0) 11 mNow, eA mQfresh (cy 0) 11 mFresh_80, eA mQheard (cy 0) 11 mHeard_80, eA mQnumber (cy 0) 7 mNum_80, eA mQlowUp (cy 0) 7 mLU_80, eA mQlowDown (cy 0) 7 mLD_80, eA mQhighUp (cy 0) 7 mHU_80, eA mQhighDown (cy 0) 7 mHD_80] H := hP.sub [0, 1, 2, 3, 4, 5, 6, 7, 8] rfl
        have hD : va_D A [eO mO 6 [.int (zI mth), .ref mQtext, .int (zI mmany), .int (zI mcur), .int (zI mst), .int (zI mtok), .int (zI mval), .ref mQnow, .ref mQfresh, .ref mQwas, .int (zI macts), .ref mQisKept, .ref mQkept, .ref mQheard, .ref mQnumber, .ref mQlowUp, .ref mQlowDown, .ref mQhighUp, .ref mQhighDown, .int (zI mlev_80), .ref mQseen, .int (zI memp), .ref mQfirst], eA mQnow (cy 0) 11 mNow, eA mQfresh (cy 0) 11 mFresh_80, eA mQheard (cy 0) 11 mHeard_80, eA mQnumber (cy 0) 7 mNum_80, eA mQlowUp (cy 0) 7 mLU_80, eA mQlowDown (cy 0) 7 mLD_80, eA mQhighUp (cy 0) 7 mHU_80, eA mQhighDown (cy 0) 7 mHD_80] := hD.sub [0, 1, 2, 3, 4, 5, 6, 7, 8] rfl rfl
        refine lv_istore (lv' := [(5, .int (zI r80)), (0, .ref mO), (1, .int (zI x1)), (2, .int (zI x2)), (3, .int (zI x3)), (4, .int (zI x4))]) hx hb dX7_listen_83 hl (by decide) rfl (fun ls hl => ?_)
        refine lv_iload hx hb dX7_listen_85 (lv_at hl 0 rfl) ?_
        refine zz_if_le (tgt := 108) hx hb dX7_listen_87 (by decide) hf (fun hc hf => ?_) (fun hc hf => ?_)
        · refine lv_iinc (v := zI (x4 + 1)) (lv' := [(4, .int (zI (x4 + 1))), (5, .int (zI r80)), (0, .ref mO), (1, .int (zI x1)), (2, .int (zI x2)), (3, .int (zI x3))]) hx hb dX7_listen_108 hl (k := 5) rfl (zI_add _ _) (by decide) rfl (fun ls hl => ?_)
          refine lv_goto (tgt := 60) hx hb dX7_listen_111 (by decide) ?_
          have hf := zq_some hf
          exact hf _ _ _ hP hD hS (lv_sub hl [2, 3, 4, 5, 0] rfl)
        · refine lv_iload_n hx hb dX7_listen_90 rfl (lv_at hl 2 rfl) ?_
          refine lv_bipush (v := zI (-9)) hx hb dX7_listen_91 (by decide) ?_
          refine zz_icmp_eq (tgt := 102) hx hb dX7_listen_93 (by decide) hf (fun hc hf => ?_) (fun hc hf => ?_)
          · refine lv_iload hx hb dX7_listen_102 (lv_at hl 5 rfl) ?_
            refine lv_istore_n (lv' := [(1, .int (zI x4)), (5, .int (zI r80)), (0, .ref mO), (2, .int (zI x2)), (3, .int (zI x3)), (4, .int (zI x4))]) hx hb dX7_listen_104 rfl hl (by decide) rfl (fun ls hl => ?_)
            refine lv_iload hx hb dX7_listen_105 (lv_at hl 1 rfl) ?_
            refine lv_istore_n (lv' := [(2, .int (zI r80)), (1, .int (zI x4)), (5, .int (zI r80)), (0, .ref mO), (3, .int (zI x3)), (4, .int (zI x4))]) hx hb dX7_listen_107 rfl hl (by decide) rfl (fun ls hl => ?_)
            refine lv_iinc (v := zI (x4 + 1)) (lv' := [(4, .int (zI (x4 + 1))), (2, .int (zI r80)), (1, .int (zI x4)), (5, .int (zI r80)), (0, .ref mO), (3, .int (zI x3))]) hx hb dX7_listen_108 hl (k := 5) rfl (zI_add _ _) (by decide) rfl (fun ls hl => ?_)
            refine lv_goto (tgt := 60) hx hb dX7_listen_111 (by decide) ?_
            have hf := zq_some hf
            exact hf _ _ _ hP hD hS (lv_sub hl [4, 2, 1, 5, 0] rfl)
          · refine lv_iload hx hb dX7_listen_96 (lv_at hl 0 rfl) ?_
            refine lv_iload_n hx hb dX7_listen_98 rfl (lv_at hl 3 rfl) ?_
            refine zz_icmp_ge (tgt := 108) hx hb dX7_listen_99 (by decide) hf (fun hc hf => ?_) (fun hc hf => ?_)
            · refine lv_iload hx hb dX7_listen_102 (lv_at hl 5 rfl) ?_
              refine lv_istore_n (lv' := [(1, .int (zI x4)), (5, .int (zI r80)), (0, .ref mO), (2, .int (zI x2)), (3, .int (zI x3)), (4, .int (zI x4))]) hx hb dX7_listen_104 rfl hl (by decide) rfl (fun ls hl => ?_)
              refine lv_iload hx hb dX7_listen_105 (lv_at hl 1 rfl) ?_
              refine lv_istore_n (lv' := [(2, .int (zI r80)), (1, .int (zI x4)), (5, .int (zI r80)), (0, .ref mO), (3, .int (zI x3)), (4, .int (zI x4))]) hx hb dX7_listen_107 rfl hl (by decide) rfl (fun ls hl => ?_)
              refine lv_iinc (v := zI (x4 + 1)) (lv' := [(4, .int (zI (x4 + 1))), (2, .int (zI r80)), (1, .int (zI x4)), (5, .int (zI r80)), (0, .ref mO), (3, .int (zI x3))]) hx hb dX7_listen_108 hl (k := 5) rfl (zI_add _ _) (by decide) rfl (fun ls hl => ?_)
              refine lv_goto (tgt := 60) hx hb dX7_listen_111 (by decide) ?_
              have hf := zq_some hf
              exact hf _ _ _ hP hD hS (lv_sub hl [4, 2, 1, 5, 0] rfl)
            · refine lv_iinc (v := zI (x4 + 1)) (lv' := [(4, .int (zI (x4 + 1))), (5, .int (zI r80)), (0, .ref mO), (1, .int (zI x1)), (2, .int (zI x2)), (3, .int (zI x3))]) hx hb dX7_listen_108 hl (k := 5) rfl (zI_add _ _) (by decide) rfl (fun ls hl => ?_)
              refine lv_goto (tgt := 60) hx hb dX7_listen_111 (by decide) ?_
              have hf := zq_some hf
              exact hf _ _ _ hP hD hS (lv_sub hl [2, 3, 4, 5, 0] rfl)
      · refine lv_iload_n hx hb dX7_listen_114 rfl (lv_at hl 1 rfl) ?_
        have hf := zq_some hf
        cases hf
        exact W.iret hx hb hr (fun t ht hW => ⟨⟨_, (), rfl, rfl, by rw [ht]; exact hP, hD⟩, hS.F ht⟩) hS.2.2 dX7_listen_115
    · refine lv_iload_n hx hb dX7_listen_114 rfl (lv_at hl 1 rfl) ?_
      have hf := zq_some hf
      cases hf
      exact W.iret hx hb hr (fun t ht hW => ⟨⟨_, (), rfl, rfl, by rw [ht]; exact hP, hD⟩, hS.F ht⟩) hS.2.2 dX7_listen_115
    )
  unfold f_X7_listen at hf
  refine lv_aload_n hx hb dX7_listen_0 rfl (lv_at hl 0 rfl) ?_
  refine lv_iconst (v := zI 0) hx hb dX7_listen_1 rfl ?_
  refine va_put (D := D) (ci := 6) (v := .int (zI 0)) (ty := .int) (C := RX7) (T := TX7) (N := 23) hx hb hts u_X7_listen_X7 tyX7 tyX7_ok nmX7 hown hK.1 hP hD hS 0 rfl rfl 0 (by decide) (hts _ m_X7_listen_1) (fun _ h9 => h9) rfl (tyX7_ok 0 (by decide)) rfl rfl (Nat.le_of_ble_eq_true rfl) dX7_listen_2 (fun H locs hP hD hS => ?_)
  have hP : va_P D vwCl [eO mO 6 [.int (zI 0), .ref mQtext, .int (zI mmany), .int (zI mcur), .int (zI mst), .int (zI mtok), .int (zI mval), .ref mQnow, .ref mQfresh, .ref mQwas, .int (zI macts), .ref mQisKept, .ref mQkept, .ref mQheard, .ref mQnumber, .ref mQlowUp, .ref mQlowDown, .ref mQhighUp, .ref mQhighDown, .int (zI mlev), .ref mQseen, .int (zI memp), .ref mQfirst], eA mQnow (cy 0) 11 mNow, eA mQfresh (cy 0) 11 mFresh, eA mQheard (cy 0) 11 mHeard, eA mQnumber (cy 0) 7 mNum, eA mQlowUp (cy 0) 7 mLU, eA mQlowDown (cy 0) 7 mLD, eA mQhighUp (cy 0) 7 mHU, eA mQhighDown (cy 0) 7 mHD] H := hP
  have hD : va_D A [eO mO 6 [.int (zI 0), .ref mQtext, .int (zI mmany), .int (zI mcur), .int (zI mst), .int (zI mtok), .int (zI mval), .ref mQnow, .ref mQfresh, .ref mQwas, .int (zI macts), .ref mQisKept, .ref mQkept, .ref mQheard, .ref mQnumber, .ref mQlowUp, .ref mQlowDown, .ref mQhighUp, .ref mQhighDown, .int (zI mlev), .ref mQseen, .int (zI memp), .ref mQfirst], eA mQnow (cy 0) 11 mNow, eA mQfresh (cy 0) 11 mFresh, eA mQheard (cy 0) 11 mHeard, eA mQnumber (cy 0) 7 mNum, eA mQlowUp (cy 0) 7 mLU, eA mQlowDown (cy 0) 7 mLD, eA mQhighUp (cy 0) 7 mHU, eA mQhighDown (cy 0) 7 mHD] := hD
  refine lv_aload_n hx hb dX7_listen_5 rfl (lv_at hl 0 rfl) ?_
  refine va_get (D := D) (ci := 6) (v := .ref mQnow) (C := RX7) (T := TX7) (N := 23) hx hb hts u_X7_listen_X7 hown hK.1 hP 0 rfl rfl 7 (by decide) (hts _ m_X7_listen_2) (fun _ h9 => h9) rfl dX7_listen_6 ?_
  refine lv_iconst (v := zI 0) hx hb dX7_listen_9 rfl ?_
  refine zz_iald (i := 0) hx hb hK hP 1 rfl (Nat.le_of_ble_eq_true rfl) (by decide) dX7_listen_10 ?_
  refine lv_bipush (v := zI 7) hx hb dX7_listen_11 (by decide) ?_
  refine zz_icmp_ne (tgt := 19) hx hb dX7_listen_13 (by decide) hf (fun hc hf => ?_) (fun hc hf => ?_)
  · refine lv_bipush (v := zI (-3)) hx hb dX7_listen_16 (by decide) ?_
    have hf := zq_some hf
    cases hf
    exact W.iret hx hb hr (fun t ht hW => ⟨⟨_, (), rfl, rfl, by rw [ht]; exact hP, hD⟩, hS.F ht⟩) hS.2.2 dX7_listen_18
  · refine lv_bipush (v := zI (-9)) hx hb dX7_listen_19 (by decide) ?_
    refine lv_istore_n (lv' := [(1, .int (zI (-9))), (0, .ref mO)]) hx hb dX7_listen_21 rfl hl (by decide) rfl (fun ls hl => ?_)
    refine lv_iconst (v := zI 0) hx hb dX7_listen_22 rfl ?_
    refine lv_istore_n (lv' := [(2, .int (zI 0)), (1, .int (zI (-9))), (0, .ref mO)]) hx hb dX7_listen_23 rfl hl (by decide) rfl (fun ls hl => ?_)
    refine lv_aload_n hx hb dX7_listen_24 rfl (lv_at hl 2 rfl) ?_
    refine va_get (D := D) (ci := 6) (v := .ref mQnow) (C := RX7) (T := TX7) (N := 23) hx hb hts u_X7_listen_X7 hown hK.1 hP 0 rfl rfl 7 (by decide) (hts _ m_X7_listen_2) (fun _ h9 => h9) rfl dX7_listen_25 ?_
    refine lv_iconst (v := zI 0) hx hb dX7_listen_28 rfl ?_
    refine zz_iald (i := 0) hx hb hK hP 1 rfl (Nat.le_of_ble_eq_true rfl) (by decide) dX7_listen_29 ?_
    refine zz_if_ne (tgt := 39) hx hb dX7_listen_30 (by decide) hf (fun hc hf => ?_) (fun hc hf => ?_)
    · refine lv_sipush (v := zI 2999) hx hb dX7_listen_33 (by decide) ?_
      refine lv_goto (tgt := 54) hx hb dX7_listen_36 (by decide) ?_
      refine lv_istore_n (lv' := [(3, .int (zI 2999)), (2, .int (zI 0)), (1, .int (zI (-9))), (0, .ref mO)]) hx hb dX7_listen_54 rfl hl (by decide) rfl (fun ls hl => ?_)
      refine lv_iload_n hx hb dX7_listen_55 rfl (lv_at hl 0 rfl) ?_
      refine lv_iconst (v := zI 1) hx hb dX7_listen_56 rfl ?_
      refine zz_iadd hx hb dX7_listen_57 ?_
      obtain ⟨v58, e58, hf⟩ := zq_lt hf
      refine zz_top e58 ?_
      refine lv_istore (lv' := [(4, .int (zI v58)), (3, .int (zI 2999)), (2, .int (zI 0)), (1, .int (zI (-9))), (0, .ref mO)]) hx hb dX7_listen_58 hl (by decide) rfl (fun ls hl => ?_)
      exact key _ (zq_eq hf) _ _ _ hP hD hS (lv_sub hl [4, 3, 2, 1, 0] rfl)
    · refine lv_aload_n hx hb dX7_listen_39 rfl (lv_at hl 2 rfl) ?_
      refine va_get (D := D) (ci := 6) (v := .ref mQnow) (C := RX7) (T := TX7) (N := 23) hx hb hts u_X7_listen_X7 hown hK.1 hP 0 rfl rfl 7 (by decide) (hts _ m_X7_listen_2) (fun _ h9 => h9) rfl dX7_listen_40 ?_
      refine lv_iconst (v := zI 4) hx hb dX7_listen_43 rfl ?_
      refine lv_aload_n hx hb dX7_listen_44 rfl (lv_at hl 2 rfl) ?_
      refine va_get (D := D) (ci := 6) (v := .ref mQnow) (C := RX7) (T := TX7) (N := 23) hx hb hts u_X7_listen_X7 hown hK.1 hP 0 rfl rfl 7 (by decide) (hts _ m_X7_listen_2) (fun _ h9 => h9) rfl dX7_listen_45 ?_
      refine lv_iconst (v := zI 0) hx hb dX7_listen_48 rfl ?_
      refine zz_iald (i := 0) hx hb hK hP 1 rfl (Nat.le_of_ble_eq_true rfl) (by decide) dX7_listen_49 ?_
      refine zz_iadd hx hb dX7_listen_50 ?_
      refine lv_iconst (v := zI 1) hx hb dX7_listen_51 rfl ?_
      refine zz_isub hx hb dX7_listen_52 ?_
      obtain ⟨hg, hf⟩ := zq_gd hf
      refine zz_iald (i := ((4 + (mNow 0)) - 1)) hx hb hK hP 1 rfl (Nat.le_of_ble_eq_true rfl) hg dX7_listen_53 ?_
      obtain ⟨v54, e54, hf⟩ := zq_lt hf
      refine zz_top e54 ?_
      refine lv_istore_n (lv' := [(3, .int (zI v54)), (2, .int (zI 0)), (1, .int (zI (-9))), (0, .ref mO)]) hx hb dX7_listen_54 rfl hl (by decide) rfl (fun ls hl => ?_)
      refine lv_iload_n hx hb dX7_listen_55 rfl (lv_at hl 0 rfl) ?_
      refine lv_iconst (v := zI 1) hx hb dX7_listen_56 rfl ?_
      refine zz_iadd hx hb dX7_listen_57 ?_
      obtain ⟨v58, e58, hf⟩ := zq_lt hf
      refine zz_top e58 ?_
      refine lv_istore (lv' := [(4, .int (zI v58)), (3, .int (zI v54)), (2, .int (zI 0)), (1, .int (zI (-9))), (0, .ref mO)]) hx hb dX7_listen_58 hl (by decide) rfl (fun ls hl => ?_)
      exact key _ (zq_eq hf) _ _ _ hP hD hS (lv_sub hl [4, 3, 2, 1, 0] rfl)

noncomputable def st_X7_odds (p1 : Int) (p2 : Int) (mNow : Nat → Int) : (Nat × Int × Int × Int × Int × Int × Int × Int × (Nat → Int) × (Nat → Int) × (Nat → Int) × (Nat → Int) × (Nat → Int) × (Nat → Int) × (Nat → Int)) → Option ((Nat × Int × Int × Int × Int × Int × Int × Int × (Nat → Int) × (Nat → Int) × (Nat → Int) × (Nat → Int) × (Nat → Int) × (Nat → Int) × (Nat → Int)) ⊕ (Int × Int × Int × (Nat → Int) × (Nat → Int) × (Nat → Int) × (Nat → Int) × (Nat → Int) × (Nat → Int) × (Nat → Int))) := fun v => match v with
  | (0, x3, x4, x5, x6, x7, mth, mlev, mFresh, mHeard, mNum, mLU, mLD, mHU, mHD) =>
  gd (zR x5 ∧ zR (zShl 1 (mNow 0))) <|
  if x5 < (zShl 1 (mNow 0)) then
    (f_X7_copyAll mNow mFresh).bind fun tR_61 =>
    zlt ((mNow 0) - 1) fun v72 =>
    some (.inl (1, x3, x4, x5, 1, v72, mth, mlev, tR_61, mHeard, mNum, mLU, mLD, mHU, mHD))
  else
    gd (zR p2) <|
    if p2 = 0 then
      (f_X7_least x3 x4 1).bind fun r186 =>
      some (.inr (r186, mth, mlev, mFresh, mHeard, mNum, mLU, mLD, mHU, mHD))
    else
      (f_X7_least x3 x4 0).bind fun r186 =>
      some (.inr (r186, mth, mlev, mFresh, mHeard, mNum, mLU, mLD, mHU, mHD))
  | (1, x3, x4, x5, x6, x7, mth, mlev, mFresh, mHeard, mNum, mLU, mLD, mHU, mHD) =>
  gd (zR x7) <|
  if x7 < 0 then
    zlt (x4 + x6) fun v140 =>
    gd (zR x6) <|
    if x6 ≤ 0 then
      zlt (x3 + 0) fun v167 =>
      some (.inl (0, v167, v140, (x5 + 1), 0, 0, mth, mlev, mFresh, mHeard, mNum, mLU, mLD, mHU, mHD))
    else
      (f_X7_standing_f mFresh mHeard mNum mLU mLD mHU mHD).bind fun (r153, mlev_153, mHeard_153, mNum_153, mLU_153, mLD_153, mHU_153, mHD_153) =>
      gd (zR r153 ∧ zR 1) <|
      if r153 = 1 then
        zlt (x3 + x6) fun v167 =>
        some (.inl (0, v167, v140, (x5 + 1), 0, 0, mth, mlev_153, mFresh, mHeard_153, mNum_153, mLU_153, mLD_153, mHU_153, mHD_153))
      else
        zlt (x3 + 0) fun v167 =>
        some (.inl (0, v167, v140, (x5 + 1), 0, 0, mth, mlev_153, mFresh, mHeard_153, mNum_153, mLU_153, mLD_153, mHU_153, mHD_153))
  else
    gd (zR (zAnd (zShr x5 x7) 1) ∧ zR 1) <|
    if (zAnd (zShr x5 x7) 1) = 1 then
      zlt (x6 * p1) fun v113 =>
      (f_X7_drop x7 mFresh).bind fun qR_126 =>
      some (.inl (1, x3, x4, x5, v113, (x7 + (-1)), mth, mlev, qR_126, mHeard, mNum, mLU, mLD, mHU, mHD))
    else
      zlt (x6 * (10 - p1)) fun v113 =>
      some (.inl (1, x3, x4, x5, v113, (x7 + (-1)), mth, mlev, mFresh, mHeard, mNum, mLU, mLD, mHU, mHD))
  | _ => none
noncomputable def f_X7_odds (p1 : Int) (p2 : Int) (mlev : Int) (mNow : Nat → Int) (mFresh : Nat → Int) (mHeard : Nat → Int) (mNum : Nat → Int) (mLU : Nat → Int) (mLD : Nat → Int) (mHU : Nat → Int) (mHD : Nat → Int) : Option (Int × Int × Int × (Nat → Int) × (Nat → Int) × (Nat → Int) × (Nat → Int) × (Nat → Int) × (Nat → Int) × (Nat → Int)) :=
  gd (zR p1) <|
  (f_X7_in p1 0 10).bind fun r11 =>
  gd (zR r11) <|
  if r11 = 0 then
    some ((-1), 0, mlev, mFresh, mHeard, mNum, mLU, mLD, mHU, mHD)
  else
    gd (zR p2) <|
    (f_X7_in p2 0 1).bind fun r21 =>
    gd (zR r21) <|
    if r21 = 0 then
      some ((-1), 0, mlev, mFresh, mHeard, mNum, mLU, mLD, mHU, mHD)
    else
      zev (st_X7_odds p1 p2 mNow) (0, 0, 0, 0, 0, 0, 0, mlev, mFresh, mHeard, mNum, mLU, mLD, mHU, mHD)
theorem m_X7_odds_1 : (.fieldLink RX7 1 "PulseTurnsModel" "thrown" "I" : Cond) ∈ wsX7_odds := List.mem_of_getElem? (i := 1) rfl
theorem m_X7_odds_2 : (.constantLong RX7 131 (10) : Cond) ∈ wsX7_odds := List.mem_of_getElem? (i := 2) rfl
theorem m_X7_odds_3 : (.fieldLink RX7 46 "PulseTurnsModel" "now" "[I" : Cond) ∈ wsX7_odds := List.mem_of_getElem? (i := 3) rfl
theorem m_X7_odds_4 : (.fieldLink RX7 49 "PulseTurnsModel" "fresh" "[I" : Cond) ∈ wsX7_odds := List.mem_of_getElem? (i := 4) rfl
theorem u_X7_odds_X7 : ∀ w ∈ wsX70, w ∈ wsX7_odds := fun w h => List.mem_cons_of_mem _ (List.mem_append_right _ h)
set_option maxRecDepth 100000 in
set_option maxHeartbeats 4000000 in
theorem c_X7_odds (l : Launch) (D : va_G) (cy : Nat → ClassId) (mO mQtext mQnow mQfresh mQwas mQisKept mQkept mQheard mQnumber mQlowUp mQlowDown mQhighUp mQhighDown mQseen mQfirst : Nat) (sz : Nat) (p1 : Int) (p2 : Int) (mth : Int) (mmany : Int) (mcur : Int) (mst : Int) (mtok : Int) (mval : Int) (macts : Int) (mlev : Int) (memp : Int) (mNow : Nat → Int) (mFresh : Nat → Int) (mHeard : Nat → Int) (mNum : Nat → Int) (mLU : Nat → Int) (mLD : Nat → Int) (mHU : Nat → Int) (mHD : Nat → Int) {r : Int} {mth' : Int} {mlev' : Int} {mFresh' : Nat → Int} {mHeard' : Nat → Int} {mNum' : Nat → Int} {mLU' : Nat → Int} {mLD' : Nat → Int} {mHU' : Nat → Int} {mHD' : Nat → Int} (hf : f_X7_odds p1 p2 mlev mNow mFresh mHeard mNum mLU mLD mHU mHD = some (r, mth', mlev', mFresh', mHeard', mNum', mLU', mLD', mHU', mHD')) : zMi l yX7_odds wsX7_odds ({ frames := 4, cells := 0, slots := 0, locals := 92 }) D cy sz [.ref mO, .int (zI p1), .int (zI p2)] [eO mO 6 [.int (zI mth), .ref mQtext, .int (zI mmany), .int (zI mcur), .int (zI mst), .int (zI mtok), .int (zI mval), .ref mQnow, .ref mQfresh, .ref mQwas, .int (zI macts), .ref mQisKept, .ref mQkept, .ref mQheard, .ref mQnumber, .ref mQlowUp, .ref mQlowDown, .ref mQhighUp, .ref mQhighDown, .int (zI mlev), .ref mQseen, .int (zI memp), .ref mQfirst], eA mQnow (cy 0) 11 mNow, eA mQfresh (cy 0) 11 mFresh, eA mQheard (cy 0) 11 mHeard, eA mQnumber (cy 0) 7 mNum, eA mQlowUp (cy 0) 7 mLU, eA mQlowDown (cy 0) 7 mLD, eA mQhighUp (cy 0) 7 mHU, eA mQhighDown (cy 0) 7 mHD] [eO mO 6 [.int (zI mth'), .ref mQtext, .int (zI mmany), .int (zI mcur), .int (zI mst), .int (zI mtok), .int (zI mval), .ref mQnow, .ref mQfresh, .ref mQwas, .int (zI macts), .ref mQisKept, .ref mQkept, .ref mQheard, .ref mQnumber, .ref mQlowUp, .ref mQlowDown, .ref mQhighUp, .ref mQhighDown, .int (zI mlev'), .ref mQseen, .int (zI memp), .ref mQfirst], eA mQnow (cy 0) 11 mNow, eA mQfresh (cy 0) 11 mFresh', eA mQheard (cy 0) 11 mHeard', eA mQnumber (cy 0) 7 mNum', eA mQlowUp (cy 0) 7 mLU', eA mQlowDown (cy 0) 7 mLD', eA mQhighUp (cy 0) 7 mHU', eA mQhighDown (cy 0) 7 mHD'] (zI r) := by
  refine Met.ofW (cc := cX7_odds) (maxL := 9) (ret := (some .int)) (by decide) rfl ?_
  intro p e s m args below meth c s₁ B hml hv
  obtain ⟨rfl, hsz, hP, hK, hD0⟩ := hv
  have hx := B.exec
  have hb := B.bytes
  have hr := B.returns
  have hts := atoms_spec (ws := wsX7_odds) B.pre
  have hown : s.vm.findClass RX7 = some m.cls := findClass_of_methodNamed B.named
  have hlocks := B.notSynchronized
  subst hsz
  have hD := hD0.self (sz := s.heap.size)
  generalize hAe : va_A [eO mO 6 [.int (zI mth), .ref mQtext, .int (zI mmany), .int (zI mcur), .int (zI mst), .int (zI mtok), .int (zI mval), .ref mQnow, .ref mQfresh, .ref mQwas, .int (zI macts), .ref mQisKept, .ref mQkept, .ref mQheard, .ref mQnumber, .ref mQlowUp, .ref mQlowDown, .ref mQhighUp, .ref mQhighDown, .int (zI mlev), .ref mQseen, .int (zI memp), .ref mQfirst], eA mQnow (cy 0) 11 mNow, eA mQfresh (cy 0) 11 mFresh, eA mQheard (cy 0) 11 mHeard, eA mQnumber (cy 0) 7 mNum, eA mQlowUp (cy 0) 7 mLU, eA mQlowDown (cy 0) 7 mLD, eA mQhighUp (cy 0) 7 mHU, eA mQhighDown (cy 0) 7 mHD] s.heap.size = A at hD ⊢
  have hA : ∀ q : Nat, s.heap.size ≤ q → A q := fun q h => by rw [← hAe]; exact Or.inr h
  have hS : va_S A s.heap s.heap [] := va_S.rf
  have hl := lv_entry ([.ref mO, .int (zI p1), .int (zI p2)]) (n := 9) (Nat.le_of_ble_eq_true rfl)
  rw [lg_entry_eq]
  generalize (lg_sl ([.ref mO, .int (zI p1), .int (zI p2)]) ++ List.replicate (9 - (lg_sl ([.ref mO, .int (zI p1), .int (zI p2)])).length) Slot.unset).toArray = ls at hl ⊢
  have hl : lv_has ls 9 [(0, .ref mO), (1, .int (zI p1)), (2, .int (zI p2))] := hl
  have hf := zq_of hf
  have key := zloop (st := st_X7_odds p1 p2 mNow) (res := (r, mth', mlev', mFresh', mHeard', mNum', mLU', mLD', mHU', mHD')) (K := fun v => match v with
    | (0, x3, x4, x5, x6, x7, mth, mlev, mFresh, mHeard, mNum, mLU, mLD, mHU, mHD) => ∀ (H : Heap) (locs : List Loc) (ls : Array Slot), va_P D vwCl [eO mO 6 [.int (zI mth), .ref mQtext, .int (zI mmany), .int (zI mcur), .int (zI mst), .int (zI mtok), .int (zI mval), .ref mQnow, .ref mQfresh, .ref mQwas, .int (zI macts), .ref mQisKept, .ref mQkept, .ref mQheard, .ref mQnumber, .ref mQlowUp, .ref mQlowDown, .ref mQhighUp, .ref mQhighDown, .int (zI mlev), .ref mQseen, .int (zI memp), .ref mQfirst], eA mQnow (cy 0) 11 mNow, eA mQfresh (cy 0) 11 mFresh, eA mQheard (cy 0) 11 mHeard, eA mQnumber (cy 0) 7 mNum, eA mQlowUp (cy 0) 7 mLU, eA mQlowDown (cy 0) 7 mLD, eA mQhighUp (cy 0) 7 mHU, eA mQhighDown (cy 0) 7 mHD] H → va_D A [eO mO 6 [.int (zI mth), .ref mQtext, .int (zI mmany), .int (zI mcur), .int (zI mst), .int (zI mtok), .int (zI mval), .ref mQnow, .ref mQfresh, .ref mQwas, .int (zI macts), .ref mQisKept, .ref mQkept, .ref mQheard, .ref mQnumber, .ref mQlowUp, .ref mQlowDown, .ref mQhighUp, .ref mQhighDown, .int (zI mlev), .ref mQseen, .int (zI memp), .ref mQfirst], eA mQnow (cy 0) 11 mNow, eA mQfresh (cy 0) 11 mFresh, eA mQheard (cy 0) 11 mHeard, eA mQnumber (cy 0) 7 mNum, eA mQlowUp (cy 0) 7 mLU, eA mQlowDown (cy 0) 7 mLD, eA mQhighUp (cy 0) 7 mHU, eA mQhighDown (cy 0) 7 mHD] → va_S A s.heap H locs → lv_has ls 9 [(0, .ref mO), (1, .int (zI p1)), (2, .int (zI p2)), (3, .int (zI x3)), (4, .int (zI x4)), (5, .int (zI x5))] → zGi p l e wsX7_odds ({ frames := 4, cells := 0, slots := 0, locals := 92 }) s m [.ref mO, .int (zI p1), .int (zI p2)] below meth c A D [eO mO 6 [.int (zI mth'), .ref mQtext, .int (zI mmany), .int (zI mcur), .int (zI mst), .int (zI mtok), .int (zI mval), .ref mQnow, .ref mQfresh, .ref mQwas, .int (zI macts), .ref mQisKept, .ref mQkept, .ref mQheard, .ref mQnumber, .ref mQlowUp, .ref mQlowDown, .ref mQhighUp, .ref mQhighDown, .int (zI mlev'), .ref mQseen, .int (zI memp), .ref mQfirst], eA mQnow (cy 0) 11 mNow, eA mQfresh (cy 0) 11 mFresh', eA mQheard (cy 0) 11 mHeard', eA mQnumber (cy 0) 7 mNum', eA mQlowUp (cy 0) 7 mLU', eA mQlowDown (cy 0) 7 mLD', eA mQhighUp (cy 0) 7 mHU', eA mQhighDown (cy 0) 7 mHD'] (zI r) H locs (F0 m 37 ls [])
    | (1, x3, x4, x5, x6, x7, mth, mlev, mFresh, mHeard, mNum, mLU, mLD, mHU, mHD) => ∀ (H : Heap) (locs : List Loc) (ls : Array Slot), va_P D vwCl [eO mO 6 [.int (zI mth), .ref mQtext, .int (zI mmany), .int (zI mcur), .int (zI mst), .int (zI mtok), .int (zI mval), .ref mQnow, .ref mQfresh, .ref mQwas, .int (zI macts), .ref mQisKept, .ref mQkept, .ref mQheard, .ref mQnumber, .ref mQlowUp, .ref mQlowDown, .ref mQhighUp, .ref mQhighDown, .int (zI mlev), .ref mQseen, .int (zI memp), .ref mQfirst], eA mQnow (cy 0) 11 mNow, eA mQfresh (cy 0) 11 mFresh, eA mQheard (cy 0) 11 mHeard, eA mQnumber (cy 0) 7 mNum, eA mQlowUp (cy 0) 7 mLU, eA mQlowDown (cy 0) 7 mLD, eA mQhighUp (cy 0) 7 mHU, eA mQhighDown (cy 0) 7 mHD] H → va_D A [eO mO 6 [.int (zI mth), .ref mQtext, .int (zI mmany), .int (zI mcur), .int (zI mst), .int (zI mtok), .int (zI mval), .ref mQnow, .ref mQfresh, .ref mQwas, .int (zI macts), .ref mQisKept, .ref mQkept, .ref mQheard, .ref mQnumber, .ref mQlowUp, .ref mQlowDown, .ref mQhighUp, .ref mQhighDown, .int (zI mlev), .ref mQseen, .int (zI memp), .ref mQfirst], eA mQnow (cy 0) 11 mNow, eA mQfresh (cy 0) 11 mFresh, eA mQheard (cy 0) 11 mHeard, eA mQnumber (cy 0) 7 mNum, eA mQlowUp (cy 0) 7 mLU, eA mQlowDown (cy 0) 7 mLD, eA mQhighUp (cy 0) 7 mHU, eA mQhighDown (cy 0) 7 mHD] → va_S A s.heap H locs → lv_has ls 9 [(0, .ref mO), (1, .int (zI p1)), (2, .int (zI p2)), (3, .int (zI x3)), (4, .int (zI x4)), (5, .int (zI x5)), (6, .int (zI x6)), (7, .int (zI x7))] → zGi p l e wsX7_odds ({ frames := 4, cells := 0, slots := 0, locals := 92 }) s m [.ref mO, .int (zI p1), .int (zI p2)] below meth c A D [eO mO 6 [.int (zI mth'), .ref mQtext, .int (zI mmany), .int (zI mcur), .int (zI mst), .int (zI mtok), .int (zI mval), .ref mQnow, .ref mQfresh, .ref mQwas, .int (zI macts), .ref mQisKept, .ref mQkept, .ref mQheard, .ref mQnumber, .ref mQlowUp, .ref mQlowDown, .ref mQhighUp, .ref mQhighDown, .int (zI mlev'), .ref mQseen, .int (zI memp), .ref mQfirst], eA mQnow (cy 0) 11 mNow, eA mQfresh (cy 0) 11 mFresh', eA mQheard (cy 0) 11 mHeard', eA mQnumber (cy 0) 7 mNum', eA mQlowUp (cy 0) 7 mLU', eA mQlowDown (cy 0) 7 mLD', eA mQhighUp (cy 0) 7 mHU', eA mQhighDown (cy 0) 7 mHD'] (zI r) H locs (F0 m 74 ls [])
    | _ => True) (by
    rintro ⟨k, x3, x4, x5, x6, x7, mth, mlev, mFresh, mHeard, mNum, mLU, mLD, mHU, mHD⟩ hf
    match k, hf with
    | 0, hf =>
      intro H locs ls hP hD hS hl
      unfold st_X7_odds at hf
      try dsimp only at hf
      refine lv_iload hx hb dX7_odds_37 (lv_at hl 5 rfl) ?_
      refine lv_iconst (v := zI 1) hx hb dX7_odds_39 rfl ?_
      refine lv_aload_n hx hb dX7_odds_40 rfl (lv_at hl 0 rfl) ?_
      refine va_get (D := D) (ci := 6) (v := .ref mQnow) (C := RX7) (T := TX7) (N := 23) hx hb hts u_X7_odds_X7 hown hK.1 hP 0 rfl rfl 7 (by decide) (hts _ m_X7_odds_3) (fun _ h9 => h9) rfl dX7_odds_41 ?_
      refine lv_iconst (v := zI 0) hx hb dX7_odds_44 rfl ?_
      refine zz_iald (i := 0) hx hb hK hP 1 rfl (Nat.le_of_ble_eq_true rfl) (by decide) dX7_odds_45 ?_
      refine zz_ishl hx hb dX7_odds_46 ?_
      refine zz_icmp_ge (tgt := 174) hx hb dX7_odds_47 (by decide) hf (fun hc hf => ?_) (fun hc hf => ?_)
      · refine lv_iconst (v := zI 1) hx hb dX7_odds_50 rfl ?_
        refine lv_istore (lv' := [(6, .int (zI 1)), (0, .ref mO), (1, .int (zI p1)), (2, .int (zI p2)), (3, .int (zI x3)), (4, .int (zI x4)), (5, .int (zI x5))]) hx hb dX7_odds_51 hl (by decide) rfl (fun ls hl => ?_)
        refine lv_aload_n hx hb dX7_odds_53 rfl (lv_at hl 1 rfl) ?_
        refine va_get (D := D) (ci := 6) (v := .ref mQnow) (C := RX7) (T := TX7) (N := 23) hx hb hts u_X7_odds_X7 hown hK.1 hP 0 rfl rfl 7 (by decide) (hts _ m_X7_odds_3) (fun _ h9 => h9) rfl dX7_odds_54 ?_
        refine lv_aload_n hx hb dX7_odds_57 rfl (lv_at hl 1 rfl) ?_
        refine va_get (D := D) (ci := 6) (v := .ref mQfresh) (C := RX7) (T := TX7) (N := 23) hx hb hts u_X7_odds_X7 hown hK.1 hP 0 rfl rfl 8 (by decide) (hts _ m_X7_odds_4) (fun _ h9 => h9) rfl dX7_odds_58 ?_
        obtain ⟨tR_61, hc61, hf⟩ := zq_bind hf
        refine zcallSv (wr := [eO mO 6 [.int (zI mth), .ref mQtext, .int (zI mmany), .int (zI mcur), .int (zI mst), .int (zI mtok), .int (zI mval), .ref mQnow, .ref mQfresh, .ref mQwas, .int (zI macts), .ref mQisKept, .ref mQkept, .ref mQheard, .ref mQnumber, .ref mQlowUp, .ref mQlowDown, .ref mQhighUp, .ref mQhighDown, .int (zI mlev), .ref mQseen, .int (zI memp), .ref mQfirst], eA mQheard (cy 0) 11 mHeard, eA mQnumber (cy 0) 7 mNum, eA mQlowUp (cy 0) 7 mLU, eA mQlowDown (cy 0) 7 mLD, eA mQhighUp (cy 0) 7 mHU, eA mQhighDown (cy 0) 7 mHD]) (rest := []) ⟨hx, hb, hml, hown, hts⟩ (c_X7_copyAll l D cy mQnow mQfresh H.size mNow mFresh hc61) (va_cwS 2 hts gX7_odds_X7_copyAll rfl rfl rfl (by decide +kernel) ⟨Nat.le_of_ble_eq_true rfl, Nat.le_of_ble_eq_true rfl⟩) hK hP hD hS hA [1, 2] [0, 3, 4, 5, 6, 7, 8] rfl rfl rfl rfl (by decide) rfl hl.1 rfl (Nat.le_of_ble_eq_true rfl) dX7_odds_61 ⟨Nat.zero_le _, Nat.zero_le _⟩ (fun H locs hP hD hS => ?_)
        have hP : va_P D vwCl [eO mO 6 [.int (zI mth), .ref mQtext, .int (zI mmany), .int (zI mcur), .int (zI mst), .int (zI mtok), .int (zI mval), .ref mQnow, .ref mQfresh, .ref mQwas, .int (zI macts), .ref mQisKept, .ref mQkept, .ref mQheard, .ref mQnumber, .ref mQlowUp, .ref mQlowDown, .ref mQhighUp, .ref mQhighDown, .int (zI mlev), .ref mQseen, .int (zI memp), .ref mQfirst], eA mQnow (cy 0) 11 mNow, eA mQfresh (cy 0) 11 tR_61, eA mQheard (cy 0) 11 mHeard, eA mQnumber (cy 0) 7 mNum, eA mQlowUp (cy 0) 7 mLU, eA mQlowDown (cy 0) 7 mLD, eA mQhighUp (cy 0) 7 mHU, eA mQhighDown (cy 0) 7 mHD] H := hP.sub [0, 7, 8, 1, 2, 3, 4, 5, 6] rfl
        have hD : va_D A [eO mO 6 [.int (zI mth), .ref mQtext, .int (zI mmany), .int (zI mcur), .int (zI mst), .int (zI mtok), .int (zI mval), .ref mQnow, .ref mQfresh, .ref mQwas, .int (zI macts), .ref mQisKept, .ref mQkept, .ref mQheard, .ref mQnumber, .ref mQlowUp, .ref mQlowDown, .ref mQhighUp, .ref mQhighDown, .int (zI mlev), .ref mQseen, .int (zI memp), .ref mQfirst], eA mQnow (cy 0) 11 mNow, eA mQfresh (cy 0) 11 tR_61, eA mQheard (cy 0) 11 mHeard, eA mQnumber (cy 0) 7 mNum, eA mQlowUp (cy 0) 7 mLU, eA mQlowDown (cy 0) 7 mLD, eA mQhighUp (cy 0) 7 mHU, eA mQhighDown (cy 0) 7 mHD] := hD.sub [0, 7, 8, 1, 2, 3, 4, 5, 6] rfl rfl
        refine lv_aload_n hx hb dX7_odds_64 rfl (lv_at hl 1 rfl) ?_
        refine va_get (D := D) (ci := 6) (v := .ref mQnow) (C := RX7) (T := TX7) (N := 23) hx hb hts u_X7_odds_X7 hown hK.1 hP 0 rfl rfl 7 (by decide) (hts _ m_X7_odds_3) (fun _ h9 => h9) rfl dX7_odds_65 ?_
        refine lv_iconst (v := zI 0) hx hb dX7_odds_68 rfl ?_
        refine zz_iald (i := 0) hx hb hK hP 1 rfl (Nat.le_of_ble_eq_true rfl) (by decide) dX7_odds_69 ?_
        refine lv_iconst (v := zI 1) hx hb dX7_odds_70 rfl ?_
        refine zz_isub hx hb dX7_odds_71 ?_
        obtain ⟨v72, e72, hf⟩ := zq_lt hf
        refine zz_top e72 ?_
        refine lv_istore (lv' := [(7, .int (zI v72)), (6, .int (zI 1)), (0, .ref mO), (1, .int (zI p1)), (2, .int (zI p2)), (3, .int (zI x3)), (4, .int (zI x4)), (5, .int (zI x5))]) hx hb dX7_odds_72 hl (by decide) rfl (fun ls hl => ?_)
        have hf := zq_some hf
        exact hf _ _ _ hP hD hS (lv_sub hl [2, 3, 4, 5, 6, 7, 1, 0] rfl)
      · refine lv_iload_n hx hb dX7_odds_174 rfl (lv_at hl 3 rfl) ?_
        refine lv_iload hx hb dX7_odds_175 (lv_at hl 4 rfl) ?_
        refine lv_iload_n hx hb dX7_odds_177 rfl (lv_at hl 2 rfl) ?_
        refine zz_if_ne (tgt := 185) hx hb dX7_odds_178 (by decide) hf (fun hc hf => ?_) (fun hc hf => ?_)
        · refine lv_iconst (v := zI 1) hx hb dX7_odds_181 rfl ?_
          refine lv_goto (tgt := 186) hx hb dX7_odds_182 (by decide) ?_
          obtain ⟨r186, hc186, hf⟩ := zq_bind hf
          refine zcallSi (wr := [eO mO 6 [.int (zI mth), .ref mQtext, .int (zI mmany), .int (zI mcur), .int (zI mst), .int (zI mtok), .int (zI mval), .ref mQnow, .ref mQfresh, .ref mQwas, .int (zI macts), .ref mQisKept, .ref mQkept, .ref mQheard, .ref mQnumber, .ref mQlowUp, .ref mQlowDown, .ref mQhighUp, .ref mQhighDown, .int (zI mlev), .ref mQseen, .int (zI memp), .ref mQfirst], eA mQnow (cy 0) 11 mNow, eA mQfresh (cy 0) 11 mFresh, eA mQheard (cy 0) 11 mHeard, eA mQnumber (cy 0) 7 mNum, eA mQlowUp (cy 0) 7 mLU, eA mQlowDown (cy 0) 7 mLD, eA mQhighUp (cy 0) 7 mHU, eA mQhighDown (cy 0) 7 mHD]) (rest := []) ⟨hx, hb, hml, hown, hts⟩ (c_X7_least l D cy H.size x3 x4 1 hc186) (va_cwS 3 hts gX7_odds_X7_least rfl rfl rfl (by decide +kernel) ⟨Nat.le_of_ble_eq_true rfl, Nat.le_of_ble_eq_true rfl⟩) hK hP hD hS hA [] [0, 1, 2, 3, 4, 5, 6, 7, 8] rfl rfl rfl rfl (by decide) rfl hl.1 rfl (Nat.le_of_ble_eq_true rfl) dX7_odds_186 ⟨Nat.zero_le _, Nat.zero_le _⟩ (fun H locs hP hD hS => ?_)
          have hP : va_P D vwCl [eO mO 6 [.int (zI mth), .ref mQtext, .int (zI mmany), .int (zI mcur), .int (zI mst), .int (zI mtok), .int (zI mval), .ref mQnow, .ref mQfresh, .ref mQwas, .int (zI macts), .ref mQisKept, .ref mQkept, .ref mQheard, .ref mQnumber, .ref mQlowUp, .ref mQlowDown, .ref mQhighUp, .ref mQhighDown, .int (zI mlev), .ref mQseen, .int (zI memp), .ref mQfirst], eA mQnow (cy 0) 11 mNow, eA mQfresh (cy 0) 11 mFresh, eA mQheard (cy 0) 11 mHeard, eA mQnumber (cy 0) 7 mNum, eA mQlowUp (cy 0) 7 mLU, eA mQlowDown (cy 0) 7 mLD, eA mQhighUp (cy 0) 7 mHU, eA mQhighDown (cy 0) 7 mHD] H := hP.sub [0, 1, 2, 3, 4, 5, 6, 7, 8] rfl
          have hD : va_D A [eO mO 6 [.int (zI mth), .ref mQtext, .int (zI mmany), .int (zI mcur), .int (zI mst), .int (zI mtok), .int (zI mval), .ref mQnow, .ref mQfresh, .ref mQwas, .int (zI macts), .ref mQisKept, .ref mQkept, .ref mQheard, .ref mQnumber, .ref mQlowUp, .ref mQlowDown, .ref mQhighUp, .ref mQhighDown, .int (zI mlev), .ref mQseen, .int (zI memp), .ref mQfirst], eA mQnow (cy 0) 11 mNow, eA mQfresh (cy 0) 11 mFresh, eA mQheard (cy 0) 11 mHeard, eA mQnumber (cy 0) 7 mNum, eA mQlowUp (cy 0) 7 mLU, eA mQlowDown (cy 0) 7 mLD, eA mQhighUp (cy 0) 7 mHU, eA mQhighDown (cy 0) 7 mHD] := hD.sub [0, 1, 2, 3, 4, 5, 6, 7, 8] rfl rfl
          have hf := zq_some hf
          cases hf
          exact W.iret hx hb hr (fun t ht hW => ⟨⟨_, (), rfl, rfl, by rw [ht]; exact hP, hD⟩, hS.F ht⟩) hS.2.2 dX7_odds_189
        · refine lv_iconst (v := zI 0) hx hb dX7_odds_185 rfl ?_
          obtain ⟨r186, hc186, hf⟩ := zq_bind hf
          refine zcallSi (wr := [eO mO 6 [.int (zI mth), .ref mQtext, .int (zI mmany), .int (zI mcur), .int (zI mst), .int (zI mtok), .int (zI mval), .ref mQnow, .ref mQfresh, .ref mQwas, .int (zI macts), .ref mQisKept, .ref mQkept, .ref mQheard, .ref mQnumber, .ref mQlowUp, .ref mQlowDown, .ref mQhighUp, .ref mQhighDown, .int (zI mlev), .ref mQseen, .int (zI memp), .ref mQfirst], eA mQnow (cy 0) 11 mNow, eA mQfresh (cy 0) 11 mFresh, eA mQheard (cy 0) 11 mHeard, eA mQnumber (cy 0) 7 mNum, eA mQlowUp (cy 0) 7 mLU, eA mQlowDown (cy 0) 7 mLD, eA mQhighUp (cy 0) 7 mHU, eA mQhighDown (cy 0) 7 mHD]) (rest := []) ⟨hx, hb, hml, hown, hts⟩ (c_X7_least l D cy H.size x3 x4 0 hc186) (va_cwS 3 hts gX7_odds_X7_least rfl rfl rfl (by decide +kernel) ⟨Nat.le_of_ble_eq_true rfl, Nat.le_of_ble_eq_true rfl⟩) hK hP hD hS hA [] [0, 1, 2, 3, 4, 5, 6, 7, 8] rfl rfl rfl rfl (by decide) rfl hl.1 rfl (Nat.le_of_ble_eq_true rfl) dX7_odds_186 ⟨Nat.zero_le _, Nat.zero_le _⟩ (fun H locs hP hD hS => ?_)
          have hP : va_P D vwCl [eO mO 6 [.int (zI mth), .ref mQtext, .int (zI mmany), .int (zI mcur), .int (zI mst), .int (zI mtok), .int (zI mval), .ref mQnow, .ref mQfresh, .ref mQwas, .int (zI macts), .ref mQisKept, .ref mQkept, .ref mQheard, .ref mQnumber, .ref mQlowUp, .ref mQlowDown, .ref mQhighUp, .ref mQhighDown, .int (zI mlev), .ref mQseen, .int (zI memp), .ref mQfirst], eA mQnow (cy 0) 11 mNow, eA mQfresh (cy 0) 11 mFresh, eA mQheard (cy 0) 11 mHeard, eA mQnumber (cy 0) 7 mNum, eA mQlowUp (cy 0) 7 mLU, eA mQlowDown (cy 0) 7 mLD, eA mQhighUp (cy 0) 7 mHU, eA mQhighDown (cy 0) 7 mHD] H := hP.sub [0, 1, 2, 3, 4, 5, 6, 7, 8] rfl
          have hD : va_D A [eO mO 6 [.int (zI mth), .ref mQtext, .int (zI mmany), .int (zI mcur), .int (zI mst), .int (zI mtok), .int (zI mval), .ref mQnow, .ref mQfresh, .ref mQwas, .int (zI macts), .ref mQisKept, .ref mQkept, .ref mQheard, .ref mQnumber, .ref mQlowUp, .ref mQlowDown, .ref mQhighUp, .ref mQhighDown, .int (zI mlev), .ref mQseen, .int (zI memp), .ref mQfirst], eA mQnow (cy 0) 11 mNow, eA mQfresh (cy 0) 11 mFresh, eA mQheard (cy 0) 11 mHeard, eA mQnumber (cy 0) 7 mNum, eA mQlowUp (cy 0) 7 mLU, eA mQlowDown (cy 0) 7 mLD, eA mQhighUp (cy 0) 7 mHU, eA mQhighDown (cy 0) 7 mHD] := hD.sub [0, 1, 2, 3, 4, 5, 6, 7, 8] rfl rfl
          have hf := zq_some hf
          cases hf
          exact W.iret hx hb hr (fun t ht hW => ⟨⟨_, (), rfl, rfl, by rw [ht]; exact hP, hD⟩, hS.F ht⟩) hS.2.2 dX7_odds_189
    | 1, hf =>
      intro H locs ls hP hD hS hl
      unfold st_X7_odds at hf
      try dsimp only at hf
      refine lv_iload hx hb dX7_odds_74 (lv_at hl 7 rfl) ?_
      refine zz_if_lt (tgt := 135) hx hb dX7_odds_76 (by decide) hf (fun hc hf => ?_) (fun hc hf => ?_)
      · refine lv_iload hx hb dX7_odds_135 (lv_at hl 4 rfl) ?_
        refine lv_iload hx hb dX7_odds_137 (lv_at hl 6 rfl) ?_
        refine zz_iadd hx hb dX7_odds_139 ?_
        obtain ⟨v140, e140, hf⟩ := zq_lt hf
        refine zz_top e140 ?_
        refine lv_istore (lv' := [(4, .int (zI v140)), (0, .ref mO), (1, .int (zI p1)), (2, .int (zI p2)), (3, .int (zI x3)), (5, .int (zI x5)), (6, .int (zI x6)), (7, .int (zI x7))]) hx hb dX7_odds_140 hl (by decide) rfl (fun ls hl => ?_)
        refine lv_iload_n hx hb dX7_odds_142 rfl (lv_at hl 4 rfl) ?_
        refine lv_iload hx hb dX7_odds_143 (lv_at hl 6 rfl) ?_
        refine zz_if_le (tgt := 165) hx hb dX7_odds_145 (by decide) hf (fun hc hf => ?_) (fun hc hf => ?_)
        · refine lv_iconst (v := zI 0) hx hb dX7_odds_165 rfl ?_
          refine zz_iadd hx hb dX7_odds_166 ?_
          obtain ⟨v167, e167, hf⟩ := zq_lt hf
          refine zz_top e167 ?_
          refine lv_istore_n (lv' := [(3, .int (zI v167)), (4, .int (zI v140)), (0, .ref mO), (1, .int (zI p1)), (2, .int (zI p2)), (5, .int (zI x5)), (6, .int (zI x6)), (7, .int (zI x7))]) hx hb dX7_odds_167 rfl hl (by decide) rfl (fun ls hl => ?_)
          refine lv_iinc (v := zI (x5 + 1)) (lv' := [(5, .int (zI (x5 + 1))), (3, .int (zI v167)), (4, .int (zI v140)), (0, .ref mO), (1, .int (zI p1)), (2, .int (zI p2)), (6, .int (zI x6)), (7, .int (zI x7))]) hx hb dX7_odds_168 hl (k := 5) rfl (zI_add _ _) (by decide) rfl (fun ls hl => ?_)
          refine lv_goto (tgt := 37) hx hb dX7_odds_171 (by decide) ?_
          have hf := zq_some hf
          exact hf _ _ _ hP hD hS (lv_sub hl [3, 4, 5, 1, 2, 0] rfl)
        · refine lv_aload_n hx hb dX7_odds_148 rfl (lv_at hl 1 rfl) ?_
          refine lv_aload_n hx hb dX7_odds_149 rfl (lv_at hl 1 rfl) ?_
          refine va_get (D := D) (ci := 6) (v := .ref mQfresh) (C := RX7) (T := TX7) (N := 23) hx hb hts u_X7_odds_X7 hown hK.1 hP 0 rfl rfl 8 (by decide) (hts _ m_X7_odds_4) (fun _ h9 => h9) rfl dX7_odds_150 ?_
          obtain ⟨⟨r153, mlev_153, mHeard_153, mNum_153, mLU_153, mLD_153, mHU_153, mHD_153⟩, hc153, hf⟩ := zq_bind hf
          refine zcallVi (wr := [eA mQnow (cy 0) 11 mNow]) (rest := [.int (zI x3)]) ⟨hx, hb, hml, hown, hts⟩ (c_X7_standing_f l D cy mO mQtext mQnow mQfresh mQwas mQisKept mQkept mQheard mQnumber mQlowUp mQlowDown mQhighUp mQhighDown mQseen mQfirst H.size mth mmany mcur mst mtok mval macts mlev memp mFresh mHeard mNum mLU mLD mHU mHD hc153) (cwV 1 hts gX7_odds_X7_standing rfl rfl rfl (by decide +kernel) ⟨Nat.le_of_ble_eq_true rfl, Nat.le_of_ble_eq_true rfl⟩) hK hP hD hS hA [0, 2, 3, 4, 5, 6, 7, 8] [1] rfl rfl rfl rfl (by decide) (va_recv hK.1 hP (ci := 6) (q0 := 0) rfl rfl) rfl hl.1 rfl (Nat.le_of_ble_eq_true rfl) dX7_odds_153 ⟨Nat.zero_le _, Nat.zero_le _⟩ (fun H locs hP hD hS => ?_)
          have hP : va_P D vwCl [eO mO 6 [.int (zI mth), .ref mQtext, .int (zI mmany), .int (zI mcur), .int (zI mst), .int (zI mtok), .int (zI mval), .ref mQnow, .ref mQfresh, .ref mQwas, .int (zI macts), .ref mQisKept, .ref mQkept, .ref mQheard, .ref mQnumber, .ref mQlowUp, .ref mQlowDown, .ref mQhighUp, .ref mQhighDown, .int (zI mlev_153), .ref mQseen, .int (zI memp), .ref mQfirst], eA mQnow (cy 0) 11 mNow, eA mQfresh (cy 0) 11 mFresh, eA mQheard (cy 0) 11 mHeard_153, eA mQnumber (cy 0) 7 mNum_153, eA mQlowUp (cy 0) 7 mLU_153, eA mQlowDown (cy 0) 7 mLD_153, eA mQhighUp (cy 0) 7 mHU_153, eA mQhighDown (cy 0) 7 mHD_153] H := hP.sub [1, 0, 2, 3, 4, 5, 6, 7, 8] rfl
          have hD : va_D A [eO mO 6 [.int (zI mth), .ref mQtext, .int (zI mmany), .int (zI mcur), .int (zI mst), .int (zI mtok), .int (zI mval), .ref mQnow, .ref mQfresh, .ref mQwas, .int (zI macts), .ref mQisKept, .ref mQkept, .ref mQheard, .ref mQnumber, .ref mQlowUp, .ref mQlowDown, .ref mQhighUp, .ref mQhighDown, .int (zI mlev_153), .ref mQseen, .int (zI memp), .ref mQfirst], eA mQnow (cy 0) 11 mNow, eA mQfresh (cy 0) 11 mFresh, eA mQheard (cy 0) 11 mHeard_153, eA mQnumber (cy 0) 7 mNum_153, eA mQlowUp (cy 0) 7 mLU_153, eA mQlowDown (cy 0) 7 mLD_153, eA mQhighUp (cy 0) 7 mHU_153, eA mQhighDown (cy 0) 7 mHD_153] := hD.sub [1, 0, 2, 3, 4, 5, 6, 7, 8] rfl rfl
          refine lv_iconst (v := zI 1) hx hb dX7_odds_156 rfl ?_
          refine zz_icmp_ne (tgt := 165) hx hb dX7_odds_157 (by decide) hf (fun hc hf => ?_) (fun hc hf => ?_)
          · refine lv_iload hx hb dX7_odds_160 (lv_at hl 6 rfl) ?_
            refine lv_goto (tgt := 166) hx hb dX7_odds_162 (by decide) ?_
            refine zz_iadd hx hb dX7_odds_166 ?_
            obtain ⟨v167, e167, hf⟩ := zq_lt hf
            refine zz_top e167 ?_
            refine lv_istore_n (lv' := [(3, .int (zI v167)), (4, .int (zI v140)), (0, .ref mO), (1, .int (zI p1)), (2, .int (zI p2)), (5, .int (zI x5)), (6, .int (zI x6)), (7, .int (zI x7))]) hx hb dX7_odds_167 rfl hl (by decide) rfl (fun ls hl => ?_)
            refine lv_iinc (v := zI (x5 + 1)) (lv' := [(5, .int (zI (x5 + 1))), (3, .int (zI v167)), (4, .int (zI v140)), (0, .ref mO), (1, .int (zI p1)), (2, .int (zI p2)), (6, .int (zI x6)), (7, .int (zI x7))]) hx hb dX7_odds_168 hl (k := 5) rfl (zI_add _ _) (by decide) rfl (fun ls hl => ?_)
            refine lv_goto (tgt := 37) hx hb dX7_odds_171 (by decide) ?_
            have hf := zq_some hf
            exact hf _ _ _ hP hD hS (lv_sub hl [3, 4, 5, 1, 2, 0] rfl)
          · refine lv_iconst (v := zI 0) hx hb dX7_odds_165 rfl ?_
            refine zz_iadd hx hb dX7_odds_166 ?_
            obtain ⟨v167, e167, hf⟩ := zq_lt hf
            refine zz_top e167 ?_
            refine lv_istore_n (lv' := [(3, .int (zI v167)), (4, .int (zI v140)), (0, .ref mO), (1, .int (zI p1)), (2, .int (zI p2)), (5, .int (zI x5)), (6, .int (zI x6)), (7, .int (zI x7))]) hx hb dX7_odds_167 rfl hl (by decide) rfl (fun ls hl => ?_)
            refine lv_iinc (v := zI (x5 + 1)) (lv' := [(5, .int (zI (x5 + 1))), (3, .int (zI v167)), (4, .int (zI v140)), (0, .ref mO), (1, .int (zI p1)), (2, .int (zI p2)), (6, .int (zI x6)), (7, .int (zI x7))]) hx hb dX7_odds_168 hl (k := 5) rfl (zI_add _ _) (by decide) rfl (fun ls hl => ?_)
            refine lv_goto (tgt := 37) hx hb dX7_odds_171 (by decide) ?_
            have hf := zq_some hf
            exact hf _ _ _ hP hD hS (lv_sub hl [3, 4, 5, 1, 2, 0] rfl)
      · refine lv_iload hx hb dX7_odds_79 (lv_at hl 5 rfl) ?_
        refine lv_iload hx hb dX7_odds_81 (lv_at hl 7 rfl) ?_
        refine zz_ishr hx hb dX7_odds_83 ?_
        refine lv_iconst (v := zI 1) hx hb dX7_odds_84 rfl ?_
        refine zz_iand hx hb dX7_odds_85 ?_
        refine lv_iconst (v := zI 1) hx hb dX7_odds_86 rfl ?_
        refine zz_icmp_ne (tgt := 94) hx hb dX7_odds_87 (by decide) hf (fun hc hf => ?_) (fun hc hf => ?_)
        · refine lv_iconst (v := zI 1) hx hb dX7_odds_90 rfl ?_
          refine lv_goto (tgt := 95) hx hb dX7_odds_91 (by decide) ?_
          refine lv_istore (lv' := [(8, .int (zI 1)), (0, .ref mO), (1, .int (zI p1)), (2, .int (zI p2)), (3, .int (zI x3)), (4, .int (zI x4)), (5, .int (zI x5)), (6, .int (zI x6)), (7, .int (zI x7))]) hx hb dX7_odds_95 hl (by decide) rfl (fun ls hl => ?_)
          refine lv_iload hx hb dX7_odds_97 (lv_at hl 7 rfl) ?_
          refine lv_iload hx hb dX7_odds_99 (lv_at hl 0 rfl) ?_
          refine lv_if_eq (tgt := 108) hx hb dX7_odds_101 (by decide) (fun hc => absurd hc (by decide)) (fun hc => ?_)
          refine lv_iload_n hx hb dX7_odds_104 rfl (lv_at hl 2 rfl) ?_
          refine lv_goto (tgt := 112) hx hb dX7_odds_105 (by decide) ?_
          refine zz_imul hx hb dX7_odds_112 ?_
          obtain ⟨v113, e113, hf⟩ := zq_lt hf
          refine zz_top e113 ?_
          refine lv_istore (lv' := [(6, .int (zI v113)), (8, .int (zI 1)), (0, .ref mO), (1, .int (zI p1)), (2, .int (zI p2)), (3, .int (zI x3)), (4, .int (zI x4)), (5, .int (zI x5)), (7, .int (zI x7))]) hx hb dX7_odds_113 hl (by decide) rfl (fun ls hl => ?_)
          refine lv_iload hx hb dX7_odds_115 (lv_at hl 1 rfl) ?_
          refine lv_if_eq (tgt := 129) hx hb dX7_odds_117 (by decide) (fun hc => absurd hc (by decide)) (fun hc => ?_)
          refine lv_aload_n hx hb dX7_odds_120 rfl (lv_at hl 2 rfl) ?_
          refine va_get (D := D) (ci := 6) (v := .ref mQfresh) (C := RX7) (T := TX7) (N := 23) hx hb hts u_X7_odds_X7 hown hK.1 hP 0 rfl rfl 8 (by decide) (hts _ m_X7_odds_4) (fun _ h9 => h9) rfl dX7_odds_121 ?_
          refine lv_iload hx hb dX7_odds_124 (lv_at hl 8 rfl) ?_
          obtain ⟨qR_126, hc126, hf⟩ := zq_bind hf
          refine zcallSv (wr := [eO mO 6 [.int (zI mth), .ref mQtext, .int (zI mmany), .int (zI mcur), .int (zI mst), .int (zI mtok), .int (zI mval), .ref mQnow, .ref mQfresh, .ref mQwas, .int (zI macts), .ref mQisKept, .ref mQkept, .ref mQheard, .ref mQnumber, .ref mQlowUp, .ref mQlowDown, .ref mQhighUp, .ref mQhighDown, .int (zI mlev), .ref mQseen, .int (zI memp), .ref mQfirst], eA mQnow (cy 0) 11 mNow, eA mQheard (cy 0) 11 mHeard, eA mQnumber (cy 0) 7 mNum, eA mQlowUp (cy 0) 7 mLU, eA mQlowDown (cy 0) 7 mLD, eA mQhighUp (cy 0) 7 mHU, eA mQhighDown (cy 0) 7 mHD]) (rest := []) ⟨hx, hb, hml, hown, hts⟩ (c_X7_drop l D cy mQfresh H.size x7 mFresh hc126) (va_cwS 2 hts gX7_odds_X7_drop rfl rfl rfl (by decide +kernel) ⟨Nat.le_of_ble_eq_true rfl, Nat.le_of_ble_eq_true rfl⟩) hK hP hD hS hA [2] [0, 1, 3, 4, 5, 6, 7, 8] rfl rfl rfl rfl (by decide) rfl hl.1 rfl (Nat.le_of_ble_eq_true rfl) dX7_odds_126 ⟨Nat.zero_le _, Nat.zero_le _⟩ (fun H locs hP hD hS => ?_)
          have hP : va_P D vwCl [eO mO 6 [.int (zI mth), .ref mQtext, .int (zI mmany), .int (zI mcur), .int (zI mst), .int (zI mtok), .int (zI mval), .ref mQnow, .ref mQfresh, .ref mQwas, .int (zI macts), .ref mQisKept, .ref mQkept, .ref mQheard, .ref mQnumber, .ref mQlowUp, .ref mQlowDown, .ref mQhighUp, .ref mQhighDown, .int (zI mlev), .ref mQseen, .int (zI memp), .ref mQfirst], eA mQnow (cy 0) 11 mNow, eA mQfresh (cy 0) 11 qR_126, eA mQheard (cy 0) 11 mHeard, eA mQnumber (cy 0) 7 mNum, eA mQlowUp (cy 0) 7 mLU, eA mQlowDown (cy 0) 7 mLD, eA mQhighUp (cy 0) 7 mHU, eA mQhighDown (cy 0) 7 mHD] H := hP.sub [0, 1, 8, 2, 3, 4, 5, 6, 7] rfl
          have hD : va_D A [eO mO 6 [.int (zI mth), .ref mQtext, .int (zI mmany), .int (zI mcur), .int (zI mst), .int (zI mtok), .int (zI mval), .ref mQnow, .ref mQfresh, .ref mQwas, .int (zI macts), .ref mQisKept, .ref mQkept, .ref mQheard, .ref mQnumber, .ref mQlowUp, .ref mQlowDown, .ref mQhighUp, .ref mQhighDown, .int (zI mlev), .ref mQseen, .int (zI memp), .ref mQfirst], eA mQnow (cy 0) 11 mNow, eA mQfresh (cy 0) 11 qR_126, eA mQheard (cy 0) 11 mHeard, eA mQnumber (cy 0) 7 mNum, eA mQlowUp (cy 0) 7 mLU, eA mQlowDown (cy 0) 7 mLD, eA mQhighUp (cy 0) 7 mHU, eA mQhighDown (cy 0) 7 mHD] := hD.sub [0, 1, 8, 2, 3, 4, 5, 6, 7] rfl rfl
          refine lv_iinc (v := zI (x7 + (-1))) (lv' := [(7, .int (zI (x7 + (-1)))), (6, .int (zI v113)), (8, .int (zI 1)), (0, .ref mO), (1, .int (zI p1)), (2, .int (zI p2)), (3, .int (zI x3)), (4, .int (zI x4)), (5, .int (zI x5))]) hx hb dX7_odds_129 hl (k := 8) rfl (zI_add _ _) (by decide) rfl (fun ls hl => ?_)
          refine lv_goto (tgt := 74) hx hb dX7_odds_132 (by decide) ?_
          have hf := zq_some hf
          exact hf _ _ _ hP hD hS (lv_sub hl [3, 4, 5, 6, 7, 8, 1, 0] rfl)
        · refine lv_iconst (v := zI 0) hx hb dX7_odds_94 rfl ?_
          refine lv_istore (lv' := [(8, .int (zI 0)), (0, .ref mO), (1, .int (zI p1)), (2, .int (zI p2)), (3, .int (zI x3)), (4, .int (zI x4)), (5, .int (zI x5)), (6, .int (zI x6)), (7, .int (zI x7))]) hx hb dX7_odds_95 hl (by decide) rfl (fun ls hl => ?_)
          refine lv_iload hx hb dX7_odds_97 (lv_at hl 7 rfl) ?_
          refine lv_iload hx hb dX7_odds_99 (lv_at hl 0 rfl) ?_
          refine lv_if_eq (tgt := 108) hx hb dX7_odds_101 (by decide) (fun hc => ?_) (fun hc => absurd hc (by decide))
          refine lv_bipush (v := zI 10) hx hb dX7_odds_108 (by decide) ?_
          refine lv_iload_n hx hb dX7_odds_110 rfl (lv_at hl 2 rfl) ?_
          refine zz_isub hx hb dX7_odds_111 ?_
          refine zz_imul hx hb dX7_odds_112 ?_
          obtain ⟨v113, e113, hf⟩ := zq_lt hf
          refine zz_top e113 ?_
          refine lv_istore (lv' := [(6, .int (zI v113)), (8, .int (zI 0)), (0, .ref mO), (1, .int (zI p1)), (2, .int (zI p2)), (3, .int (zI x3)), (4, .int (zI x4)), (5, .int (zI x5)), (7, .int (zI x7))]) hx hb dX7_odds_113 hl (by decide) rfl (fun ls hl => ?_)
          refine lv_iload hx hb dX7_odds_115 (lv_at hl 1 rfl) ?_
          refine lv_if_eq (tgt := 129) hx hb dX7_odds_117 (by decide) (fun hc => ?_) (fun hc => absurd hc (by decide))
          refine lv_iinc (v := zI (x7 + (-1))) (lv' := [(7, .int (zI (x7 + (-1)))), (6, .int (zI v113)), (8, .int (zI 0)), (0, .ref mO), (1, .int (zI p1)), (2, .int (zI p2)), (3, .int (zI x3)), (4, .int (zI x4)), (5, .int (zI x5))]) hx hb dX7_odds_129 hl (k := 8) rfl (zI_add _ _) (by decide) rfl (fun ls hl => ?_)
          refine lv_goto (tgt := 74) hx hb dX7_odds_132 (by decide) ?_
          have hf := zq_some hf
          exact hf _ _ _ hP hD hS (lv_sub hl [3, 4, 5, 6, 7, 8, 1, 0] rfl)
    | n + 2, hf => exact hf.elim)
  unfold f_X7_odds at hf
  refine lv_aload_n hx hb dX7_odds_0 rfl (lv_at hl 0 rfl) ?_
  refine lv_iconst (v := zI 0) hx hb dX7_odds_1 rfl ?_
  refine va_put (D := D) (ci := 6) (v := .int (zI 0)) (ty := .int) (C := RX7) (T := TX7) (N := 23) hx hb hts u_X7_odds_X7 tyX7 tyX7_ok nmX7 hown hK.1 hP hD hS 0 rfl rfl 0 (by decide) (hts _ m_X7_odds_1) (fun _ h9 => h9) rfl (tyX7_ok 0 (by decide)) rfl rfl (Nat.le_of_ble_eq_true rfl) dX7_odds_2 (fun H locs hP hD hS => ?_)
  have hP : va_P D vwCl [eO mO 6 [.int (zI 0), .ref mQtext, .int (zI mmany), .int (zI mcur), .int (zI mst), .int (zI mtok), .int (zI mval), .ref mQnow, .ref mQfresh, .ref mQwas, .int (zI macts), .ref mQisKept, .ref mQkept, .ref mQheard, .ref mQnumber, .ref mQlowUp, .ref mQlowDown, .ref mQhighUp, .ref mQhighDown, .int (zI mlev), .ref mQseen, .int (zI memp), .ref mQfirst], eA mQnow (cy 0) 11 mNow, eA mQfresh (cy 0) 11 mFresh, eA mQheard (cy 0) 11 mHeard, eA mQnumber (cy 0) 7 mNum, eA mQlowUp (cy 0) 7 mLU, eA mQlowDown (cy 0) 7 mLD, eA mQhighUp (cy 0) 7 mHU, eA mQhighDown (cy 0) 7 mHD] H := hP
  have hD : va_D A [eO mO 6 [.int (zI 0), .ref mQtext, .int (zI mmany), .int (zI mcur), .int (zI mst), .int (zI mtok), .int (zI mval), .ref mQnow, .ref mQfresh, .ref mQwas, .int (zI macts), .ref mQisKept, .ref mQkept, .ref mQheard, .ref mQnumber, .ref mQlowUp, .ref mQlowDown, .ref mQhighUp, .ref mQhighDown, .int (zI mlev), .ref mQseen, .int (zI memp), .ref mQfirst], eA mQnow (cy 0) 11 mNow, eA mQfresh (cy 0) 11 mFresh, eA mQheard (cy 0) 11 mHeard, eA mQnumber (cy 0) 7 mNum, eA mQlowUp (cy 0) 7 mLU, eA mQlowDown (cy 0) 7 mLD, eA mQhighUp (cy 0) 7 mHU, eA mQhighDown (cy 0) 7 mHD] := hD
  refine lv_iload_n hx hb dX7_odds_5 rfl (lv_at hl 1 rfl) ?_
  obtain ⟨hg, hf⟩ := zq_gd hf
  refine lv_i2l (v := zL p1) hx hb dX7_odds_6 (zL_i hg) ?_
  refine lv_lconst (v := zL 0) hx hb dX7_odds_7 (by decide) ?_
  refine lv_ldc2 (v := zL 10) hx hb hown (hts _ m_X7_odds_2) dX7_odds_8 ?_
  obtain ⟨r11, hc11, hf⟩ := zq_bind hf
  refine zcallSi (wr := [eO mO 6 [.int (zI 0), .ref mQtext, .int (zI mmany), .int (zI mcur), .int (zI mst), .int (zI mtok), .int (zI mval), .ref mQnow, .ref mQfresh, .ref mQwas, .int (zI macts), .ref mQisKept, .ref mQkept, .ref mQheard, .ref mQnumber, .ref mQlowUp, .ref mQlowDown, .ref mQhighUp, .ref mQhighDown, .int (zI mlev), .ref mQseen, .int (zI memp), .ref mQfirst], eA mQnow (cy 0) 11 mNow, eA mQfresh (cy 0) 11 mFresh, eA mQheard (cy 0) 11 mHeard, eA mQnumber (cy 0) 7 mNum, eA mQlowUp (cy 0) 7 mLU, eA mQlowDown (cy 0) 7 mLD, eA mQhighUp (cy 0) 7 mHU, eA mQhighDown (cy 0) 7 mHD]) (rest := []) ⟨hx, hb, hml, hown, hts⟩ (c_X7_in l D cy H.size p1 0 10 hc11) (va_cwS 3 hts gX7_odds_X7_in rfl rfl rfl (by decide +kernel) ⟨Nat.le_of_ble_eq_true rfl, Nat.le_of_ble_eq_true rfl⟩) hK hP hD hS hA [] [0, 1, 2, 3, 4, 5, 6, 7, 8] rfl rfl rfl rfl (by decide) rfl hl.1 rfl (Nat.le_of_ble_eq_true rfl) dX7_odds_11 ⟨Nat.zero_le _, Nat.zero_le _⟩ (fun H locs hP hD hS => ?_)
  have hP : va_P D vwCl [eO mO 6 [.int (zI 0), .ref mQtext, .int (zI mmany), .int (zI mcur), .int (zI mst), .int (zI mtok), .int (zI mval), .ref mQnow, .ref mQfresh, .ref mQwas, .int (zI macts), .ref mQisKept, .ref mQkept, .ref mQheard, .ref mQnumber, .ref mQlowUp, .ref mQlowDown, .ref mQhighUp, .ref mQhighDown, .int (zI mlev), .ref mQseen, .int (zI memp), .ref mQfirst], eA mQnow (cy 0) 11 mNow, eA mQfresh (cy 0) 11 mFresh, eA mQheard (cy 0) 11 mHeard, eA mQnumber (cy 0) 7 mNum, eA mQlowUp (cy 0) 7 mLU, eA mQlowDown (cy 0) 7 mLD, eA mQhighUp (cy 0) 7 mHU, eA mQhighDown (cy 0) 7 mHD] H := hP.sub [0, 1, 2, 3, 4, 5, 6, 7, 8] rfl
  have hD : va_D A [eO mO 6 [.int (zI 0), .ref mQtext, .int (zI mmany), .int (zI mcur), .int (zI mst), .int (zI mtok), .int (zI mval), .ref mQnow, .ref mQfresh, .ref mQwas, .int (zI macts), .ref mQisKept, .ref mQkept, .ref mQheard, .ref mQnumber, .ref mQlowUp, .ref mQlowDown, .ref mQhighUp, .ref mQhighDown, .int (zI mlev), .ref mQseen, .int (zI memp), .ref mQfirst], eA mQnow (cy 0) 11 mNow, eA mQfresh (cy 0) 11 mFresh, eA mQheard (cy 0) 11 mHeard, eA mQnumber (cy 0) 7 mNum, eA mQlowUp (cy 0) 7 mLU, eA mQlowDown (cy 0) 7 mLD, eA mQhighUp (cy 0) 7 mHU, eA mQhighDown (cy 0) 7 mHD] := hD.sub [0, 1, 2, 3, 4, 5, 6, 7, 8] rfl rfl
  refine zz_if_eq (tgt := 27) hx hb dX7_odds_14 (by decide) hf (fun hc hf => ?_) (fun hc hf => ?_)
  · refine lv_iconst (v := zI (-1)) hx hb dX7_odds_27 rfl ?_
    have hf := zq_some hf
    cases hf
    exact W.iret hx hb hr (fun t ht hW => ⟨⟨_, (), rfl, rfl, by rw [ht]; exact hP, hD⟩, hS.F ht⟩) hS.2.2 dX7_odds_28
  · refine lv_iload_n hx hb dX7_odds_17 rfl (lv_at hl 2 rfl) ?_
    obtain ⟨hg, hf⟩ := zq_gd hf
    refine lv_i2l (v := zL p2) hx hb dX7_odds_18 (zL_i hg) ?_
    refine lv_lconst (v := zL 0) hx hb dX7_odds_19 (by decide) ?_
    refine lv_lconst (v := zL 1) hx hb dX7_odds_20 (by decide) ?_
    obtain ⟨r21, hc21, hf⟩ := zq_bind hf
    refine zcallSi (wr := [eO mO 6 [.int (zI 0), .ref mQtext, .int (zI mmany), .int (zI mcur), .int (zI mst), .int (zI mtok), .int (zI mval), .ref mQnow, .ref mQfresh, .ref mQwas, .int (zI macts), .ref mQisKept, .ref mQkept, .ref mQheard, .ref mQnumber, .ref mQlowUp, .ref mQlowDown, .ref mQhighUp, .ref mQhighDown, .int (zI mlev), .ref mQseen, .int (zI memp), .ref mQfirst], eA mQnow (cy 0) 11 mNow, eA mQfresh (cy 0) 11 mFresh, eA mQheard (cy 0) 11 mHeard, eA mQnumber (cy 0) 7 mNum, eA mQlowUp (cy 0) 7 mLU, eA mQlowDown (cy 0) 7 mLD, eA mQhighUp (cy 0) 7 mHU, eA mQhighDown (cy 0) 7 mHD]) (rest := []) ⟨hx, hb, hml, hown, hts⟩ (c_X7_in l D cy H.size p2 0 1 hc21) (va_cwS 3 hts gX7_odds_X7_in rfl rfl rfl (by decide +kernel) ⟨Nat.le_of_ble_eq_true rfl, Nat.le_of_ble_eq_true rfl⟩) hK hP hD hS hA [] [0, 1, 2, 3, 4, 5, 6, 7, 8] rfl rfl rfl rfl (by decide) rfl hl.1 rfl (Nat.le_of_ble_eq_true rfl) dX7_odds_21 ⟨Nat.zero_le _, Nat.zero_le _⟩ (fun H locs hP hD hS => ?_)
    have hP : va_P D vwCl [eO mO 6 [.int (zI 0), .ref mQtext, .int (zI mmany), .int (zI mcur), .int (zI mst), .int (zI mtok), .int (zI mval), .ref mQnow, .ref mQfresh, .ref mQwas, .int (zI macts), .ref mQisKept, .ref mQkept, .ref mQheard, .ref mQnumber, .ref mQlowUp, .ref mQlowDown, .ref mQhighUp, .ref mQhighDown, .int (zI mlev), .ref mQseen, .int (zI memp), .ref mQfirst], eA mQnow (cy 0) 11 mNow, eA mQfresh (cy 0) 11 mFresh, eA mQheard (cy 0) 11 mHeard, eA mQnumber (cy 0) 7 mNum, eA mQlowUp (cy 0) 7 mLU, eA mQlowDown (cy 0) 7 mLD, eA mQhighUp (cy 0) 7 mHU, eA mQhighDown (cy 0) 7 mHD] H := hP.sub [0, 1, 2, 3, 4, 5, 6, 7, 8] rfl
    have hD : va_D A [eO mO 6 [.int (zI 0), .ref mQtext, .int (zI mmany), .int (zI mcur), .int (zI mst), .int (zI mtok), .int (zI mval), .ref mQnow, .ref mQfresh, .ref mQwas, .int (zI macts), .ref mQisKept, .ref mQkept, .ref mQheard, .ref mQnumber, .ref mQlowUp, .ref mQlowDown, .ref mQhighUp, .ref mQhighDown, .int (zI mlev), .ref mQseen, .int (zI memp), .ref mQfirst], eA mQnow (cy 0) 11 mNow, eA mQfresh (cy 0) 11 mFresh, eA mQheard (cy 0) 11 mHeard, eA mQnumber (cy 0) 7 mNum, eA mQlowUp (cy 0) 7 mLU, eA mQlowDown (cy 0) 7 mLD, eA mQhighUp (cy 0) 7 mHU, eA mQhighDown (cy 0) 7 mHD] := hD.sub [0, 1, 2, 3, 4, 5, 6, 7, 8] rfl rfl
    refine zz_if_ne (tgt := 29) hx hb dX7_odds_24 (by decide) hf (fun hc hf => ?_) (fun hc hf => ?_)
    · refine lv_iconst (v := zI (-1)) hx hb dX7_odds_27 rfl ?_
      have hf := zq_some hf
      cases hf
      exact W.iret hx hb hr (fun t ht hW => ⟨⟨_, (), rfl, rfl, by rw [ht]; exact hP, hD⟩, hS.F ht⟩) hS.2.2 dX7_odds_28
    · refine lv_iconst (v := zI 0) hx hb dX7_odds_29 rfl ?_
      refine lv_istore_n (lv' := [(3, .int (zI 0)), (0, .ref mO), (1, .int (zI p1)), (2, .int (zI p2))]) hx hb dX7_odds_30 rfl hl (by decide) rfl (fun ls hl => ?_)
      refine lv_iconst (v := zI 0) hx hb dX7_odds_31 rfl ?_
      refine lv_istore (lv' := [(4, .int (zI 0)), (3, .int (zI 0)), (0, .ref mO), (1, .int (zI p1)), (2, .int (zI p2))]) hx hb dX7_odds_32 hl (by decide) rfl (fun ls hl => ?_)
      refine lv_iconst (v := zI 0) hx hb dX7_odds_34 rfl ?_
      refine lv_istore (lv' := [(5, .int (zI 0)), (4, .int (zI 0)), (3, .int (zI 0)), (0, .ref mO), (1, .int (zI p1)), (2, .int (zI p2))]) hx hb dX7_odds_35 hl (by decide) rfl (fun ls hl => ?_)
      exact key _ (zq_eq hf) _ _ _ hP hD hS (lv_sub hl [3, 4, 5, 2, 1, 0] rfl)

noncomputable def f_X7_greatestOf (p1 : Int) (p2 : Int) (mNow : Nat → Int) (mLU : Nat → Int) (mLD : Nat → Int) : Option (Int) :=
  (f_X7_apart p1 p2 mNow).bind fun r6 =>
  gd (zR ((r6 + (2 * (mNow 3))) * (mLD 0)) ∧ zR (mLU 0) ∧ (mLU 0) ≠ 0) <|
  some (Int.tdiv ((r6 + (2 * (mNow 3))) * (mLD 0)) (mLU 0))
theorem m_X7_greatestOf_1 : (.fieldLink RX7 46 "PulseTurnsModel" "now" "[I" : Cond) ∈ wsX7_greatestOf := List.mem_of_getElem? (i := 1) rfl
theorem m_X7_greatestOf_2 : (.fieldLink RX7 71 "PulseTurnsModel" "lowDown" "[I" : Cond) ∈ wsX7_greatestOf := List.mem_of_getElem? (i := 2) rfl
theorem m_X7_greatestOf_3 : (.fieldLink RX7 68 "PulseTurnsModel" "lowUp" "[I" : Cond) ∈ wsX7_greatestOf := List.mem_of_getElem? (i := 3) rfl
theorem u_X7_greatestOf_X7 : ∀ w ∈ wsX70, w ∈ wsX7_greatestOf := fun w h => List.mem_cons_of_mem _ (List.mem_append_right _ h)
set_option maxRecDepth 100000 in
set_option maxHeartbeats 4000000 in
theorem c_X7_greatestOf (l : Launch) (D : va_G) (cy : Nat → ClassId) (mO mQtext mQnow mQfresh mQwas mQisKept mQkept mQheard mQnumber mQlowUp mQlowDown mQhighUp mQhighDown mQseen mQfirst : Nat) (sz : Nat) (p1 : Int) (p2 : Int) (mth : Int) (mmany : Int) (mcur : Int) (mst : Int) (mtok : Int) (mval : Int) (macts : Int) (mlev : Int) (memp : Int) (mNow : Nat → Int) (mLU : Nat → Int) (mLD : Nat → Int) {r : Int} (hf : f_X7_greatestOf p1 p2 mNow mLU mLD = some r) : zMi l yX7_greatestOf wsX7_greatestOf ({ frames := 1, cells := 0, slots := 0, locals := 22 }) D cy sz [.ref mO, .int (zI p1), .int (zI p2)] [eO mO 6 [.int (zI mth), .ref mQtext, .int (zI mmany), .int (zI mcur), .int (zI mst), .int (zI mtok), .int (zI mval), .ref mQnow, .ref mQfresh, .ref mQwas, .int (zI macts), .ref mQisKept, .ref mQkept, .ref mQheard, .ref mQnumber, .ref mQlowUp, .ref mQlowDown, .ref mQhighUp, .ref mQhighDown, .int (zI mlev), .ref mQseen, .int (zI memp), .ref mQfirst], eA mQnow (cy 0) 11 mNow, eA mQlowUp (cy 0) 7 mLU, eA mQlowDown (cy 0) 7 mLD] [eO mO 6 [.int (zI mth), .ref mQtext, .int (zI mmany), .int (zI mcur), .int (zI mst), .int (zI mtok), .int (zI mval), .ref mQnow, .ref mQfresh, .ref mQwas, .int (zI macts), .ref mQisKept, .ref mQkept, .ref mQheard, .ref mQnumber, .ref mQlowUp, .ref mQlowDown, .ref mQhighUp, .ref mQhighDown, .int (zI mlev), .ref mQseen, .int (zI memp), .ref mQfirst], eA mQnow (cy 0) 11 mNow, eA mQlowUp (cy 0) 7 mLU, eA mQlowDown (cy 0) 7 mLD] (zI r) := by
  refine Met.ofW (cc := cX7_greatestOf) (maxL := 3) (ret := (some .int)) (by decide) rfl ?_
  intro p e s m args below meth c s₁ B hml hv
  obtain ⟨rfl, hsz, hP, hK, hD0⟩ := hv
  have hx := B.exec
  have hb := B.bytes
  have hr := B.returns
  have hts := atoms_spec (ws := wsX7_greatestOf) B.pre
  have hown : s.vm.findClass RX7 = some m.cls := findClass_of_methodNamed B.named
  have hlocks := B.notSynchronized
  subst hsz
  have hD := hD0.self (sz := s.heap.size)
  generalize hAe : va_A [eO mO 6 [.int (zI mth), .ref mQtext, .int (zI mmany), .int (zI mcur), .int (zI mst), .int (zI mtok), .int (zI mval), .ref mQnow, .ref mQfresh, .ref mQwas, .int (zI macts), .ref mQisKept, .ref mQkept, .ref mQheard, .ref mQnumber, .ref mQlowUp, .ref mQlowDown, .ref mQhighUp, .ref mQhighDown, .int (zI mlev), .ref mQseen, .int (zI memp), .ref mQfirst], eA mQnow (cy 0) 11 mNow, eA mQlowUp (cy 0) 7 mLU, eA mQlowDown (cy 0) 7 mLD] s.heap.size = A at hD ⊢
  have hA : ∀ q : Nat, s.heap.size ≤ q → A q := fun q h => by rw [← hAe]; exact Or.inr h
  have hS : va_S A s.heap s.heap [] := va_S.rf
  have hl := lv_entry ([.ref mO, .int (zI p1), .int (zI p2)]) (n := 3) (Nat.le_of_ble_eq_true rfl)
  rw [lg_entry_eq]
  generalize (lg_sl ([.ref mO, .int (zI p1), .int (zI p2)]) ++ List.replicate (3 - (lg_sl ([.ref mO, .int (zI p1), .int (zI p2)])).length) Slot.unset).toArray = ls at hl ⊢
  have hl : lv_has ls 3 [(0, .ref mO), (1, .int (zI p1)), (2, .int (zI p2))] := hl
  have hf := zq_of hf
  unfold f_X7_greatestOf at hf
  refine lv_aload_n hx hb dX7_greatestOf_0 rfl (lv_at hl 0 rfl) ?_
  refine va_get (D := D) (ci := 6) (v := .ref mQnow) (C := RX7) (T := TX7) (N := 23) hx hb hts u_X7_greatestOf_X7 hown hK.1 hP 0 rfl rfl 7 (by decide) (hts _ m_X7_greatestOf_1) (fun _ h9 => h9) rfl dX7_greatestOf_1 ?_
  refine lv_iload_n hx hb dX7_greatestOf_4 rfl (lv_at hl 1 rfl) ?_
  refine lv_iload_n hx hb dX7_greatestOf_5 rfl (lv_at hl 2 rfl) ?_
  obtain ⟨r6, hc6, hf⟩ := zq_bind hf
  refine zcallSi (wr := [eO mO 6 [.int (zI mth), .ref mQtext, .int (zI mmany), .int (zI mcur), .int (zI mst), .int (zI mtok), .int (zI mval), .ref mQnow, .ref mQfresh, .ref mQwas, .int (zI macts), .ref mQisKept, .ref mQkept, .ref mQheard, .ref mQnumber, .ref mQlowUp, .ref mQlowDown, .ref mQhighUp, .ref mQhighDown, .int (zI mlev), .ref mQseen, .int (zI memp), .ref mQfirst], eA mQlowUp (cy 0) 7 mLU, eA mQlowDown (cy 0) 7 mLD]) (rest := []) ⟨hx, hb, hml, hown, hts⟩ (c_X7_apart l D cy mQnow s.heap.size p1 p2 mNow hc6) (va_cwS 3 hts gX7_greatestOf_X7_apart rfl rfl rfl (by decide +kernel) ⟨Nat.le_of_ble_eq_true rfl, Nat.le_of_ble_eq_true rfl⟩) hK hP hD hS hA [1] [0, 2, 3] rfl rfl rfl rfl (by decide) rfl hl.1 rfl (Nat.le_of_ble_eq_true rfl) dX7_greatestOf_6 ⟨Nat.zero_le _, Nat.zero_le _⟩ (fun H locs hP hD hS => ?_)
  have hP : va_P D vwCl [eO mO 6 [.int (zI mth), .ref mQtext, .int (zI mmany), .int (zI mcur), .int (zI mst), .int (zI mtok), .int (zI mval), .ref mQnow, .ref mQfresh, .ref mQwas, .int (zI macts), .ref mQisKept, .ref mQkept, .ref mQheard, .ref mQnumber, .ref mQlowUp, .ref mQlowDown, .ref mQhighUp, .ref mQhighDown, .int (zI mlev), .ref mQseen, .int (zI memp), .ref mQfirst], eA mQnow (cy 0) 11 mNow, eA mQlowUp (cy 0) 7 mLU, eA mQlowDown (cy 0) 7 mLD] H := hP.sub [0, 3, 1, 2] rfl
  have hD : va_D A [eO mO 6 [.int (zI mth), .ref mQtext, .int (zI mmany), .int (zI mcur), .int (zI mst), .int (zI mtok), .int (zI mval), .ref mQnow, .ref mQfresh, .ref mQwas, .int (zI macts), .ref mQisKept, .ref mQkept, .ref mQheard, .ref mQnumber, .ref mQlowUp, .ref mQlowDown, .ref mQhighUp, .ref mQhighDown, .int (zI mlev), .ref mQseen, .int (zI memp), .ref mQfirst], eA mQnow (cy 0) 11 mNow, eA mQlowUp (cy 0) 7 mLU, eA mQlowDown (cy 0) 7 mLD] := hD.sub [0, 3, 1, 2] rfl rfl
  refine lv_iconst (v := zI 2) hx hb dX7_greatestOf_9 rfl ?_
  refine lv_aload_n hx hb dX7_greatestOf_10 rfl (lv_at hl 0 rfl) ?_
  refine va_get (D := D) (ci := 6) (v := .ref mQnow) (C := RX7) (T := TX7) (N := 23) hx hb hts u_X7_greatestOf_X7 hown hK.1 hP 0 rfl rfl 7 (by decide) (hts _ m_X7_greatestOf_1) (fun _ h9 => h9) rfl dX7_greatestOf_11 ?_
  refine lv_iconst (v := zI 3) hx hb dX7_greatestOf_14 rfl ?_
  refine zz_iald (i := 3) hx hb hK hP 1 rfl (Nat.le_of_ble_eq_true rfl) (by decide) dX7_greatestOf_15 ?_
  refine zz_imul hx hb dX7_greatestOf_16 ?_
  refine zz_iadd hx hb dX7_greatestOf_17 ?_
  refine lv_aload_n hx hb dX7_greatestOf_18 rfl (lv_at hl 0 rfl) ?_
  refine va_get (D := D) (ci := 6) (v := .ref mQlowDown) (C := RX7) (T := TX7) (N := 23) hx hb hts u_X7_greatestOf_X7 hown hK.1 hP 0 rfl rfl 16 (by decide) (hts _ m_X7_greatestOf_2) (fun _ h9 => h9) rfl dX7_greatestOf_19 ?_
  refine lv_iconst (v := zI 0) hx hb dX7_greatestOf_22 rfl ?_
  refine zz_iald (i := 0) hx hb hK hP 3 rfl (Nat.le_of_ble_eq_true rfl) (by decide) dX7_greatestOf_23 ?_
  refine zz_imul hx hb dX7_greatestOf_24 ?_
  refine lv_aload_n hx hb dX7_greatestOf_25 rfl (lv_at hl 0 rfl) ?_
  refine va_get (D := D) (ci := 6) (v := .ref mQlowUp) (C := RX7) (T := TX7) (N := 23) hx hb hts u_X7_greatestOf_X7 hown hK.1 hP 0 rfl rfl 15 (by decide) (hts _ m_X7_greatestOf_3) (fun _ h9 => h9) rfl dX7_greatestOf_26 ?_
  refine lv_iconst (v := zI 0) hx hb dX7_greatestOf_29 rfl ?_
  refine zz_iald (i := 0) hx hb hK hP 2 rfl (Nat.le_of_ble_eq_true rfl) (by decide) dX7_greatestOf_30 ?_
  obtain ⟨hg, hf⟩ := zq_gd hf
  refine zz_idiv hx hb hg dX7_greatestOf_31 ?_
  have hf := zq_some hf
  cases hf
  exact W.iret hx hb hr (fun t ht hW => ⟨⟨_, (), rfl, rfl, by rw [ht]; exact hP, hD⟩, hS.F ht⟩) hS.2.2 dX7_greatestOf_32

noncomputable def f_X7_leastOf (p1 : Int) (p2 : Int) (mNow : Nat → Int) (mHU : Nat → Int) (mHD : Nat → Int) : Option (Int) :=
  (f_X7_apart p1 p2 mNow).bind fun r6 =>
  zlt ((r6 - (2 * (mNow 3))) * (mHD 0)) fun v25 =>
  gd (zR v25) <|
  if v25 ≤ 0 then
    gd (zR 0 ∧ zR (p2 - p1)) <|
    if (0 : Int) < (p2 - p1) then
      some (p2 - p1)
    else
      some 0
  else
    gd (zR ((v25 + (mHU 0)) - 1) ∧ zR (mHU 0) ∧ (mHU 0) ≠ 0) <|
    zlt (Int.tdiv ((v25 + (mHU 0)) - 1) (mHU 0)) fun v51 =>
    gd (zR v51 ∧ zR (p2 - p1)) <|
    if v51 < (p2 - p1) then
      some (p2 - p1)
    else
      some v51
theorem m_X7_leastOf_1 : (.fieldLink RX7 46 "PulseTurnsModel" "now" "[I" : Cond) ∈ wsX7_leastOf := List.mem_of_getElem? (i := 1) rfl
theorem m_X7_leastOf_2 : (.fieldLink RX7 77 "PulseTurnsModel" "highDown" "[I" : Cond) ∈ wsX7_leastOf := List.mem_of_getElem? (i := 2) rfl
theorem m_X7_leastOf_3 : (.fieldLink RX7 74 "PulseTurnsModel" "highUp" "[I" : Cond) ∈ wsX7_leastOf := List.mem_of_getElem? (i := 3) rfl
theorem u_X7_leastOf_X7 : ∀ w ∈ wsX70, w ∈ wsX7_leastOf := fun w h => List.mem_cons_of_mem _ (List.mem_append_right _ h)
set_option maxRecDepth 100000 in
set_option maxHeartbeats 4000000 in
theorem c_X7_leastOf (l : Launch) (D : va_G) (cy : Nat → ClassId) (mO mQtext mQnow mQfresh mQwas mQisKept mQkept mQheard mQnumber mQlowUp mQlowDown mQhighUp mQhighDown mQseen mQfirst : Nat) (sz : Nat) (p1 : Int) (p2 : Int) (mth : Int) (mmany : Int) (mcur : Int) (mst : Int) (mtok : Int) (mval : Int) (macts : Int) (mlev : Int) (memp : Int) (mNow : Nat → Int) (mHU : Nat → Int) (mHD : Nat → Int) {r : Int} (hf : f_X7_leastOf p1 p2 mNow mHU mHD = some r) : zMi l yX7_leastOf wsX7_leastOf ({ frames := 1, cells := 0, slots := 0, locals := 22 }) D cy sz [.ref mO, .int (zI p1), .int (zI p2)] [eO mO 6 [.int (zI mth), .ref mQtext, .int (zI mmany), .int (zI mcur), .int (zI mst), .int (zI mtok), .int (zI mval), .ref mQnow, .ref mQfresh, .ref mQwas, .int (zI macts), .ref mQisKept, .ref mQkept, .ref mQheard, .ref mQnumber, .ref mQlowUp, .ref mQlowDown, .ref mQhighUp, .ref mQhighDown, .int (zI mlev), .ref mQseen, .int (zI memp), .ref mQfirst], eA mQnow (cy 0) 11 mNow, eA mQhighUp (cy 0) 7 mHU, eA mQhighDown (cy 0) 7 mHD] [eO mO 6 [.int (zI mth), .ref mQtext, .int (zI mmany), .int (zI mcur), .int (zI mst), .int (zI mtok), .int (zI mval), .ref mQnow, .ref mQfresh, .ref mQwas, .int (zI macts), .ref mQisKept, .ref mQkept, .ref mQheard, .ref mQnumber, .ref mQlowUp, .ref mQlowDown, .ref mQhighUp, .ref mQhighDown, .int (zI mlev), .ref mQseen, .int (zI memp), .ref mQfirst], eA mQnow (cy 0) 11 mNow, eA mQhighUp (cy 0) 7 mHU, eA mQhighDown (cy 0) 7 mHD] (zI r) := by
  refine Met.ofW (cc := cX7_leastOf) (maxL := 5) (ret := (some .int)) (by decide) rfl ?_
  intro p e s m args below meth c s₁ B hml hv
  obtain ⟨rfl, hsz, hP, hK, hD0⟩ := hv
  have hx := B.exec
  have hb := B.bytes
  have hr := B.returns
  have hts := atoms_spec (ws := wsX7_leastOf) B.pre
  have hown : s.vm.findClass RX7 = some m.cls := findClass_of_methodNamed B.named
  have hlocks := B.notSynchronized
  subst hsz
  have hD := hD0.self (sz := s.heap.size)
  generalize hAe : va_A [eO mO 6 [.int (zI mth), .ref mQtext, .int (zI mmany), .int (zI mcur), .int (zI mst), .int (zI mtok), .int (zI mval), .ref mQnow, .ref mQfresh, .ref mQwas, .int (zI macts), .ref mQisKept, .ref mQkept, .ref mQheard, .ref mQnumber, .ref mQlowUp, .ref mQlowDown, .ref mQhighUp, .ref mQhighDown, .int (zI mlev), .ref mQseen, .int (zI memp), .ref mQfirst], eA mQnow (cy 0) 11 mNow, eA mQhighUp (cy 0) 7 mHU, eA mQhighDown (cy 0) 7 mHD] s.heap.size = A at hD ⊢
  have hA : ∀ q : Nat, s.heap.size ≤ q → A q := fun q h => by rw [← hAe]; exact Or.inr h
  have hS : va_S A s.heap s.heap [] := va_S.rf
  have hl := lv_entry ([.ref mO, .int (zI p1), .int (zI p2)]) (n := 5) (Nat.le_of_ble_eq_true rfl)
  rw [lg_entry_eq]
  generalize (lg_sl ([.ref mO, .int (zI p1), .int (zI p2)]) ++ List.replicate (5 - (lg_sl ([.ref mO, .int (zI p1), .int (zI p2)])).length) Slot.unset).toArray = ls at hl ⊢
  have hl : lv_has ls 5 [(0, .ref mO), (1, .int (zI p1)), (2, .int (zI p2))] := hl
  have hf := zq_of hf
  unfold f_X7_leastOf at hf
  refine lv_aload_n hx hb dX7_leastOf_0 rfl (lv_at hl 0 rfl) ?_
  refine va_get (D := D) (ci := 6) (v := .ref mQnow) (C := RX7) (T := TX7) (N := 23) hx hb hts u_X7_leastOf_X7 hown hK.1 hP 0 rfl rfl 7 (by decide) (hts _ m_X7_leastOf_1) (fun _ h9 => h9) rfl dX7_leastOf_1 ?_
  refine lv_iload_n hx hb dX7_leastOf_4 rfl (lv_at hl 1 rfl) ?_
  refine lv_iload_n hx hb dX7_leastOf_5 rfl (lv_at hl 2 rfl) ?_
  obtain ⟨r6, hc6, hf⟩ := zq_bind hf
  refine zcallSi (wr := [eO mO 6 [.int (zI mth), .ref mQtext, .int (zI mmany), .int (zI mcur), .int (zI mst), .int (zI mtok), .int (zI mval), .ref mQnow, .ref mQfresh, .ref mQwas, .int (zI macts), .ref mQisKept, .ref mQkept, .ref mQheard, .ref mQnumber, .ref mQlowUp, .ref mQlowDown, .ref mQhighUp, .ref mQhighDown, .int (zI mlev), .ref mQseen, .int (zI memp), .ref mQfirst], eA mQhighUp (cy 0) 7 mHU, eA mQhighDown (cy 0) 7 mHD]) (rest := []) ⟨hx, hb, hml, hown, hts⟩ (c_X7_apart l D cy mQnow s.heap.size p1 p2 mNow hc6) (va_cwS 3 hts gX7_leastOf_X7_apart rfl rfl rfl (by decide +kernel) ⟨Nat.le_of_ble_eq_true rfl, Nat.le_of_ble_eq_true rfl⟩) hK hP hD hS hA [1] [0, 2, 3] rfl rfl rfl rfl (by decide) rfl hl.1 rfl (Nat.le_of_ble_eq_true rfl) dX7_leastOf_6 ⟨Nat.zero_le _, Nat.zero_le _⟩ (fun H locs hP hD hS => ?_)
  have hP : va_P D vwCl [eO mO 6 [.int (zI mth), .ref mQtext, .int (zI mmany), .int (zI mcur), .int (zI mst), .int (zI mtok), .int (zI mval), .ref mQnow, .ref mQfresh, .ref mQwas, .int (zI macts), .ref mQisKept, .ref mQkept, .ref mQheard, .ref mQnumber, .ref mQlowUp, .ref mQlowDown, .ref mQhighUp, .ref mQhighDown, .int (zI mlev), .ref mQseen, .int (zI memp), .ref mQfirst], eA mQnow (cy 0) 11 mNow, eA mQhighUp (cy 0) 7 mHU, eA mQhighDown (cy 0) 7 mHD] H := hP.sub [0, 3, 1, 2] rfl
  have hD : va_D A [eO mO 6 [.int (zI mth), .ref mQtext, .int (zI mmany), .int (zI mcur), .int (zI mst), .int (zI mtok), .int (zI mval), .ref mQnow, .ref mQfresh, .ref mQwas, .int (zI macts), .ref mQisKept, .ref mQkept, .ref mQheard, .ref mQnumber, .ref mQlowUp, .ref mQlowDown, .ref mQhighUp, .ref mQhighDown, .int (zI mlev), .ref mQseen, .int (zI memp), .ref mQfirst], eA mQnow (cy 0) 11 mNow, eA mQhighUp (cy 0) 7 mHU, eA mQhighDown (cy 0) 7 mHD] := hD.sub [0, 3, 1, 2] rfl rfl
  refine lv_iconst (v := zI 2) hx hb dX7_leastOf_9 rfl ?_
  refine lv_aload_n hx hb dX7_leastOf_10 rfl (lv_at hl 0 rfl) ?_
  refine va_get (D := D) (ci := 6) (v := .ref mQnow) (C := RX7) (T := TX7) (N := 23) hx hb hts u_X7_leastOf_X7 hown hK.1 hP 0 rfl rfl 7 (by decide) (hts _ m_X7_leastOf_1) (fun _ h9 => h9) rfl dX7_leastOf_11 ?_
  refine lv_iconst (v := zI 3) hx hb dX7_leastOf_14 rfl ?_
  refine zz_iald (i := 3) hx hb hK hP 1 rfl (Nat.le_of_ble_eq_true rfl) (by decide) dX7_leastOf_15 ?_
  refine zz_imul hx hb dX7_leastOf_16 ?_
  refine zz_isub hx hb dX7_leastOf_17 ?_
  refine lv_aload_n hx hb dX7_leastOf_18 rfl (lv_at hl 0 rfl) ?_
  refine va_get (D := D) (ci := 6) (v := .ref mQhighDown) (C := RX7) (T := TX7) (N := 23) hx hb hts u_X7_leastOf_X7 hown hK.1 hP 0 rfl rfl 18 (by decide) (hts _ m_X7_leastOf_2) (fun _ h9 => h9) rfl dX7_leastOf_19 ?_
  refine lv_iconst (v := zI 0) hx hb dX7_leastOf_22 rfl ?_
  refine zz_iald (i := 0) hx hb hK hP 3 rfl (Nat.le_of_ble_eq_true rfl) (by decide) dX7_leastOf_23 ?_
  refine zz_imul hx hb dX7_leastOf_24 ?_
  obtain ⟨v25, e25, hf⟩ := zq_lt hf
  refine zz_top e25 ?_
  refine lv_istore_n (lv' := [(3, .int (zI v25)), (0, .ref mO), (1, .int (zI p1)), (2, .int (zI p2))]) hx hb dX7_leastOf_25 rfl hl (by decide) rfl (fun ls hl => ?_)
  refine lv_iload_n hx hb dX7_leastOf_26 rfl (lv_at hl 0 rfl) ?_
  refine zz_if_gt (tgt := 34) hx hb dX7_leastOf_27 (by decide) hf (fun hc hf => ?_) (fun hc hf => ?_)
  · refine lv_iconst (v := zI 0) hx hb dX7_leastOf_30 rfl ?_
    refine lv_goto (tgt := 51) hx hb dX7_leastOf_31 (by decide) ?_
    refine lv_istore (lv' := [(4, .int (zI 0)), (3, .int (zI v25)), (0, .ref mO), (1, .int (zI p1)), (2, .int (zI p2))]) hx hb dX7_leastOf_51 hl (by decide) rfl (fun ls hl => ?_)
    refine lv_iload hx hb dX7_leastOf_53 (lv_at hl 0 rfl) ?_
    refine lv_iload_n hx hb dX7_leastOf_55 rfl (lv_at hl 4 rfl) ?_
    refine lv_iload_n hx hb dX7_leastOf_56 rfl (lv_at hl 3 rfl) ?_
    refine zz_isub hx hb dX7_leastOf_57 ?_
    refine zz_icmp_ge (tgt := 67) hx hb dX7_leastOf_58 (by decide) hf (fun hc hf => ?_) (fun hc hf => ?_)
    · refine lv_iload_n hx hb dX7_leastOf_61 rfl (lv_at hl 4 rfl) ?_
      refine lv_iload_n hx hb dX7_leastOf_62 rfl (lv_at hl 3 rfl) ?_
      refine zz_isub hx hb dX7_leastOf_63 ?_
      refine lv_goto (tgt := 69) hx hb dX7_leastOf_64 (by decide) ?_
      have hf := zq_some hf
      cases hf
      exact W.iret hx hb hr (fun t ht hW => ⟨⟨_, (), rfl, rfl, by rw [ht]; exact hP, hD⟩, hS.F ht⟩) hS.2.2 dX7_leastOf_69
    · refine lv_iload hx hb dX7_leastOf_67 (lv_at hl 0 rfl) ?_
      have hf := zq_some hf
      cases hf
      exact W.iret hx hb hr (fun t ht hW => ⟨⟨_, (), rfl, rfl, by rw [ht]; exact hP, hD⟩, hS.F ht⟩) hS.2.2 dX7_leastOf_69
  · refine lv_iload_n hx hb dX7_leastOf_34 rfl (lv_at hl 0 rfl) ?_
    refine lv_aload_n hx hb dX7_leastOf_35 rfl (lv_at hl 1 rfl) ?_
    refine va_get (D := D) (ci := 6) (v := .ref mQhighUp) (C := RX7) (T := TX7) (N := 23) hx hb hts u_X7_leastOf_X7 hown hK.1 hP 0 rfl rfl 17 (by decide) (hts _ m_X7_leastOf_3) (fun _ h9 => h9) rfl dX7_leastOf_36 ?_
    refine lv_iconst (v := zI 0) hx hb dX7_leastOf_39 rfl ?_
    refine zz_iald (i := 0) hx hb hK hP 2 rfl (Nat.le_of_ble_eq_true rfl) (by decide) dX7_leastOf_40 ?_
    refine zz_iadd hx hb dX7_leastOf_41 ?_
    refine lv_iconst (v := zI 1) hx hb dX7_leastOf_42 rfl ?_
    refine zz_isub hx hb dX7_leastOf_43 ?_
    refine lv_aload_n hx hb dX7_leastOf_44 rfl (lv_at hl 1 rfl) ?_
    refine va_get (D := D) (ci := 6) (v := .ref mQhighUp) (C := RX7) (T := TX7) (N := 23) hx hb hts u_X7_leastOf_X7 hown hK.1 hP 0 rfl rfl 17 (by decide) (hts _ m_X7_leastOf_3) (fun _ h9 => h9) rfl dX7_leastOf_45 ?_
    refine lv_iconst (v := zI 0) hx hb dX7_leastOf_48 rfl ?_
    refine zz_iald (i := 0) hx hb hK hP 2 rfl (Nat.le_of_ble_eq_true rfl) (by decide) dX7_leastOf_49 ?_
    obtain ⟨hg, hf⟩ := zq_gd hf
    refine zz_idiv hx hb hg dX7_leastOf_50 ?_
    obtain ⟨v51, e51, hf⟩ := zq_lt hf
    refine zz_top e51 ?_
    refine lv_istore (lv' := [(4, .int (zI v51)), (3, .int (zI v25)), (0, .ref mO), (1, .int (zI p1)), (2, .int (zI p2))]) hx hb dX7_leastOf_51 hl (by decide) rfl (fun ls hl => ?_)
    refine lv_iload hx hb dX7_leastOf_53 (lv_at hl 0 rfl) ?_
    refine lv_iload_n hx hb dX7_leastOf_55 rfl (lv_at hl 4 rfl) ?_
    refine lv_iload_n hx hb dX7_leastOf_56 rfl (lv_at hl 3 rfl) ?_
    refine zz_isub hx hb dX7_leastOf_57 ?_
    refine zz_icmp_ge (tgt := 67) hx hb dX7_leastOf_58 (by decide) hf (fun hc hf => ?_) (fun hc hf => ?_)
    · refine lv_iload_n hx hb dX7_leastOf_61 rfl (lv_at hl 4 rfl) ?_
      refine lv_iload_n hx hb dX7_leastOf_62 rfl (lv_at hl 3 rfl) ?_
      refine zz_isub hx hb dX7_leastOf_63 ?_
      refine lv_goto (tgt := 69) hx hb dX7_leastOf_64 (by decide) ?_
      have hf := zq_some hf
      cases hf
      exact W.iret hx hb hr (fun t ht hW => ⟨⟨_, (), rfl, rfl, by rw [ht]; exact hP, hD⟩, hS.F ht⟩) hS.2.2 dX7_leastOf_69
    · refine lv_iload hx hb dX7_leastOf_67 (lv_at hl 0 rfl) ?_
      have hf := zq_some hf
      cases hf
      exact W.iret hx hb hr (fun t ht hW => ⟨⟨_, (), rfl, rfl, by rw [ht]; exact hP, hD⟩, hS.F ht⟩) hS.2.2 dX7_leastOf_69

noncomputable def f_X7_countsOf (p1 : Int) (p2 : Int) (mNow : Nat → Int) (mLU : Nat → Int) (mLD : Nat → Int) (mHU : Nat → Int) (mHD : Nat → Int) : Option (Int) :=
  (f_X7_greatestOf p1 p2 mNow mLU mLD).bind fun r3 =>
  (f_X7_leastOf p1 p2 mNow mHU mHD).bind fun r9 =>
  zlt ((r3 - r9) + 1) fun v15 =>
  gd (zR v15) <|
  if v15 < 0 then
    some 0
  else
    some v15

set_option maxRecDepth 100000 in
set_option maxHeartbeats 4000000 in
theorem c_X7_countsOf (l : Launch) (D : va_G) (cy : Nat → ClassId) (mO mQtext mQnow mQfresh mQwas mQisKept mQkept mQheard mQnumber mQlowUp mQlowDown mQhighUp mQhighDown mQseen mQfirst : Nat) (sz : Nat) (p1 : Int) (p2 : Int) (mth : Int) (mmany : Int) (mcur : Int) (mst : Int) (mtok : Int) (mval : Int) (macts : Int) (mlev : Int) (memp : Int) (mNow : Nat → Int) (mLU : Nat → Int) (mLD : Nat → Int) (mHU : Nat → Int) (mHD : Nat → Int) {r : Int} (hf : f_X7_countsOf p1 p2 mNow mLU mLD mHU mHD = some r) : zMi l yX7_countsOf wsX7_countsOf ({ frames := 2, cells := 0, slots := 0, locals := 46 }) D cy sz [.ref mO, .int (zI p1), .int (zI p2)] [eO mO 6 [.int (zI mth), .ref mQtext, .int (zI mmany), .int (zI mcur), .int (zI mst), .int (zI mtok), .int (zI mval), .ref mQnow, .ref mQfresh, .ref mQwas, .int (zI macts), .ref mQisKept, .ref mQkept, .ref mQheard, .ref mQnumber, .ref mQlowUp, .ref mQlowDown, .ref mQhighUp, .ref mQhighDown, .int (zI mlev), .ref mQseen, .int (zI memp), .ref mQfirst], eA mQnow (cy 0) 11 mNow, eA mQlowUp (cy 0) 7 mLU, eA mQlowDown (cy 0) 7 mLD, eA mQhighUp (cy 0) 7 mHU, eA mQhighDown (cy 0) 7 mHD] [eO mO 6 [.int (zI mth), .ref mQtext, .int (zI mmany), .int (zI mcur), .int (zI mst), .int (zI mtok), .int (zI mval), .ref mQnow, .ref mQfresh, .ref mQwas, .int (zI macts), .ref mQisKept, .ref mQkept, .ref mQheard, .ref mQnumber, .ref mQlowUp, .ref mQlowDown, .ref mQhighUp, .ref mQhighDown, .int (zI mlev), .ref mQseen, .int (zI memp), .ref mQfirst], eA mQnow (cy 0) 11 mNow, eA mQlowUp (cy 0) 7 mLU, eA mQlowDown (cy 0) 7 mLD, eA mQhighUp (cy 0) 7 mHU, eA mQhighDown (cy 0) 7 mHD] (zI r) := by
  refine Met.ofW (cc := cX7_countsOf) (maxL := 4) (ret := (some .int)) (by decide) rfl ?_
  intro p e s m args below meth c s₁ B hml hv
  obtain ⟨rfl, hsz, hP, hK, hD0⟩ := hv
  have hx := B.exec
  have hb := B.bytes
  have hr := B.returns
  have hts := atoms_spec (ws := wsX7_countsOf) B.pre
  have hown : s.vm.findClass RX7 = some m.cls := findClass_of_methodNamed B.named
  have hlocks := B.notSynchronized
  subst hsz
  have hD := hD0.self (sz := s.heap.size)
  generalize hAe : va_A [eO mO 6 [.int (zI mth), .ref mQtext, .int (zI mmany), .int (zI mcur), .int (zI mst), .int (zI mtok), .int (zI mval), .ref mQnow, .ref mQfresh, .ref mQwas, .int (zI macts), .ref mQisKept, .ref mQkept, .ref mQheard, .ref mQnumber, .ref mQlowUp, .ref mQlowDown, .ref mQhighUp, .ref mQhighDown, .int (zI mlev), .ref mQseen, .int (zI memp), .ref mQfirst], eA mQnow (cy 0) 11 mNow, eA mQlowUp (cy 0) 7 mLU, eA mQlowDown (cy 0) 7 mLD, eA mQhighUp (cy 0) 7 mHU, eA mQhighDown (cy 0) 7 mHD] s.heap.size = A at hD ⊢
  have hA : ∀ q : Nat, s.heap.size ≤ q → A q := fun q h => by rw [← hAe]; exact Or.inr h
  have hS : va_S A s.heap s.heap [] := va_S.rf
  have hl := lv_entry ([.ref mO, .int (zI p1), .int (zI p2)]) (n := 4) (Nat.le_of_ble_eq_true rfl)
  rw [lg_entry_eq]
  generalize (lg_sl ([.ref mO, .int (zI p1), .int (zI p2)]) ++ List.replicate (4 - (lg_sl ([.ref mO, .int (zI p1), .int (zI p2)])).length) Slot.unset).toArray = ls at hl ⊢
  have hl : lv_has ls 4 [(0, .ref mO), (1, .int (zI p1)), (2, .int (zI p2))] := hl
  have hf := zq_of hf
  unfold f_X7_countsOf at hf
  refine lv_aload_n hx hb dX7_countsOf_0 rfl (lv_at hl 0 rfl) ?_
  refine lv_iload_n hx hb dX7_countsOf_1 rfl (lv_at hl 1 rfl) ?_
  refine lv_iload_n hx hb dX7_countsOf_2 rfl (lv_at hl 2 rfl) ?_
  obtain ⟨r3, hc3, hf⟩ := zq_bind hf
  refine zcallVi (wr := [eA mQhighUp (cy 0) 7 mHU, eA mQhighDown (cy 0) 7 mHD]) (rest := []) ⟨hx, hb, hml, hown, hts⟩ (c_X7_greatestOf l D cy mO mQtext mQnow mQfresh mQwas mQisKept mQkept mQheard mQnumber mQlowUp mQlowDown mQhighUp mQhighDown mQseen mQfirst s.heap.size p1 p2 mth mmany mcur mst mtok mval macts mlev memp mNow mLU mLD hc3) (cwV 2 hts gX7_countsOf_X7_greatestOf rfl rfl rfl (by decide +kernel) ⟨Nat.le_of_ble_eq_true rfl, Nat.le_of_ble_eq_true rfl⟩) hK hP hD hS hA [0, 1, 2, 3] [4, 5] rfl rfl rfl rfl (by decide) (va_recv hK.1 hP (ci := 6) (q0 := 0) rfl rfl) rfl hl.1 rfl (Nat.le_of_ble_eq_true rfl) dX7_countsOf_3 ⟨Nat.zero_le _, Nat.zero_le _⟩ (fun H locs hP hD hS => ?_)
  have hP : va_P D vwCl [eO mO 6 [.int (zI mth), .ref mQtext, .int (zI mmany), .int (zI mcur), .int (zI mst), .int (zI mtok), .int (zI mval), .ref mQnow, .ref mQfresh, .ref mQwas, .int (zI macts), .ref mQisKept, .ref mQkept, .ref mQheard, .ref mQnumber, .ref mQlowUp, .ref mQlowDown, .ref mQhighUp, .ref mQhighDown, .int (zI mlev), .ref mQseen, .int (zI memp), .ref mQfirst], eA mQnow (cy 0) 11 mNow, eA mQlowUp (cy 0) 7 mLU, eA mQlowDown (cy 0) 7 mLD, eA mQhighUp (cy 0) 7 mHU, eA mQhighDown (cy 0) 7 mHD] H := hP.sub [2, 3, 4, 5, 0, 1] rfl
  have hD : va_D A [eO mO 6 [.int (zI mth), .ref mQtext, .int (zI mmany), .int (zI mcur), .int (zI mst), .int (zI mtok), .int (zI mval), .ref mQnow, .ref mQfresh, .ref mQwas, .int (zI macts), .ref mQisKept, .ref mQkept, .ref mQheard, .ref mQnumber, .ref mQlowUp, .ref mQlowDown, .ref mQhighUp, .ref mQhighDown, .int (zI mlev), .ref mQseen, .int (zI memp), .ref mQfirst], eA mQnow (cy 0) 11 mNow, eA mQlowUp (cy 0) 7 mLU, eA mQlowDown (cy 0) 7 mLD, eA mQhighUp (cy 0) 7 mHU, eA mQhighDown (cy 0) 7 mHD] := hD.sub [2, 3, 4, 5, 0, 1] rfl rfl
  refine lv_aload_n hx hb dX7_countsOf_6 rfl (lv_at hl 0 rfl) ?_
  refine lv_iload_n hx hb dX7_countsOf_7 rfl (lv_at hl 1 rfl) ?_
  refine lv_iload_n hx hb dX7_countsOf_8 rfl (lv_at hl 2 rfl) ?_
  obtain ⟨r9, hc9, hf⟩ := zq_bind hf
  refine zcallVi (wr := [eA mQlowUp (cy 0) 7 mLU, eA mQlowDown (cy 0) 7 mLD]) (rest := [.int (zI r3)]) ⟨hx, hb, hml, hown, hts⟩ (c_X7_leastOf l D cy mO mQtext mQnow mQfresh mQwas mQisKept mQkept mQheard mQnumber mQlowUp mQlowDown mQhighUp mQhighDown mQseen mQfirst H.size p1 p2 mth mmany mcur mst mtok mval macts mlev memp mNow mHU mHD hc9) (cwV 2 hts gX7_countsOf_X7_leastOf rfl rfl rfl (by decide +kernel) ⟨Nat.le_of_ble_eq_true rfl, Nat.le_of_ble_eq_true rfl⟩) hK hP hD hS hA [0, 1, 4, 5] [2, 3] rfl rfl rfl rfl (by decide) (va_recv hK.1 hP (ci := 6) (q0 := 0) rfl rfl) rfl hl.1 rfl (Nat.le_of_ble_eq_true rfl) dX7_countsOf_9 ⟨Nat.zero_le _, Nat.zero_le _⟩ (fun H locs hP hD hS => ?_)
  have hP : va_P D vwCl [eO mO 6 [.int (zI mth), .ref mQtext, .int (zI mmany), .int (zI mcur), .int (zI mst), .int (zI mtok), .int (zI mval), .ref mQnow, .ref mQfresh, .ref mQwas, .int (zI macts), .ref mQisKept, .ref mQkept, .ref mQheard, .ref mQnumber, .ref mQlowUp, .ref mQlowDown, .ref mQhighUp, .ref mQhighDown, .int (zI mlev), .ref mQseen, .int (zI memp), .ref mQfirst], eA mQnow (cy 0) 11 mNow, eA mQlowUp (cy 0) 7 mLU, eA mQlowDown (cy 0) 7 mLD, eA mQhighUp (cy 0) 7 mHU, eA mQhighDown (cy 0) 7 mHD] H := hP.sub [2, 3, 0, 1, 4, 5] rfl
  have hD : va_D A [eO mO 6 [.int (zI mth), .ref mQtext, .int (zI mmany), .int (zI mcur), .int (zI mst), .int (zI mtok), .int (zI mval), .ref mQnow, .ref mQfresh, .ref mQwas, .int (zI macts), .ref mQisKept, .ref mQkept, .ref mQheard, .ref mQnumber, .ref mQlowUp, .ref mQlowDown, .ref mQhighUp, .ref mQhighDown, .int (zI mlev), .ref mQseen, .int (zI memp), .ref mQfirst], eA mQnow (cy 0) 11 mNow, eA mQlowUp (cy 0) 7 mLU, eA mQlowDown (cy 0) 7 mLD, eA mQhighUp (cy 0) 7 mHU, eA mQhighDown (cy 0) 7 mHD] := hD.sub [2, 3, 0, 1, 4, 5] rfl rfl
  refine zz_isub hx hb dX7_countsOf_12 ?_
  refine lv_iconst (v := zI 1) hx hb dX7_countsOf_13 rfl ?_
  refine zz_iadd hx hb dX7_countsOf_14 ?_
  obtain ⟨v15, e15, hf⟩ := zq_lt hf
  refine zz_top e15 ?_
  refine lv_istore_n (lv' := [(3, .int (zI v15)), (0, .ref mO), (1, .int (zI p1)), (2, .int (zI p2))]) hx hb dX7_countsOf_15 rfl hl (by decide) rfl (fun ls hl => ?_)
  refine lv_iload_n hx hb dX7_countsOf_16 rfl (lv_at hl 0 rfl) ?_
  refine zz_if_ge (tgt := 24) hx hb dX7_countsOf_17 (by decide) hf (fun hc hf => ?_) (fun hc hf => ?_)
  · refine lv_iconst (v := zI 0) hx hb dX7_countsOf_20 rfl ?_
    refine lv_goto (tgt := 25) hx hb dX7_countsOf_21 (by decide) ?_
    have hf := zq_some hf
    cases hf
    exact W.iret hx hb hr (fun t ht hW => ⟨⟨_, (), rfl, rfl, by rw [ht]; exact hP, hD⟩, hS.F ht⟩) hS.2.2 dX7_countsOf_25
  · refine lv_iload_n hx hb dX7_countsOf_24 rfl (lv_at hl 0 rfl) ?_
    have hf := zq_some hf
    cases hf
    exact W.iret hx hb hr (fun t ht hW => ⟨⟨_, (), rfl, rfl, by rw [ht]; exact hP, hD⟩, hS.F ht⟩) hS.2.2 dX7_countsOf_25

noncomputable def st_X7_isNarrower : (Int × Int × Int × Int × (Nat → Int) × (Nat → Int) × (Nat → Int) × (Nat → Int)) → Option ((Int × Int × Int × Int × (Nat → Int) × (Nat → Int) × (Nat → Int) × (Nat → Int)) ⊕ (Int × (Nat → Int) × (Nat → Int) × (Nat → Int) × (Nat → Int))) := fun (x3, x4, x5, x6, mLU, mLD, mHU, mHD) =>
  gd (zR (x5 * (mHD 0)) ∧ zR ((mHU 0) * x3)) <|
  if (x5 * (mHD 0)) < ((mHU 0) * x3) then
    some (.inr (1, mLU, mLD, (zup mHU 0 x5), (zup mHD 0 x3)))
  else
    gd (x6 = 0 ∨ x6 = 1) <|
    some (.inr (x6, mLU, mLD, mHU, mHD))
noncomputable def f_X7_isNarrower (p1 : Int) (p2 : Int) (mNow : Nat → Int) (mLU : Nat → Int) (mLD : Nat → Int) (mHU : Nat → Int) (mHD : Nat → Int) : Option (Int × (Nat → Int) × (Nat → Int) × (Nat → Int) × (Nat → Int)) :=
  (f_X7_leastOf p1 p2 mNow mHU mHD).bind fun r3 =>
  (f_X7_apart p1 p2 mNow).bind fun r13 =>
  zlt (r13 - (2 * (mNow 3))) fun v25 =>
  (f_X7_apart p1 p2 mNow).bind fun r33 =>
  zlt (r33 + (2 * (mNow 3))) fun v45 =>
  gd (zR (v25 * (mLD 0)) ∧ zR ((mLU 0) * r3)) <|
  if (v25 * (mLD 0)) ≤ ((mLU 0) * r3) then
    zev (st_X7_isNarrower) (r3, v25, v45, 0, mLU, mLD, mHU, mHD)
  else
    zev (st_X7_isNarrower) (r3, v25, v45, 1, (zup mLU 0 v25), (zup mLD 0 r3), mHU, mHD)
theorem m_X7_isNarrower_1 : (.fieldLink RX7 46 "PulseTurnsModel" "now" "[I" : Cond) ∈ wsX7_isNarrower := List.mem_of_getElem? (i := 1) rfl
theorem m_X7_isNarrower_2 : (.fieldLink RX7 71 "PulseTurnsModel" "lowDown" "[I" : Cond) ∈ wsX7_isNarrower := List.mem_of_getElem? (i := 2) rfl
theorem m_X7_isNarrower_3 : (.fieldLink RX7 68 "PulseTurnsModel" "lowUp" "[I" : Cond) ∈ wsX7_isNarrower := List.mem_of_getElem? (i := 3) rfl
theorem m_X7_isNarrower_4 : (.fieldLink RX7 77 "PulseTurnsModel" "highDown" "[I" : Cond) ∈ wsX7_isNarrower := List.mem_of_getElem? (i := 4) rfl
theorem m_X7_isNarrower_5 : (.fieldLink RX7 74 "PulseTurnsModel" "highUp" "[I" : Cond) ∈ wsX7_isNarrower := List.mem_of_getElem? (i := 5) rfl
theorem u_X7_isNarrower_X7 : ∀ w ∈ wsX70, w ∈ wsX7_isNarrower := fun w h => List.mem_cons_of_mem _ (List.mem_append_right _ h)
set_option maxRecDepth 100000 in
set_option maxHeartbeats 4000000 in
theorem c_X7_isNarrower (l : Launch) (D : va_G) (cy : Nat → ClassId) (mO mQtext mQnow mQfresh mQwas mQisKept mQkept mQheard mQnumber mQlowUp mQlowDown mQhighUp mQhighDown mQseen mQfirst : Nat) (sz : Nat) (p1 : Int) (p2 : Int) (mth : Int) (mmany : Int) (mcur : Int) (mst : Int) (mtok : Int) (mval : Int) (macts : Int) (mlev : Int) (memp : Int) (mNow : Nat → Int) (mLU : Nat → Int) (mLD : Nat → Int) (mHU : Nat → Int) (mHD : Nat → Int) {r : Int} {mLU' : Nat → Int} {mLD' : Nat → Int} {mHU' : Nat → Int} {mHD' : Nat → Int} (hf : f_X7_isNarrower p1 p2 mNow mLU mLD mHU mHD = some (r, mLU', mLD', mHU', mHD')) : zMi l yX7_isNarrower wsX7_isNarrower ({ frames := 2, cells := 0, slots := 0, locals := 46 }) D cy sz [.ref mO, .int (zI p1), .int (zI p2)] [eO mO 6 [.int (zI mth), .ref mQtext, .int (zI mmany), .int (zI mcur), .int (zI mst), .int (zI mtok), .int (zI mval), .ref mQnow, .ref mQfresh, .ref mQwas, .int (zI macts), .ref mQisKept, .ref mQkept, .ref mQheard, .ref mQnumber, .ref mQlowUp, .ref mQlowDown, .ref mQhighUp, .ref mQhighDown, .int (zI mlev), .ref mQseen, .int (zI memp), .ref mQfirst], eA mQnow (cy 0) 11 mNow, eA mQlowUp (cy 0) 7 mLU, eA mQlowDown (cy 0) 7 mLD, eA mQhighUp (cy 0) 7 mHU, eA mQhighDown (cy 0) 7 mHD] [eO mO 6 [.int (zI mth), .ref mQtext, .int (zI mmany), .int (zI mcur), .int (zI mst), .int (zI mtok), .int (zI mval), .ref mQnow, .ref mQfresh, .ref mQwas, .int (zI macts), .ref mQisKept, .ref mQkept, .ref mQheard, .ref mQnumber, .ref mQlowUp, .ref mQlowDown, .ref mQhighUp, .ref mQhighDown, .int (zI mlev), .ref mQseen, .int (zI memp), .ref mQfirst], eA mQnow (cy 0) 11 mNow, eA mQlowUp (cy 0) 7 mLU', eA mQlowDown (cy 0) 7 mLD', eA mQhighUp (cy 0) 7 mHU', eA mQhighDown (cy 0) 7 mHD'] (zI r) := by
  refine Met.ofW (cc := cX7_isNarrower) (maxL := 7) (ret := (some .boolean)) (by decide) rfl ?_
  intro p e s m args below meth c s₁ B hml hv
  obtain ⟨rfl, hsz, hP, hK, hD0⟩ := hv
  have hx := B.exec
  have hb := B.bytes
  have hr := B.returns
  have hts := atoms_spec (ws := wsX7_isNarrower) B.pre
  have hown : s.vm.findClass RX7 = some m.cls := findClass_of_methodNamed B.named
  have hlocks := B.notSynchronized
  subst hsz
  have hD := hD0.self (sz := s.heap.size)
  generalize hAe : va_A [eO mO 6 [.int (zI mth), .ref mQtext, .int (zI mmany), .int (zI mcur), .int (zI mst), .int (zI mtok), .int (zI mval), .ref mQnow, .ref mQfresh, .ref mQwas, .int (zI macts), .ref mQisKept, .ref mQkept, .ref mQheard, .ref mQnumber, .ref mQlowUp, .ref mQlowDown, .ref mQhighUp, .ref mQhighDown, .int (zI mlev), .ref mQseen, .int (zI memp), .ref mQfirst], eA mQnow (cy 0) 11 mNow, eA mQlowUp (cy 0) 7 mLU, eA mQlowDown (cy 0) 7 mLD, eA mQhighUp (cy 0) 7 mHU, eA mQhighDown (cy 0) 7 mHD] s.heap.size = A at hD ⊢
  have hA : ∀ q : Nat, s.heap.size ≤ q → A q := fun q h => by rw [← hAe]; exact Or.inr h
  have hS : va_S A s.heap s.heap [] := va_S.rf
  have hl := lv_entry ([.ref mO, .int (zI p1), .int (zI p2)]) (n := 7) (Nat.le_of_ble_eq_true rfl)
  rw [lg_entry_eq]
  generalize (lg_sl ([.ref mO, .int (zI p1), .int (zI p2)]) ++ List.replicate (7 - (lg_sl ([.ref mO, .int (zI p1), .int (zI p2)])).length) Slot.unset).toArray = ls at hl ⊢
  have hl : lv_has ls 7 [(0, .ref mO), (1, .int (zI p1)), (2, .int (zI p2))] := hl
  have hf := zq_of hf
  have key := zloop (st := st_X7_isNarrower) (res := (r, mLU', mLD', mHU', mHD')) (K := fun (x3, x4, x5, x6, mLU, mLD, mHU, mHD) => ∀ (H : Heap) (locs : List Loc) (ls : Array Slot), va_P D vwCl [eO mO 6 [.int (zI mth), .ref mQtext, .int (zI mmany), .int (zI mcur), .int (zI mst), .int (zI mtok), .int (zI mval), .ref mQnow, .ref mQfresh, .ref mQwas, .int (zI macts), .ref mQisKept, .ref mQkept, .ref mQheard, .ref mQnumber, .ref mQlowUp, .ref mQlowDown, .ref mQhighUp, .ref mQhighDown, .int (zI mlev), .ref mQseen, .int (zI memp), .ref mQfirst], eA mQnow (cy 0) 11 mNow, eA mQlowUp (cy 0) 7 mLU, eA mQlowDown (cy 0) 7 mLD, eA mQhighUp (cy 0) 7 mHU, eA mQhighDown (cy 0) 7 mHD] H → va_D A [eO mO 6 [.int (zI mth), .ref mQtext, .int (zI mmany), .int (zI mcur), .int (zI mst), .int (zI mtok), .int (zI mval), .ref mQnow, .ref mQfresh, .ref mQwas, .int (zI macts), .ref mQisKept, .ref mQkept, .ref mQheard, .ref mQnumber, .ref mQlowUp, .ref mQlowDown, .ref mQhighUp, .ref mQhighDown, .int (zI mlev), .ref mQseen, .int (zI memp), .ref mQfirst], eA mQnow (cy 0) 11 mNow, eA mQlowUp (cy 0) 7 mLU, eA mQlowDown (cy 0) 7 mLD, eA mQhighUp (cy 0) 7 mHU, eA mQhighDown (cy 0) 7 mHD] → va_S A s.heap H locs → lv_has ls 7 [(0, .ref mO), (1, .int (zI p1)), (2, .int (zI p2)), (3, .int (zI x3)), (4, .int (zI x4)), (5, .int (zI x5)), (6, .int (zI x6))] → zGi p l e wsX7_isNarrower ({ frames := 2, cells := 0, slots := 0, locals := 46 }) s m [.ref mO, .int (zI p1), .int (zI p2)] below meth c A D [eO mO 6 [.int (zI mth), .ref mQtext, .int (zI mmany), .int (zI mcur), .int (zI mst), .int (zI mtok), .int (zI mval), .ref mQnow, .ref mQfresh, .ref mQwas, .int (zI macts), .ref mQisKept, .ref mQkept, .ref mQheard, .ref mQnumber, .ref mQlowUp, .ref mQlowDown, .ref mQhighUp, .ref mQhighDown, .int (zI mlev), .ref mQseen, .int (zI memp), .ref mQfirst], eA mQnow (cy 0) 11 mNow, eA mQlowUp (cy 0) 7 mLU', eA mQlowDown (cy 0) 7 mLD', eA mQhighUp (cy 0) 7 mHU', eA mQhighDown (cy 0) 7 mHD'] (zI r) H locs (F0 m 88 ls [])) (by
    rintro ⟨x3, x4, x5, x6, mLU, mLD, mHU, mHD⟩ hf
    intro H locs ls hP hD hS hl
    unfold st_X7_isNarrower at hf
    try dsimp only at hf
    refine lv_iload hx hb dX7_isNarrower_88 (lv_at hl 5 rfl) ?_
    refine lv_aload_n hx hb dX7_isNarrower_90 rfl (lv_at hl 0 rfl) ?_
    refine va_get (D := D) (ci := 6) (v := .ref mQhighDown) (C := RX7) (T := TX7) (N := 23) hx hb hts u_X7_isNarrower_X7 hown hK.1 hP 0 rfl rfl 18 (by decide) (hts _ m_X7_isNarrower_4) (fun _ h9 => h9) rfl dX7_isNarrower_91 ?_
    refine lv_iconst (v := zI 0) hx hb dX7_isNarrower_94 rfl ?_
    refine zz_iald (i := 0) hx hb hK hP 5 rfl (Nat.le_of_ble_eq_true rfl) (by decide) dX7_isNarrower_95 ?_
    refine zz_imul hx hb dX7_isNarrower_96 ?_
    refine lv_aload_n hx hb dX7_isNarrower_97 rfl (lv_at hl 0 rfl) ?_
    refine va_get (D := D) (ci := 6) (v := .ref mQhighUp) (C := RX7) (T := TX7) (N := 23) hx hb hts u_X7_isNarrower_X7 hown hK.1 hP 0 rfl rfl 17 (by decide) (hts _ m_X7_isNarrower_5) (fun _ h9 => h9) rfl dX7_isNarrower_98 ?_
    refine lv_iconst (v := zI 0) hx hb dX7_isNarrower_101 rfl ?_
    refine zz_iald (i := 0) hx hb hK hP 4 rfl (Nat.le_of_ble_eq_true rfl) (by decide) dX7_isNarrower_102 ?_
    refine lv_iload_n hx hb dX7_isNarrower_103 rfl (lv_at hl 3 rfl) ?_
    refine zz_imul hx hb dX7_isNarrower_104 ?_
    refine zz_icmp_ge (tgt := 126) hx hb dX7_isNarrower_105 (by decide) hf (fun hc hf => ?_) (fun hc hf => ?_)
    · refine lv_aload_n hx hb dX7_isNarrower_108 rfl (lv_at hl 0 rfl) ?_
      refine va_get (D := D) (ci := 6) (v := .ref mQhighUp) (C := RX7) (T := TX7) (N := 23) hx hb hts u_X7_isNarrower_X7 hown hK.1 hP 0 rfl rfl 17 (by decide) (hts _ m_X7_isNarrower_5) (fun _ h9 => h9) rfl dX7_isNarrower_109 ?_
      refine lv_iconst (v := zI 0) hx hb dX7_isNarrower_112 rfl ?_
      refine lv_iload hx hb dX7_isNarrower_113 (lv_at hl 5 rfl) ?_
      refine zz_iast (i := 0) hx hb hK hP hD hS 4 rfl (Nat.le_of_ble_eq_true rfl) (by decide) dX7_isNarrower_115 (fun H locs hP hD hS => ?_)
      have hP : va_P D vwCl [eO mO 6 [.int (zI mth), .ref mQtext, .int (zI mmany), .int (zI mcur), .int (zI mst), .int (zI mtok), .int (zI mval), .ref mQnow, .ref mQfresh, .ref mQwas, .int (zI macts), .ref mQisKept, .ref mQkept, .ref mQheard, .ref mQnumber, .ref mQlowUp, .ref mQlowDown, .ref mQhighUp, .ref mQhighDown, .int (zI mlev), .ref mQseen, .int (zI memp), .ref mQfirst], eA mQnow (cy 0) 11 mNow, eA mQlowUp (cy 0) 7 mLU, eA mQlowDown (cy 0) 7 mLD, eA mQhighUp (cy 0) 7 (zup mHU 0 x5), eA mQhighDown (cy 0) 7 mHD] H := hP
      have hD : va_D A [eO mO 6 [.int (zI mth), .ref mQtext, .int (zI mmany), .int (zI mcur), .int (zI mst), .int (zI mtok), .int (zI mval), .ref mQnow, .ref mQfresh, .ref mQwas, .int (zI macts), .ref mQisKept, .ref mQkept, .ref mQheard, .ref mQnumber, .ref mQlowUp, .ref mQlowDown, .ref mQhighUp, .ref mQhighDown, .int (zI mlev), .ref mQseen, .int (zI memp), .ref mQfirst], eA mQnow (cy 0) 11 mNow, eA mQlowUp (cy 0) 7 mLU, eA mQlowDown (cy 0) 7 mLD, eA mQhighUp (cy 0) 7 (zup mHU 0 x5), eA mQhighDown (cy 0) 7 mHD] := hD
      refine lv_aload_n hx hb dX7_isNarrower_116 rfl (lv_at hl 0 rfl) ?_
      refine va_get (D := D) (ci := 6) (v := .ref mQhighDown) (C := RX7) (T := TX7) (N := 23) hx hb hts u_X7_isNarrower_X7 hown hK.1 hP 0 rfl rfl 18 (by decide) (hts _ m_X7_isNarrower_4) (fun _ h9 => h9) rfl dX7_isNarrower_117 ?_
      refine lv_iconst (v := zI 0) hx hb dX7_isNarrower_120 rfl ?_
      refine lv_iload_n hx hb dX7_isNarrower_121 rfl (lv_at hl 3 rfl) ?_
      refine zz_iast (i := 0) hx hb hK hP hD hS 5 rfl (Nat.le_of_ble_eq_true rfl) (by decide) dX7_isNarrower_122 (fun H locs hP hD hS => ?_)
      have hP : va_P D vwCl [eO mO 6 [.int (zI mth), .ref mQtext, .int (zI mmany), .int (zI mcur), .int (zI mst), .int (zI mtok), .int (zI mval), .ref mQnow, .ref mQfresh, .ref mQwas, .int (zI macts), .ref mQisKept, .ref mQkept, .ref mQheard, .ref mQnumber, .ref mQlowUp, .ref mQlowDown, .ref mQhighUp, .ref mQhighDown, .int (zI mlev), .ref mQseen, .int (zI memp), .ref mQfirst], eA mQnow (cy 0) 11 mNow, eA mQlowUp (cy 0) 7 mLU, eA mQlowDown (cy 0) 7 mLD, eA mQhighUp (cy 0) 7 (zup mHU 0 x5), eA mQhighDown (cy 0) 7 (zup mHD 0 x3)] H := hP
      have hD : va_D A [eO mO 6 [.int (zI mth), .ref mQtext, .int (zI mmany), .int (zI mcur), .int (zI mst), .int (zI mtok), .int (zI mval), .ref mQnow, .ref mQfresh, .ref mQwas, .int (zI macts), .ref mQisKept, .ref mQkept, .ref mQheard, .ref mQnumber, .ref mQlowUp, .ref mQlowDown, .ref mQhighUp, .ref mQhighDown, .int (zI mlev), .ref mQseen, .int (zI memp), .ref mQfirst], eA mQnow (cy 0) 11 mNow, eA mQlowUp (cy 0) 7 mLU, eA mQlowDown (cy 0) 7 mLD, eA mQhighUp (cy 0) 7 (zup mHU 0 x5), eA mQhighDown (cy 0) 7 (zup mHD 0 x3)] := hD
      refine lv_iconst (v := zI 1) hx hb dX7_isNarrower_123 rfl ?_
      refine lv_istore (lv' := [(6, .int (zI 1)), (0, .ref mO), (1, .int (zI p1)), (2, .int (zI p2)), (3, .int (zI x3)), (4, .int (zI x4)), (5, .int (zI x5))]) hx hb dX7_isNarrower_124 hl (by decide) rfl (fun ls hl => ?_)
      refine lv_iload hx hb dX7_isNarrower_126 (lv_at hl 0 rfl) ?_
      have hf := zq_some hf
      cases hf
      exact W.zret hx hb hr rfl (fun t ht hW => ⟨⟨_, (), rfl, rfl, by rw [ht]; exact hP, hD⟩, hS.F ht⟩) hS.2.2 dX7_isNarrower_128
    · refine lv_iload hx hb dX7_isNarrower_126 (lv_at hl 6 rfl) ?_
      obtain ⟨hg, hf⟩ := zq_gd hf
      have hn9 : narrow .boolean (.int (zI x6)) = .int (zI x6) := by rcases hg with h | h <;> rw [h] <;> rfl
      have hf := zq_some hf
      cases hf
      exact W.zret hx hb hr hn9 (fun t ht hW => ⟨⟨_, (), rfl, rfl, by rw [ht]; exact hP, hD⟩, hS.F ht⟩) hS.2.2 dX7_isNarrower_128
    )
  unfold f_X7_isNarrower at hf
  refine lv_aload_n hx hb dX7_isNarrower_0 rfl (lv_at hl 0 rfl) ?_
  refine lv_iload_n hx hb dX7_isNarrower_1 rfl (lv_at hl 1 rfl) ?_
  refine lv_iload_n hx hb dX7_isNarrower_2 rfl (lv_at hl 2 rfl) ?_
  obtain ⟨r3, hc3, hf⟩ := zq_bind hf
  refine zcallVi (wr := [eA mQlowUp (cy 0) 7 mLU, eA mQlowDown (cy 0) 7 mLD]) (rest := []) ⟨hx, hb, hml, hown, hts⟩ (c_X7_leastOf l D cy mO mQtext mQnow mQfresh mQwas mQisKept mQkept mQheard mQnumber mQlowUp mQlowDown mQhighUp mQhighDown mQseen mQfirst s.heap.size p1 p2 mth mmany mcur mst mtok mval macts mlev memp mNow mHU mHD hc3) (cwV 2 hts gX7_isNarrower_X7_leastOf rfl rfl rfl (by decide +kernel) ⟨Nat.le_of_ble_eq_true rfl, Nat.le_of_ble_eq_true rfl⟩) hK hP hD hS hA [0, 1, 4, 5] [2, 3] rfl rfl rfl rfl (by decide) (va_recv hK.1 hP (ci := 6) (q0 := 0) rfl rfl) rfl hl.1 rfl (Nat.le_of_ble_eq_true rfl) dX7_isNarrower_3 ⟨Nat.zero_le _, Nat.zero_le _⟩ (fun H locs hP hD hS => ?_)
  have hP : va_P D vwCl [eO mO 6 [.int (zI mth), .ref mQtext, .int (zI mmany), .int (zI mcur), .int (zI mst), .int (zI mtok), .int (zI mval), .ref mQnow, .ref mQfresh, .ref mQwas, .int (zI macts), .ref mQisKept, .ref mQkept, .ref mQheard, .ref mQnumber, .ref mQlowUp, .ref mQlowDown, .ref mQhighUp, .ref mQhighDown, .int (zI mlev), .ref mQseen, .int (zI memp), .ref mQfirst], eA mQnow (cy 0) 11 mNow, eA mQlowUp (cy 0) 7 mLU, eA mQlowDown (cy 0) 7 mLD, eA mQhighUp (cy 0) 7 mHU, eA mQhighDown (cy 0) 7 mHD] H := hP.sub [2, 3, 0, 1, 4, 5] rfl
  have hD : va_D A [eO mO 6 [.int (zI mth), .ref mQtext, .int (zI mmany), .int (zI mcur), .int (zI mst), .int (zI mtok), .int (zI mval), .ref mQnow, .ref mQfresh, .ref mQwas, .int (zI macts), .ref mQisKept, .ref mQkept, .ref mQheard, .ref mQnumber, .ref mQlowUp, .ref mQlowDown, .ref mQhighUp, .ref mQhighDown, .int (zI mlev), .ref mQseen, .int (zI memp), .ref mQfirst], eA mQnow (cy 0) 11 mNow, eA mQlowUp (cy 0) 7 mLU, eA mQlowDown (cy 0) 7 mLD, eA mQhighUp (cy 0) 7 mHU, eA mQhighDown (cy 0) 7 mHD] := hD.sub [2, 3, 0, 1, 4, 5] rfl rfl
  refine lv_istore_n (lv' := [(3, .int (zI r3)), (0, .ref mO), (1, .int (zI p1)), (2, .int (zI p2))]) hx hb dX7_isNarrower_6 rfl hl (by decide) rfl (fun ls hl => ?_)
  refine lv_aload_n hx hb dX7_isNarrower_7 rfl (lv_at hl 1 rfl) ?_
  refine va_get (D := D) (ci := 6) (v := .ref mQnow) (C := RX7) (T := TX7) (N := 23) hx hb hts u_X7_isNarrower_X7 hown hK.1 hP 0 rfl rfl 7 (by decide) (hts _ m_X7_isNarrower_1) (fun _ h9 => h9) rfl dX7_isNarrower_8 ?_
  refine lv_iload_n hx hb dX7_isNarrower_11 rfl (lv_at hl 2 rfl) ?_
  refine lv_iload_n hx hb dX7_isNarrower_12 rfl (lv_at hl 3 rfl) ?_
  obtain ⟨r13, hc13, hf⟩ := zq_bind hf
  refine zcallSi (wr := [eO mO 6 [.int (zI mth), .ref mQtext, .int (zI mmany), .int (zI mcur), .int (zI mst), .int (zI mtok), .int (zI mval), .ref mQnow, .ref mQfresh, .ref mQwas, .int (zI macts), .ref mQisKept, .ref mQkept, .ref mQheard, .ref mQnumber, .ref mQlowUp, .ref mQlowDown, .ref mQhighUp, .ref mQhighDown, .int (zI mlev), .ref mQseen, .int (zI memp), .ref mQfirst], eA mQlowUp (cy 0) 7 mLU, eA mQlowDown (cy 0) 7 mLD, eA mQhighUp (cy 0) 7 mHU, eA mQhighDown (cy 0) 7 mHD]) (rest := []) ⟨hx, hb, hml, hown, hts⟩ (c_X7_apart l D cy mQnow H.size p1 p2 mNow hc13) (va_cwS 3 hts gX7_isNarrower_X7_apart rfl rfl rfl (by decide +kernel) ⟨Nat.le_of_ble_eq_true rfl, Nat.le_of_ble_eq_true rfl⟩) hK hP hD hS hA [1] [0, 2, 3, 4, 5] rfl rfl rfl rfl (by decide) rfl hl.1 rfl (Nat.le_of_ble_eq_true rfl) dX7_isNarrower_13 ⟨Nat.zero_le _, Nat.zero_le _⟩ (fun H locs hP hD hS => ?_)
  have hP : va_P D vwCl [eO mO 6 [.int (zI mth), .ref mQtext, .int (zI mmany), .int (zI mcur), .int (zI mst), .int (zI mtok), .int (zI mval), .ref mQnow, .ref mQfresh, .ref mQwas, .int (zI macts), .ref mQisKept, .ref mQkept, .ref mQheard, .ref mQnumber, .ref mQlowUp, .ref mQlowDown, .ref mQhighUp, .ref mQhighDown, .int (zI mlev), .ref mQseen, .int (zI memp), .ref mQfirst], eA mQnow (cy 0) 11 mNow, eA mQlowUp (cy 0) 7 mLU, eA mQlowDown (cy 0) 7 mLD, eA mQhighUp (cy 0) 7 mHU, eA mQhighDown (cy 0) 7 mHD] H := hP.sub [0, 5, 1, 2, 3, 4] rfl
  have hD : va_D A [eO mO 6 [.int (zI mth), .ref mQtext, .int (zI mmany), .int (zI mcur), .int (zI mst), .int (zI mtok), .int (zI mval), .ref mQnow, .ref mQfresh, .ref mQwas, .int (zI macts), .ref mQisKept, .ref mQkept, .ref mQheard, .ref mQnumber, .ref mQlowUp, .ref mQlowDown, .ref mQhighUp, .ref mQhighDown, .int (zI mlev), .ref mQseen, .int (zI memp), .ref mQfirst], eA mQnow (cy 0) 11 mNow, eA mQlowUp (cy 0) 7 mLU, eA mQlowDown (cy 0) 7 mLD, eA mQhighUp (cy 0) 7 mHU, eA mQhighDown (cy 0) 7 mHD] := hD.sub [0, 5, 1, 2, 3, 4] rfl rfl
  refine lv_iconst (v := zI 2) hx hb dX7_isNarrower_16 rfl ?_
  refine lv_aload_n hx hb dX7_isNarrower_17 rfl (lv_at hl 1 rfl) ?_
  refine va_get (D := D) (ci := 6) (v := .ref mQnow) (C := RX7) (T := TX7) (N := 23) hx hb hts u_X7_isNarrower_X7 hown hK.1 hP 0 rfl rfl 7 (by decide) (hts _ m_X7_isNarrower_1) (fun _ h9 => h9) rfl dX7_isNarrower_18 ?_
  refine lv_iconst (v := zI 3) hx hb dX7_isNarrower_21 rfl ?_
  refine zz_iald (i := 3) hx hb hK hP 1 rfl (Nat.le_of_ble_eq_true rfl) (by decide) dX7_isNarrower_22 ?_
  refine zz_imul hx hb dX7_isNarrower_23 ?_
  refine zz_isub hx hb dX7_isNarrower_24 ?_
  obtain ⟨v25, e25, hf⟩ := zq_lt hf
  refine zz_top e25 ?_
  refine lv_istore (lv' := [(4, .int (zI v25)), (3, .int (zI r3)), (0, .ref mO), (1, .int (zI p1)), (2, .int (zI p2))]) hx hb dX7_isNarrower_25 hl (by decide) rfl (fun ls hl => ?_)
  refine lv_aload_n hx hb dX7_isNarrower_27 rfl (lv_at hl 2 rfl) ?_
  refine va_get (D := D) (ci := 6) (v := .ref mQnow) (C := RX7) (T := TX7) (N := 23) hx hb hts u_X7_isNarrower_X7 hown hK.1 hP 0 rfl rfl 7 (by decide) (hts _ m_X7_isNarrower_1) (fun _ h9 => h9) rfl dX7_isNarrower_28 ?_
  refine lv_iload_n hx hb dX7_isNarrower_31 rfl (lv_at hl 3 rfl) ?_
  refine lv_iload_n hx hb dX7_isNarrower_32 rfl (lv_at hl 4 rfl) ?_
  obtain ⟨r33, hc33, hf⟩ := zq_bind hf
  refine zcallSi (wr := [eO mO 6 [.int (zI mth), .ref mQtext, .int (zI mmany), .int (zI mcur), .int (zI mst), .int (zI mtok), .int (zI mval), .ref mQnow, .ref mQfresh, .ref mQwas, .int (zI macts), .ref mQisKept, .ref mQkept, .ref mQheard, .ref mQnumber, .ref mQlowUp, .ref mQlowDown, .ref mQhighUp, .ref mQhighDown, .int (zI mlev), .ref mQseen, .int (zI memp), .ref mQfirst], eA mQlowUp (cy 0) 7 mLU, eA mQlowDown (cy 0) 7 mLD, eA mQhighUp (cy 0) 7 mHU, eA mQhighDown (cy 0) 7 mHD]) (rest := []) ⟨hx, hb, hml, hown, hts⟩ (c_X7_apart l D cy mQnow H.size p1 p2 mNow hc33) (va_cwS 3 hts gX7_isNarrower_X7_apart rfl rfl rfl (by decide +kernel) ⟨Nat.le_of_ble_eq_true rfl, Nat.le_of_ble_eq_true rfl⟩) hK hP hD hS hA [1] [0, 2, 3, 4, 5] rfl rfl rfl rfl (by decide) rfl hl.1 rfl (Nat.le_of_ble_eq_true rfl) dX7_isNarrower_33 ⟨Nat.zero_le _, Nat.zero_le _⟩ (fun H locs hP hD hS => ?_)
  have hP : va_P D vwCl [eO mO 6 [.int (zI mth), .ref mQtext, .int (zI mmany), .int (zI mcur), .int (zI mst), .int (zI mtok), .int (zI mval), .ref mQnow, .ref mQfresh, .ref mQwas, .int (zI macts), .ref mQisKept, .ref mQkept, .ref mQheard, .ref mQnumber, .ref mQlowUp, .ref mQlowDown, .ref mQhighUp, .ref mQhighDown, .int (zI mlev), .ref mQseen, .int (zI memp), .ref mQfirst], eA mQnow (cy 0) 11 mNow, eA mQlowUp (cy 0) 7 mLU, eA mQlowDown (cy 0) 7 mLD, eA mQhighUp (cy 0) 7 mHU, eA mQhighDown (cy 0) 7 mHD] H := hP.sub [0, 5, 1, 2, 3, 4] rfl
  have hD : va_D A [eO mO 6 [.int (zI mth), .ref mQtext, .int (zI mmany), .int (zI mcur), .int (zI mst), .int (zI mtok), .int (zI mval), .ref mQnow, .ref mQfresh, .ref mQwas, .int (zI macts), .ref mQisKept, .ref mQkept, .ref mQheard, .ref mQnumber, .ref mQlowUp, .ref mQlowDown, .ref mQhighUp, .ref mQhighDown, .int (zI mlev), .ref mQseen, .int (zI memp), .ref mQfirst], eA mQnow (cy 0) 11 mNow, eA mQlowUp (cy 0) 7 mLU, eA mQlowDown (cy 0) 7 mLD, eA mQhighUp (cy 0) 7 mHU, eA mQhighDown (cy 0) 7 mHD] := hD.sub [0, 5, 1, 2, 3, 4] rfl rfl
  refine lv_iconst (v := zI 2) hx hb dX7_isNarrower_36 rfl ?_
  refine lv_aload_n hx hb dX7_isNarrower_37 rfl (lv_at hl 2 rfl) ?_
  refine va_get (D := D) (ci := 6) (v := .ref mQnow) (C := RX7) (T := TX7) (N := 23) hx hb hts u_X7_isNarrower_X7 hown hK.1 hP 0 rfl rfl 7 (by decide) (hts _ m_X7_isNarrower_1) (fun _ h9 => h9) rfl dX7_isNarrower_38 ?_
  refine lv_iconst (v := zI 3) hx hb dX7_isNarrower_41 rfl ?_
  refine zz_iald (i := 3) hx hb hK hP 1 rfl (Nat.le_of_ble_eq_true rfl) (by decide) dX7_isNarrower_42 ?_
  refine zz_imul hx hb dX7_isNarrower_43 ?_
  refine zz_iadd hx hb dX7_isNarrower_44 ?_
  obtain ⟨v45, e45, hf⟩ := zq_lt hf
  refine zz_top e45 ?_
  refine lv_istore (lv' := [(5, .int (zI v45)), (4, .int (zI v25)), (3, .int (zI r3)), (0, .ref mO), (1, .int (zI p1)), (2, .int (zI p2))]) hx hb dX7_isNarrower_45 hl (by decide) rfl (fun ls hl => ?_)
  refine lv_iconst (v := zI 0) hx hb dX7_isNarrower_47 rfl ?_
  refine lv_istore (lv' := [(6, .int (zI 0)), (5, .int (zI v45)), (4, .int (zI v25)), (3, .int (zI r3)), (0, .ref mO), (1, .int (zI p1)), (2, .int (zI p2))]) hx hb dX7_isNarrower_48 hl (by decide) rfl (fun ls hl => ?_)
  refine lv_iload hx hb dX7_isNarrower_50 (lv_at hl 2 rfl) ?_
  refine lv_aload_n hx hb dX7_isNarrower_52 rfl (lv_at hl 4 rfl) ?_
  refine va_get (D := D) (ci := 6) (v := .ref mQlowDown) (C := RX7) (T := TX7) (N := 23) hx hb hts u_X7_isNarrower_X7 hown hK.1 hP 0 rfl rfl 16 (by decide) (hts _ m_X7_isNarrower_2) (fun _ h9 => h9) rfl dX7_isNarrower_53 ?_
  refine lv_iconst (v := zI 0) hx hb dX7_isNarrower_56 rfl ?_
  refine zz_iald (i := 0) hx hb hK hP 3 rfl (Nat.le_of_ble_eq_true rfl) (by decide) dX7_isNarrower_57 ?_
  refine zz_imul hx hb dX7_isNarrower_58 ?_
  refine lv_aload_n hx hb dX7_isNarrower_59 rfl (lv_at hl 4 rfl) ?_
  refine va_get (D := D) (ci := 6) (v := .ref mQlowUp) (C := RX7) (T := TX7) (N := 23) hx hb hts u_X7_isNarrower_X7 hown hK.1 hP 0 rfl rfl 15 (by decide) (hts _ m_X7_isNarrower_3) (fun _ h9 => h9) rfl dX7_isNarrower_60 ?_
  refine lv_iconst (v := zI 0) hx hb dX7_isNarrower_63 rfl ?_
  refine zz_iald (i := 0) hx hb hK hP 2 rfl (Nat.le_of_ble_eq_true rfl) (by decide) dX7_isNarrower_64 ?_
  refine lv_iload_n hx hb dX7_isNarrower_65 rfl (lv_at hl 3 rfl) ?_
  refine zz_imul hx hb dX7_isNarrower_66 ?_
  refine zz_icmp_le (tgt := 88) hx hb dX7_isNarrower_67 (by decide) hf (fun hc hf => ?_) (fun hc hf => ?_)
  · exact key _ (zq_eq hf) _ _ _ hP hD hS (lv_sub hl [4, 5, 6, 3, 2, 1, 0] rfl)
  · refine lv_aload_n hx hb dX7_isNarrower_70 rfl (lv_at hl 4 rfl) ?_
    refine va_get (D := D) (ci := 6) (v := .ref mQlowUp) (C := RX7) (T := TX7) (N := 23) hx hb hts u_X7_isNarrower_X7 hown hK.1 hP 0 rfl rfl 15 (by decide) (hts _ m_X7_isNarrower_3) (fun _ h9 => h9) rfl dX7_isNarrower_71 ?_
    refine lv_iconst (v := zI 0) hx hb dX7_isNarrower_74 rfl ?_
    refine lv_iload hx hb dX7_isNarrower_75 (lv_at hl 2 rfl) ?_
    refine zz_iast (i := 0) hx hb hK hP hD hS 2 rfl (Nat.le_of_ble_eq_true rfl) (by decide) dX7_isNarrower_77 (fun H locs hP hD hS => ?_)
    have hP : va_P D vwCl [eO mO 6 [.int (zI mth), .ref mQtext, .int (zI mmany), .int (zI mcur), .int (zI mst), .int (zI mtok), .int (zI mval), .ref mQnow, .ref mQfresh, .ref mQwas, .int (zI macts), .ref mQisKept, .ref mQkept, .ref mQheard, .ref mQnumber, .ref mQlowUp, .ref mQlowDown, .ref mQhighUp, .ref mQhighDown, .int (zI mlev), .ref mQseen, .int (zI memp), .ref mQfirst], eA mQnow (cy 0) 11 mNow, eA mQlowUp (cy 0) 7 (zup mLU 0 v25), eA mQlowDown (cy 0) 7 mLD, eA mQhighUp (cy 0) 7 mHU, eA mQhighDown (cy 0) 7 mHD] H := hP
    have hD : va_D A [eO mO 6 [.int (zI mth), .ref mQtext, .int (zI mmany), .int (zI mcur), .int (zI mst), .int (zI mtok), .int (zI mval), .ref mQnow, .ref mQfresh, .ref mQwas, .int (zI macts), .ref mQisKept, .ref mQkept, .ref mQheard, .ref mQnumber, .ref mQlowUp, .ref mQlowDown, .ref mQhighUp, .ref mQhighDown, .int (zI mlev), .ref mQseen, .int (zI memp), .ref mQfirst], eA mQnow (cy 0) 11 mNow, eA mQlowUp (cy 0) 7 (zup mLU 0 v25), eA mQlowDown (cy 0) 7 mLD, eA mQhighUp (cy 0) 7 mHU, eA mQhighDown (cy 0) 7 mHD] := hD
    refine lv_aload_n hx hb dX7_isNarrower_78 rfl (lv_at hl 4 rfl) ?_
    refine va_get (D := D) (ci := 6) (v := .ref mQlowDown) (C := RX7) (T := TX7) (N := 23) hx hb hts u_X7_isNarrower_X7 hown hK.1 hP 0 rfl rfl 16 (by decide) (hts _ m_X7_isNarrower_2) (fun _ h9 => h9) rfl dX7_isNarrower_79 ?_
    refine lv_iconst (v := zI 0) hx hb dX7_isNarrower_82 rfl ?_
    refine lv_iload_n hx hb dX7_isNarrower_83 rfl (lv_at hl 3 rfl) ?_
    refine zz_iast (i := 0) hx hb hK hP hD hS 3 rfl (Nat.le_of_ble_eq_true rfl) (by decide) dX7_isNarrower_84 (fun H locs hP hD hS => ?_)
    have hP : va_P D vwCl [eO mO 6 [.int (zI mth), .ref mQtext, .int (zI mmany), .int (zI mcur), .int (zI mst), .int (zI mtok), .int (zI mval), .ref mQnow, .ref mQfresh, .ref mQwas, .int (zI macts), .ref mQisKept, .ref mQkept, .ref mQheard, .ref mQnumber, .ref mQlowUp, .ref mQlowDown, .ref mQhighUp, .ref mQhighDown, .int (zI mlev), .ref mQseen, .int (zI memp), .ref mQfirst], eA mQnow (cy 0) 11 mNow, eA mQlowUp (cy 0) 7 (zup mLU 0 v25), eA mQlowDown (cy 0) 7 (zup mLD 0 r3), eA mQhighUp (cy 0) 7 mHU, eA mQhighDown (cy 0) 7 mHD] H := hP
    have hD : va_D A [eO mO 6 [.int (zI mth), .ref mQtext, .int (zI mmany), .int (zI mcur), .int (zI mst), .int (zI mtok), .int (zI mval), .ref mQnow, .ref mQfresh, .ref mQwas, .int (zI macts), .ref mQisKept, .ref mQkept, .ref mQheard, .ref mQnumber, .ref mQlowUp, .ref mQlowDown, .ref mQhighUp, .ref mQhighDown, .int (zI mlev), .ref mQseen, .int (zI memp), .ref mQfirst], eA mQnow (cy 0) 11 mNow, eA mQlowUp (cy 0) 7 (zup mLU 0 v25), eA mQlowDown (cy 0) 7 (zup mLD 0 r3), eA mQhighUp (cy 0) 7 mHU, eA mQhighDown (cy 0) 7 mHD] := hD
    refine lv_iconst (v := zI 1) hx hb dX7_isNarrower_85 rfl ?_
    refine lv_istore (lv' := [(6, .int (zI 1)), (5, .int (zI v45)), (4, .int (zI v25)), (3, .int (zI r3)), (0, .ref mO), (1, .int (zI p1)), (2, .int (zI p2))]) hx hb dX7_isNarrower_86 hl (by decide) rfl (fun ls hl => ?_)
    exact key _ (zq_eq hf) _ _ _ hP hD hS (lv_sub hl [4, 5, 6, 3, 2, 1, 0] rfl)

noncomputable def st_X7_narrow (mNow : Nat → Int) : (Nat × Int × Int × Int × Int × Int × Int × (Nat → Int) × (Nat → Int) × (Nat → Int) × (Nat → Int) × (Nat → Int) × (Nat → Int)) → Option ((Nat × Int × Int × Int × Int × Int × Int × (Nat → Int) × (Nat → Int) × (Nat → Int) × (Nat → Int) × (Nat → Int) × (Nat → Int)) ⊕ (Int × Int × (Nat → Int) × (Nat → Int) × (Nat → Int) × (Nat → Int) × (Nat → Int) × (Nat → Int))) := fun v => match v with
  | (0, x1, x2, x3, x4, mlev, memp, mHeard, mNum, mLU, mLD, mHU, mHD) =>
  gd (zR x1) <|
  if x1 = 0 then
    some (.inr (mlev, memp, mHeard, mNum, mLU, mLD, mHU, mHD))
  else
    gd (zR memp) <|
    if memp = 0 then
      some (.inl (1, 0, 0, 0, 0, mlev, memp, mHeard, mNum, mLU, mLD, mHU, mHD))
    else
      some (.inr (mlev, memp, mHeard, mNum, mLU, mLD, mHU, mHD))
  | (1, x1, x2, x3, x4, mlev, memp, mHeard, mNum, mLU, mLD, mHU, mHD) =>
  gd (zR x2 ∧ zR (mNow 0)) <|
  if x2 < (mNow 0) then
    gd (zR memp) <|
    if memp = 0 then
      zlt (x2 + 1) fun v50 =>
      some (.inl (2, x1, x2, v50, 0, mlev, memp, mHeard, mNum, mLU, mLD, mHU, mHD))
    else
      some (.inl (0, x1, 0, 0, 0, mlev, memp, mHeard, mNum, mLU, mLD, mHU, mHD))
  else
    some (.inl (0, x1, 0, 0, 0, mlev, memp, mHeard, mNum, mLU, mLD, mHU, mHD))
  | (2, x1, x2, x3, x4, mlev, memp, mHeard, mNum, mLU, mLD, mHU, mHD) =>
  gd (zR x3 ∧ zR (mNow 0)) <|
  if x3 < (mNow 0) then
    gd (zR memp) <|
    if memp = 0 then
      (f_X7_countsOf x2 x3 mNow mLU mLD mHU mHD).bind fun r71 =>
      gd (zR r71 ∧ zR 1) <|
      if r71 = 1 then
        (f_X7_isNarrower x2 x3 mNow mLU mLD mHU mHD).bind fun (r85, mLU_85, mLD_85, mHU_85, mHD_85) =>
        gd (zR r85) <|
        if r85 = 0 then
          some (.inl (3, x1, x2, x3, r71, mlev, memp, mHeard, mNum, mLU_85, mLD_85, mHU_85, mHD_85))
        else
          some (.inl (4, x1, x2, x3, r71, mlev, memp, mHeard, mNum, mLU_85, mLD_85, mHU_85, mHD_85))
      else
        some (.inl (3, x1, x2, x3, r71, mlev, memp, mHeard, mNum, mLU, mLD, mHU, mHD))
    else
      some (.inl (1, x1, (x2 + 1), 0, 0, mlev, memp, mHeard, mNum, mLU, mLD, mHU, mHD))
  else
    some (.inl (1, x1, (x2 + 1), 0, 0, mlev, memp, mHeard, mNum, mLU, mLD, mHU, mHD))
  | (3, x1, x2, x3, x4, mlev, memp, mHeard, mNum, mLU, mLD, mHU, mHD) =>
  gd (zR x1) <|
  if x1 = 0 then
    gd (zR x4) <|
    if x4 = 0 then
      some (.inl (2, 0, x2, (x3 + 1), 0, mlev, 1, mHeard, mNum, mLU, mLD, mHU, mHD))
    else
      gd (zR ((mLU 0) * (mHD 0)) ∧ zR ((mHU 0) * (mLD 0))) <|
      if ((mLU 0) * (mHD 0)) ≤ ((mHU 0) * (mLD 0)) then
        some (.inl (2, 0, x2, (x3 + 1), 0, mlev, 0, mHeard, mNum, mLU, mLD, mHU, mHD))
      else
        some (.inl (2, 0, x2, (x3 + 1), 0, mlev, 1, mHeard, mNum, mLU, mLD, mHU, mHD))
  else
    some (.inl (4, x1, x2, x3, x4, mlev, memp, mHeard, mNum, mLU, mLD, mHU, mHD))
  | (4, x1, x2, x3, x4, mlev, memp, mHeard, mNum, mLU, mLD, mHU, mHD) =>
  gd (zR x4) <|
  if x4 = 0 then
    some (.inl (2, 1, x2, (x3 + 1), 0, mlev, 1, mHeard, mNum, mLU, mLD, mHU, mHD))
  else
    gd (zR ((mLU 0) * (mHD 0)) ∧ zR ((mHU 0) * (mLD 0))) <|
    if ((mLU 0) * (mHD 0)) ≤ ((mHU 0) * (mLD 0)) then
      some (.inl (2, 1, x2, (x3 + 1), 0, mlev, 0, mHeard, mNum, mLU, mLD, mHU, mHD))
    else
      some (.inl (2, 1, x2, (x3 + 1), 0, mlev, 1, mHeard, mNum, mLU, mLD, mHU, mHD))
  | _ => none
noncomputable def f_X7_narrow (mNow : Nat → Int) (mHeard : Nat → Int) (mNum : Nat → Int) (mLU : Nat → Int) (mLD : Nat → Int) (mHU : Nat → Int) (mHD : Nat → Int) : Option (Int × Int × (Nat → Int) × (Nat → Int) × (Nat → Int) × (Nat → Int) × (Nat → Int) × (Nat → Int)) :=
  (f_X7_begin_n mNow mHeard mNum mLU mLD mHU mHD).bind fun (mlev_5, mHeard_5, mNum_5, mLU_5, mLD_5, mHU_5, mHD_5) =>
  zev (st_X7_narrow mNow) (0, 1, 0, 0, 0, mlev_5, 0, mHeard_5, mNum_5, mLU_5, mLD_5, mHU_5, mHD_5)
theorem m_X7_narrow_1 : (.fieldLink RX7 46 "PulseTurnsModel" "now" "[I" : Cond) ∈ wsX7_narrow := List.mem_of_getElem? (i := 1) rfl
theorem m_X7_narrow_2 : (.fieldLink RX7 190 "PulseTurnsModel" "empty" "Z" : Cond) ∈ wsX7_narrow := List.mem_of_getElem? (i := 2) rfl
theorem m_X7_narrow_3 : (.fieldLink RX7 68 "PulseTurnsModel" "lowUp" "[I" : Cond) ∈ wsX7_narrow := List.mem_of_getElem? (i := 3) rfl
theorem m_X7_narrow_4 : (.fieldLink RX7 77 "PulseTurnsModel" "highDown" "[I" : Cond) ∈ wsX7_narrow := List.mem_of_getElem? (i := 4) rfl
theorem m_X7_narrow_5 : (.fieldLink RX7 74 "PulseTurnsModel" "highUp" "[I" : Cond) ∈ wsX7_narrow := List.mem_of_getElem? (i := 5) rfl
theorem m_X7_narrow_6 : (.fieldLink RX7 71 "PulseTurnsModel" "lowDown" "[I" : Cond) ∈ wsX7_narrow := List.mem_of_getElem? (i := 6) rfl
theorem u_X7_narrow_X7 : ∀ w ∈ wsX70, w ∈ wsX7_narrow := fun w h => List.mem_cons_of_mem _ (List.mem_append_right _ h)
set_option maxRecDepth 100000 in
set_option maxHeartbeats 4000000 in
theorem c_X7_narrow (l : Launch) (D : va_G) (cy : Nat → ClassId) (mO mQtext mQnow mQfresh mQwas mQisKept mQkept mQheard mQnumber mQlowUp mQlowDown mQhighUp mQhighDown mQseen mQfirst : Nat) (sz : Nat) (mth : Int) (mmany : Int) (mcur : Int) (mst : Int) (mtok : Int) (mval : Int) (macts : Int) (mlev : Int) (memp : Int) (mNow : Nat → Int) (mHeard : Nat → Int) (mNum : Nat → Int) (mLU : Nat → Int) (mLD : Nat → Int) (mHU : Nat → Int) (mHD : Nat → Int) {mlev' : Int} {memp' : Int} {mHeard' : Nat → Int} {mNum' : Nat → Int} {mLU' : Nat → Int} {mLD' : Nat → Int} {mHU' : Nat → Int} {mHD' : Nat → Int} (hf : f_X7_narrow mNow mHeard mNum mLU mLD mHU mHD = some (mlev', memp', mHeard', mNum', mLU', mLD', mHU', mHD')) : zMv l yX7_narrow wsX7_narrow ({ frames := 3, cells := 0, slots := 0, locals := 72 }) D cy sz [.ref mO] [eO mO 6 [.int (zI mth), .ref mQtext, .int (zI mmany), .int (zI mcur), .int (zI mst), .int (zI mtok), .int (zI mval), .ref mQnow, .ref mQfresh, .ref mQwas, .int (zI macts), .ref mQisKept, .ref mQkept, .ref mQheard, .ref mQnumber, .ref mQlowUp, .ref mQlowDown, .ref mQhighUp, .ref mQhighDown, .int (zI mlev), .ref mQseen, .int (zI memp), .ref mQfirst], eA mQnow (cy 0) 11 mNow, eA mQheard (cy 0) 11 mHeard, eA mQnumber (cy 0) 7 mNum, eA mQlowUp (cy 0) 7 mLU, eA mQlowDown (cy 0) 7 mLD, eA mQhighUp (cy 0) 7 mHU, eA mQhighDown (cy 0) 7 mHD] [eO mO 6 [.int (zI mth), .ref mQtext, .int (zI mmany), .int (zI mcur), .int (zI mst), .int (zI mtok), .int (zI mval), .ref mQnow, .ref mQfresh, .ref mQwas, .int (zI macts), .ref mQisKept, .ref mQkept, .ref mQheard, .ref mQnumber, .ref mQlowUp, .ref mQlowDown, .ref mQhighUp, .ref mQhighDown, .int (zI mlev'), .ref mQseen, .int (zI memp'), .ref mQfirst], eA mQnow (cy 0) 11 mNow, eA mQheard (cy 0) 11 mHeard', eA mQnumber (cy 0) 7 mNum', eA mQlowUp (cy 0) 7 mLU', eA mQlowDown (cy 0) 7 mLD', eA mQhighUp (cy 0) 7 mHU', eA mQhighDown (cy 0) 7 mHD'] := by
  refine Met.ofW (cc := cX7_narrow) (maxL := 5) (ret := none) (by decide) rfl ?_
  intro p e s m args below meth c s₁ B hml hv
  obtain ⟨rfl, hsz, hP, hK, hD0⟩ := hv
  have hx := B.exec
  have hb := B.bytes
  have hr := B.returns
  have hts := atoms_spec (ws := wsX7_narrow) B.pre
  have hown : s.vm.findClass RX7 = some m.cls := findClass_of_methodNamed B.named
  have hlocks := B.notSynchronized
  subst hsz
  have hD := hD0.self (sz := s.heap.size)
  generalize hAe : va_A [eO mO 6 [.int (zI mth), .ref mQtext, .int (zI mmany), .int (zI mcur), .int (zI mst), .int (zI mtok), .int (zI mval), .ref mQnow, .ref mQfresh, .ref mQwas, .int (zI macts), .ref mQisKept, .ref mQkept, .ref mQheard, .ref mQnumber, .ref mQlowUp, .ref mQlowDown, .ref mQhighUp, .ref mQhighDown, .int (zI mlev), .ref mQseen, .int (zI memp), .ref mQfirst], eA mQnow (cy 0) 11 mNow, eA mQheard (cy 0) 11 mHeard, eA mQnumber (cy 0) 7 mNum, eA mQlowUp (cy 0) 7 mLU, eA mQlowDown (cy 0) 7 mLD, eA mQhighUp (cy 0) 7 mHU, eA mQhighDown (cy 0) 7 mHD] s.heap.size = A at hD ⊢
  have hA : ∀ q : Nat, s.heap.size ≤ q → A q := fun q h => by rw [← hAe]; exact Or.inr h
  have hS : va_S A s.heap s.heap [] := va_S.rf
  have hl := lv_entry ([.ref mO]) (n := 5) (Nat.le_of_ble_eq_true rfl)
  rw [lg_entry_eq]
  generalize (lg_sl ([.ref mO]) ++ List.replicate (5 - (lg_sl ([.ref mO])).length) Slot.unset).toArray = ls at hl ⊢
  have hl : lv_has ls 5 [(0, .ref mO)] := hl
  have hf := zq_of hf
  have key := zloop (st := st_X7_narrow mNow) (res := (mlev', memp', mHeard', mNum', mLU', mLD', mHU', mHD')) (K := fun v => match v with
    | (0, x1, x2, x3, x4, mlev, memp, mHeard, mNum, mLU, mLD, mHU, mHD) => ∀ (H : Heap) (locs : List Loc) (ls : Array Slot), va_P D vwCl [eO mO 6 [.int (zI mth), .ref mQtext, .int (zI mmany), .int (zI mcur), .int (zI mst), .int (zI mtok), .int (zI mval), .ref mQnow, .ref mQfresh, .ref mQwas, .int (zI macts), .ref mQisKept, .ref mQkept, .ref mQheard, .ref mQnumber, .ref mQlowUp, .ref mQlowDown, .ref mQhighUp, .ref mQhighDown, .int (zI mlev), .ref mQseen, .int (zI memp), .ref mQfirst], eA mQnow (cy 0) 11 mNow, eA mQheard (cy 0) 11 mHeard, eA mQnumber (cy 0) 7 mNum, eA mQlowUp (cy 0) 7 mLU, eA mQlowDown (cy 0) 7 mLD, eA mQhighUp (cy 0) 7 mHU, eA mQhighDown (cy 0) 7 mHD] H → va_D A [eO mO 6 [.int (zI mth), .ref mQtext, .int (zI mmany), .int (zI mcur), .int (zI mst), .int (zI mtok), .int (zI mval), .ref mQnow, .ref mQfresh, .ref mQwas, .int (zI macts), .ref mQisKept, .ref mQkept, .ref mQheard, .ref mQnumber, .ref mQlowUp, .ref mQlowDown, .ref mQhighUp, .ref mQhighDown, .int (zI mlev), .ref mQseen, .int (zI memp), .ref mQfirst], eA mQnow (cy 0) 11 mNow, eA mQheard (cy 0) 11 mHeard, eA mQnumber (cy 0) 7 mNum, eA mQlowUp (cy 0) 7 mLU, eA mQlowDown (cy 0) 7 mLD, eA mQhighUp (cy 0) 7 mHU, eA mQhighDown (cy 0) 7 mHD] → va_S A s.heap H locs → lv_has ls 5 [(0, .ref mO), (1, .int (zI x1))] → zGv p l e wsX7_narrow ({ frames := 3, cells := 0, slots := 0, locals := 72 }) s m [.ref mO] below meth c A D [eO mO 6 [.int (zI mth), .ref mQtext, .int (zI mmany), .int (zI mcur), .int (zI mst), .int (zI mtok), .int (zI mval), .ref mQnow, .ref mQfresh, .ref mQwas, .int (zI macts), .ref mQisKept, .ref mQkept, .ref mQheard, .ref mQnumber, .ref mQlowUp, .ref mQlowDown, .ref mQhighUp, .ref mQhighDown, .int (zI mlev'), .ref mQseen, .int (zI memp'), .ref mQfirst], eA mQnow (cy 0) 11 mNow, eA mQheard (cy 0) 11 mHeard', eA mQnumber (cy 0) 7 mNum', eA mQlowUp (cy 0) 7 mLU', eA mQlowDown (cy 0) 7 mLD', eA mQhighUp (cy 0) 7 mHU', eA mQhighDown (cy 0) 7 mHD'] H locs (F0 m 15 ls [])
    | (1, x1, x2, x3, x4, mlev, memp, mHeard, mNum, mLU, mLD, mHU, mHD) => ∀ (H : Heap) (locs : List Loc) (ls : Array Slot), va_P D vwCl [eO mO 6 [.int (zI mth), .ref mQtext, .int (zI mmany), .int (zI mcur), .int (zI mst), .int (zI mtok), .int (zI mval), .ref mQnow, .ref mQfresh, .ref mQwas, .int (zI macts), .ref mQisKept, .ref mQkept, .ref mQheard, .ref mQnumber, .ref mQlowUp, .ref mQlowDown, .ref mQhighUp, .ref mQhighDown, .int (zI mlev), .ref mQseen, .int (zI memp), .ref mQfirst], eA mQnow (cy 0) 11 mNow, eA mQheard (cy 0) 11 mHeard, eA mQnumber (cy 0) 7 mNum, eA mQlowUp (cy 0) 7 mLU, eA mQlowDown (cy 0) 7 mLD, eA mQhighUp (cy 0) 7 mHU, eA mQhighDown (cy 0) 7 mHD] H → va_D A [eO mO 6 [.int (zI mth), .ref mQtext, .int (zI mmany), .int (zI mcur), .int (zI mst), .int (zI mtok), .int (zI mval), .ref mQnow, .ref mQfresh, .ref mQwas, .int (zI macts), .ref mQisKept, .ref mQkept, .ref mQheard, .ref mQnumber, .ref mQlowUp, .ref mQlowDown, .ref mQhighUp, .ref mQhighDown, .int (zI mlev), .ref mQseen, .int (zI memp), .ref mQfirst], eA mQnow (cy 0) 11 mNow, eA mQheard (cy 0) 11 mHeard, eA mQnumber (cy 0) 7 mNum, eA mQlowUp (cy 0) 7 mLU, eA mQlowDown (cy 0) 7 mLD, eA mQhighUp (cy 0) 7 mHU, eA mQhighDown (cy 0) 7 mHD] → va_S A s.heap H locs → lv_has ls 5 [(0, .ref mO), (1, .int (zI x1)), (2, .int (zI x2))] → zGv p l e wsX7_narrow ({ frames := 3, cells := 0, slots := 0, locals := 72 }) s m [.ref mO] below meth c A D [eO mO 6 [.int (zI mth), .ref mQtext, .int (zI mmany), .int (zI mcur), .int (zI mst), .int (zI mtok), .int (zI mval), .ref mQnow, .ref mQfresh, .ref mQwas, .int (zI macts), .ref mQisKept, .ref mQkept, .ref mQheard, .ref mQnumber, .ref mQlowUp, .ref mQlowDown, .ref mQhighUp, .ref mQhighDown, .int (zI mlev'), .ref mQseen, .int (zI memp'), .ref mQfirst], eA mQnow (cy 0) 11 mNow, eA mQheard (cy 0) 11 mHeard', eA mQnumber (cy 0) 7 mNum', eA mQlowUp (cy 0) 7 mLU', eA mQlowDown (cy 0) 7 mLD', eA mQhighUp (cy 0) 7 mHU', eA mQhighDown (cy 0) 7 mHD'] H locs (F0 m 30 ls [])
    | (2, x1, x2, x3, x4, mlev, memp, mHeard, mNum, mLU, mLD, mHU, mHD) => ∀ (H : Heap) (locs : List Loc) (ls : Array Slot), va_P D vwCl [eO mO 6 [.int (zI mth), .ref mQtext, .int (zI mmany), .int (zI mcur), .int (zI mst), .int (zI mtok), .int (zI mval), .ref mQnow, .ref mQfresh, .ref mQwas, .int (zI macts), .ref mQisKept, .ref mQkept, .ref mQheard, .ref mQnumber, .ref mQlowUp, .ref mQlowDown, .ref mQhighUp, .ref mQhighDown, .int (zI mlev), .ref mQseen, .int (zI memp), .ref mQfirst], eA mQnow (cy 0) 11 mNow, eA mQheard (cy 0) 11 mHeard, eA mQnumber (cy 0) 7 mNum, eA mQlowUp (cy 0) 7 mLU, eA mQlowDown (cy 0) 7 mLD, eA mQhighUp (cy 0) 7 mHU, eA mQhighDown (cy 0) 7 mHD] H → va_D A [eO mO 6 [.int (zI mth), .ref mQtext, .int (zI mmany), .int (zI mcur), .int (zI mst), .int (zI mtok), .int (zI mval), .ref mQnow, .ref mQfresh, .ref mQwas, .int (zI macts), .ref mQisKept, .ref mQkept, .ref mQheard, .ref mQnumber, .ref mQlowUp, .ref mQlowDown, .ref mQhighUp, .ref mQhighDown, .int (zI mlev), .ref mQseen, .int (zI memp), .ref mQfirst], eA mQnow (cy 0) 11 mNow, eA mQheard (cy 0) 11 mHeard, eA mQnumber (cy 0) 7 mNum, eA mQlowUp (cy 0) 7 mLU, eA mQlowDown (cy 0) 7 mLD, eA mQhighUp (cy 0) 7 mHU, eA mQhighDown (cy 0) 7 mHD] → va_S A s.heap H locs → lv_has ls 5 [(0, .ref mO), (1, .int (zI x1)), (2, .int (zI x2)), (3, .int (zI x3))] → zGv p l e wsX7_narrow ({ frames := 3, cells := 0, slots := 0, locals := 72 }) s m [.ref mO] below meth c A D [eO mO 6 [.int (zI mth), .ref mQtext, .int (zI mmany), .int (zI mcur), .int (zI mst), .int (zI mtok), .int (zI mval), .ref mQnow, .ref mQfresh, .ref mQwas, .int (zI macts), .ref mQisKept, .ref mQkept, .ref mQheard, .ref mQnumber, .ref mQlowUp, .ref mQlowDown, .ref mQhighUp, .ref mQhighDown, .int (zI mlev'), .ref mQseen, .int (zI memp'), .ref mQfirst], eA mQnow (cy 0) 11 mNow, eA mQheard (cy 0) 11 mHeard', eA mQnumber (cy 0) 7 mNum', eA mQlowUp (cy 0) 7 mLU', eA mQlowDown (cy 0) 7 mLD', eA mQhighUp (cy 0) 7 mHU', eA mQhighDown (cy 0) 7 mHD'] H locs (F0 m 51 ls [])
    | (3, x1, x2, x3, x4, mlev, memp, mHeard, mNum, mLU, mLD, mHU, mHD) => ∀ (H : Heap) (locs : List Loc) (ls : Array Slot), va_P D vwCl [eO mO 6 [.int (zI mth), .ref mQtext, .int (zI mmany), .int (zI mcur), .int (zI mst), .int (zI mtok), .int (zI mval), .ref mQnow, .ref mQfresh, .ref mQwas, .int (zI macts), .ref mQisKept, .ref mQkept, .ref mQheard, .ref mQnumber, .ref mQlowUp, .ref mQlowDown, .ref mQhighUp, .ref mQhighDown, .int (zI mlev), .ref mQseen, .int (zI memp), .ref mQfirst], eA mQnow (cy 0) 11 mNow, eA mQheard (cy 0) 11 mHeard, eA mQnumber (cy 0) 7 mNum, eA mQlowUp (cy 0) 7 mLU, eA mQlowDown (cy 0) 7 mLD, eA mQhighUp (cy 0) 7 mHU, eA mQhighDown (cy 0) 7 mHD] H → va_D A [eO mO 6 [.int (zI mth), .ref mQtext, .int (zI mmany), .int (zI mcur), .int (zI mst), .int (zI mtok), .int (zI mval), .ref mQnow, .ref mQfresh, .ref mQwas, .int (zI macts), .ref mQisKept, .ref mQkept, .ref mQheard, .ref mQnumber, .ref mQlowUp, .ref mQlowDown, .ref mQhighUp, .ref mQhighDown, .int (zI mlev), .ref mQseen, .int (zI memp), .ref mQfirst], eA mQnow (cy 0) 11 mNow, eA mQheard (cy 0) 11 mHeard, eA mQnumber (cy 0) 7 mNum, eA mQlowUp (cy 0) 7 mLU, eA mQlowDown (cy 0) 7 mLD, eA mQhighUp (cy 0) 7 mHU, eA mQhighDown (cy 0) 7 mHD] → va_S A s.heap H locs → lv_has ls 5 [(0, .ref mO), (1, .int (zI x1)), (2, .int (zI x2)), (3, .int (zI x3)), (4, .int (zI x4))] → zGv p l e wsX7_narrow ({ frames := 3, cells := 0, slots := 0, locals := 72 }) s m [.ref mO] below meth c A D [eO mO 6 [.int (zI mth), .ref mQtext, .int (zI mmany), .int (zI mcur), .int (zI mst), .int (zI mtok), .int (zI mval), .ref mQnow, .ref mQfresh, .ref mQwas, .int (zI macts), .ref mQisKept, .ref mQkept, .ref mQheard, .ref mQnumber, .ref mQlowUp, .ref mQlowDown, .ref mQhighUp, .ref mQhighDown, .int (zI mlev'), .ref mQseen, .int (zI memp'), .ref mQfirst], eA mQnow (cy 0) 11 mNow, eA mQheard (cy 0) 11 mHeard', eA mQnumber (cy 0) 7 mNum', eA mQlowUp (cy 0) 7 mLU', eA mQlowDown (cy 0) 7 mLD', eA mQhighUp (cy 0) 7 mHU', eA mQhighDown (cy 0) 7 mHD'] H locs (F0 m 91 ls [])
    | (4, x1, x2, x3, x4, mlev, memp, mHeard, mNum, mLU, mLD, mHU, mHD) => ∀ (H : Heap) (locs : List Loc) (ls : Array Slot), va_P D vwCl [eO mO 6 [.int (zI mth), .ref mQtext, .int (zI mmany), .int (zI mcur), .int (zI mst), .int (zI mtok), .int (zI mval), .ref mQnow, .ref mQfresh, .ref mQwas, .int (zI macts), .ref mQisKept, .ref mQkept, .ref mQheard, .ref mQnumber, .ref mQlowUp, .ref mQlowDown, .ref mQhighUp, .ref mQhighDown, .int (zI mlev), .ref mQseen, .int (zI memp), .ref mQfirst], eA mQnow (cy 0) 11 mNow, eA mQheard (cy 0) 11 mHeard, eA mQnumber (cy 0) 7 mNum, eA mQlowUp (cy 0) 7 mLU, eA mQlowDown (cy 0) 7 mLD, eA mQhighUp (cy 0) 7 mHU, eA mQhighDown (cy 0) 7 mHD] H → va_D A [eO mO 6 [.int (zI mth), .ref mQtext, .int (zI mmany), .int (zI mcur), .int (zI mst), .int (zI mtok), .int (zI mval), .ref mQnow, .ref mQfresh, .ref mQwas, .int (zI macts), .ref mQisKept, .ref mQkept, .ref mQheard, .ref mQnumber, .ref mQlowUp, .ref mQlowDown, .ref mQhighUp, .ref mQhighDown, .int (zI mlev), .ref mQseen, .int (zI memp), .ref mQfirst], eA mQnow (cy 0) 11 mNow, eA mQheard (cy 0) 11 mHeard, eA mQnumber (cy 0) 7 mNum, eA mQlowUp (cy 0) 7 mLU, eA mQlowDown (cy 0) 7 mLD, eA mQhighUp (cy 0) 7 mHU, eA mQhighDown (cy 0) 7 mHD] → va_S A s.heap H locs → lv_has ls 5 [(0, .ref mO), (1, .int (zI x1)), (2, .int (zI x2)), (3, .int (zI x3)), (4, .int (zI x4))] → zGv p l e wsX7_narrow ({ frames := 3, cells := 0, slots := 0, locals := 72 }) s m [.ref mO] below meth c A D [eO mO 6 [.int (zI mth), .ref mQtext, .int (zI mmany), .int (zI mcur), .int (zI mst), .int (zI mtok), .int (zI mval), .ref mQnow, .ref mQfresh, .ref mQwas, .int (zI macts), .ref mQisKept, .ref mQkept, .ref mQheard, .ref mQnumber, .ref mQlowUp, .ref mQlowDown, .ref mQhighUp, .ref mQhighDown, .int (zI mlev'), .ref mQseen, .int (zI memp'), .ref mQfirst], eA mQnow (cy 0) 11 mNow, eA mQheard (cy 0) 11 mHeard', eA mQnumber (cy 0) 7 mNum', eA mQlowUp (cy 0) 7 mLU', eA mQlowDown (cy 0) 7 mLD', eA mQhighUp (cy 0) 7 mHU', eA mQhighDown (cy 0) 7 mHD'] H locs (F0 m 95 ls [])
    | _ => True) (by
    rintro ⟨k, x1, x2, x3, x4, mlev, memp, mHeard, mNum, mLU, mLD, mHU, mHD⟩ hf
    match k, hf with
    | 0, hf =>
      intro H locs ls hP hD hS hl
      unfold st_X7_narrow at hf
      try dsimp only at hf
      refine lv_iload_n hx hb dX7_narrow_15 rfl (lv_at hl 1 rfl) ?_
      refine zz_if_eq (tgt := 159) hx hb dX7_narrow_16 (by decide) hf (fun hc hf => ?_) (fun hc hf => ?_)
      · have hf := zq_some hf
        cases hf
        exact W.vret hx hb hr (fun t ht hW => ⟨⟨(), rfl, trivial, by rw [ht]; exact hP, hD⟩, hS.F ht⟩) hS.2.2 dX7_narrow_159
      · refine lv_aload_n hx hb dX7_narrow_19 rfl (lv_at hl 0 rfl) ?_
        refine va_get (D := D) (ci := 6) (v := .int (zI memp)) (C := RX7) (T := TX7) (N := 23) hx hb hts u_X7_narrow_X7 hown hK.1 hP 0 rfl rfl 21 (by decide) (hts _ m_X7_narrow_2) (fun _ h9 => h9) rfl dX7_narrow_20 ?_
        refine zz_if_ne (tgt := 159) hx hb dX7_narrow_23 (by decide) hf (fun hc hf => ?_) (fun hc hf => ?_)
        · refine lv_iconst (v := zI 0) hx hb dX7_narrow_26 rfl ?_
          refine lv_istore_n (lv' := [(1, .int (zI 0)), (0, .ref mO)]) hx hb dX7_narrow_27 rfl hl (by decide) rfl (fun ls hl => ?_)
          refine lv_iconst (v := zI 0) hx hb dX7_narrow_28 rfl ?_
          refine lv_istore_n (lv' := [(2, .int (zI 0)), (1, .int (zI 0)), (0, .ref mO)]) hx hb dX7_narrow_29 rfl hl (by decide) rfl (fun ls hl => ?_)
          have hf := zq_some hf
          exact hf _ _ _ hP hD hS (lv_sub hl [2, 1, 0] rfl)
        · have hf := zq_some hf
          cases hf
          exact W.vret hx hb hr (fun t ht hW => ⟨⟨(), rfl, trivial, by rw [ht]; exact hP, hD⟩, hS.F ht⟩) hS.2.2 dX7_narrow_159
    | 1, hf =>
      intro H locs ls hP hD hS hl
      unfold st_X7_narrow at hf
      try dsimp only at hf
      refine lv_iload_n hx hb dX7_narrow_30 rfl (lv_at hl 2 rfl) ?_
      refine lv_aload_n hx hb dX7_narrow_31 rfl (lv_at hl 0 rfl) ?_
      refine va_get (D := D) (ci := 6) (v := .ref mQnow) (C := RX7) (T := TX7) (N := 23) hx hb hts u_X7_narrow_X7 hown hK.1 hP 0 rfl rfl 7 (by decide) (hts _ m_X7_narrow_1) (fun _ h9 => h9) rfl dX7_narrow_32 ?_
      refine lv_iconst (v := zI 0) hx hb dX7_narrow_35 rfl ?_
      refine zz_iald (i := 0) hx hb hK hP 1 rfl (Nat.le_of_ble_eq_true rfl) (by decide) dX7_narrow_36 ?_
      refine zz_icmp_ge (tgt := 156) hx hb dX7_narrow_37 (by decide) hf (fun hc hf => ?_) (fun hc hf => ?_)
      · refine lv_aload_n hx hb dX7_narrow_40 rfl (lv_at hl 0 rfl) ?_
        refine va_get (D := D) (ci := 6) (v := .int (zI memp)) (C := RX7) (T := TX7) (N := 23) hx hb hts u_X7_narrow_X7 hown hK.1 hP 0 rfl rfl 21 (by decide) (hts _ m_X7_narrow_2) (fun _ h9 => h9) rfl dX7_narrow_41 ?_
        refine zz_if_ne (tgt := 156) hx hb dX7_narrow_44 (by decide) hf (fun hc hf => ?_) (fun hc hf => ?_)
        · refine lv_iload_n hx hb dX7_narrow_47 rfl (lv_at hl 2 rfl) ?_
          refine lv_iconst (v := zI 1) hx hb dX7_narrow_48 rfl ?_
          refine zz_iadd hx hb dX7_narrow_49 ?_
          obtain ⟨v50, e50, hf⟩ := zq_lt hf
          refine zz_top e50 ?_
          refine lv_istore_n (lv' := [(3, .int (zI v50)), (0, .ref mO), (1, .int (zI x1)), (2, .int (zI x2))]) hx hb dX7_narrow_50 rfl hl (by decide) rfl (fun ls hl => ?_)
          have hf := zq_some hf
          exact hf _ _ _ hP hD hS (lv_sub hl [1, 2, 3, 0] rfl)
        · refine lv_goto (tgt := 15) hx hb dX7_narrow_156 (by decide) ?_
          have hf := zq_some hf
          exact hf _ _ _ hP hD hS (lv_sub hl [0, 1] rfl)
      · refine lv_goto (tgt := 15) hx hb dX7_narrow_156 (by decide) ?_
        have hf := zq_some hf
        exact hf _ _ _ hP hD hS (lv_sub hl [0, 1] rfl)
    | 2, hf =>
      intro H locs ls hP hD hS hl
      unfold st_X7_narrow at hf
      try dsimp only at hf
      refine lv_iload_n hx hb dX7_narrow_51 rfl (lv_at hl 3 rfl) ?_
      refine lv_aload_n hx hb dX7_narrow_52 rfl (lv_at hl 0 rfl) ?_
      refine va_get (D := D) (ci := 6) (v := .ref mQnow) (C := RX7) (T := TX7) (N := 23) hx hb hts u_X7_narrow_X7 hown hK.1 hP 0 rfl rfl 7 (by decide) (hts _ m_X7_narrow_1) (fun _ h9 => h9) rfl dX7_narrow_53 ?_
      refine lv_iconst (v := zI 0) hx hb dX7_narrow_56 rfl ?_
      refine zz_iald (i := 0) hx hb hK hP 1 rfl (Nat.le_of_ble_eq_true rfl) (by decide) dX7_narrow_57 ?_
      refine zz_icmp_ge (tgt := 150) hx hb dX7_narrow_58 (by decide) hf (fun hc hf => ?_) (fun hc hf => ?_)
      · refine lv_aload_n hx hb dX7_narrow_61 rfl (lv_at hl 0 rfl) ?_
        refine va_get (D := D) (ci := 6) (v := .int (zI memp)) (C := RX7) (T := TX7) (N := 23) hx hb hts u_X7_narrow_X7 hown hK.1 hP 0 rfl rfl 21 (by decide) (hts _ m_X7_narrow_2) (fun _ h9 => h9) rfl dX7_narrow_62 ?_
        refine zz_if_ne (tgt := 150) hx hb dX7_narrow_65 (by decide) hf (fun hc hf => ?_) (fun hc hf => ?_)
        · refine lv_aload_n hx hb dX7_narrow_68 rfl (lv_at hl 0 rfl) ?_
          refine lv_iload_n hx hb dX7_narrow_69 rfl (lv_at hl 2 rfl) ?_
          refine lv_iload_n hx hb dX7_narrow_70 rfl (lv_at hl 3 rfl) ?_
          obtain ⟨r71, hc71, hf⟩ := zq_bind hf
          refine zcallVi (wr := [eA mQheard (cy 0) 11 mHeard, eA mQnumber (cy 0) 7 mNum]) (rest := []) ⟨hx, hb, hml, hown, hts⟩ (c_X7_countsOf l D cy mO mQtext mQnow mQfresh mQwas mQisKept mQkept mQheard mQnumber mQlowUp mQlowDown mQhighUp mQhighDown mQseen mQfirst H.size x2 x3 mth mmany mcur mst mtok mval macts mlev memp mNow mLU mLD mHU mHD hc71) (cwV 2 hts gX7_narrow_X7_countsOf rfl rfl rfl (by decide +kernel) ⟨Nat.le_of_ble_eq_true rfl, Nat.le_of_ble_eq_true rfl⟩) hK hP hD hS hA [0, 1, 4, 5, 6, 7] [2, 3] rfl rfl rfl rfl (by decide) (va_recv hK.1 hP (ci := 6) (q0 := 0) rfl rfl) rfl hl.1 rfl (Nat.le_of_ble_eq_true rfl) dX7_narrow_71 ⟨Nat.zero_le _, Nat.zero_le _⟩ (fun H locs hP hD hS => ?_)
          have hP : va_P D vwCl [eO mO 6 [.int (zI mth), .ref mQtext, .int (zI mmany), .int (zI mcur), .int (zI mst), .int (zI mtok), .int (zI mval), .ref mQnow, .ref mQfresh, .ref mQwas, .int (zI macts), .ref mQisKept, .ref mQkept, .ref mQheard, .ref mQnumber, .ref mQlowUp, .ref mQlowDown, .ref mQhighUp, .ref mQhighDown, .int (zI mlev), .ref mQseen, .int (zI memp), .ref mQfirst], eA mQnow (cy 0) 11 mNow, eA mQheard (cy 0) 11 mHeard, eA mQnumber (cy 0) 7 mNum, eA mQlowUp (cy 0) 7 mLU, eA mQlowDown (cy 0) 7 mLD, eA mQhighUp (cy 0) 7 mHU, eA mQhighDown (cy 0) 7 mHD] H := hP.sub [2, 3, 0, 1, 4, 5, 6, 7] rfl
          have hD : va_D A [eO mO 6 [.int (zI mth), .ref mQtext, .int (zI mmany), .int (zI mcur), .int (zI mst), .int (zI mtok), .int (zI mval), .ref mQnow, .ref mQfresh, .ref mQwas, .int (zI macts), .ref mQisKept, .ref mQkept, .ref mQheard, .ref mQnumber, .ref mQlowUp, .ref mQlowDown, .ref mQhighUp, .ref mQhighDown, .int (zI mlev), .ref mQseen, .int (zI memp), .ref mQfirst], eA mQnow (cy 0) 11 mNow, eA mQheard (cy 0) 11 mHeard, eA mQnumber (cy 0) 7 mNum, eA mQlowUp (cy 0) 7 mLU, eA mQlowDown (cy 0) 7 mLD, eA mQhighUp (cy 0) 7 mHU, eA mQhighDown (cy 0) 7 mHD] := hD.sub [2, 3, 0, 1, 4, 5, 6, 7] rfl rfl
          refine lv_istore (lv' := [(4, .int (zI r71)), (0, .ref mO), (1, .int (zI x1)), (2, .int (zI x2)), (3, .int (zI x3))]) hx hb dX7_narrow_74 hl (by decide) rfl (fun ls hl => ?_)
          refine lv_iload hx hb dX7_narrow_76 (lv_at hl 0 rfl) ?_
          refine lv_iconst (v := zI 1) hx hb dX7_narrow_78 rfl ?_
          refine zz_icmp_ne (tgt := 91) hx hb dX7_narrow_79 (by decide) hf (fun hc hf => ?_) (fun hc hf => ?_)
          · refine lv_aload_n hx hb dX7_narrow_82 rfl (lv_at hl 1 rfl) ?_
            refine lv_iload_n hx hb dX7_narrow_83 rfl (lv_at hl 3 rfl) ?_
            refine lv_iload_n hx hb dX7_narrow_84 rfl (lv_at hl 4 rfl) ?_
            obtain ⟨⟨r85, mLU_85, mLD_85, mHU_85, mHD_85⟩, hc85, hf⟩ := zq_bind hf
            refine zcallVi (wr := [eA mQheard (cy 0) 11 mHeard, eA mQnumber (cy 0) 7 mNum]) (rest := []) ⟨hx, hb, hml, hown, hts⟩ (c_X7_isNarrower l D cy mO mQtext mQnow mQfresh mQwas mQisKept mQkept mQheard mQnumber mQlowUp mQlowDown mQhighUp mQhighDown mQseen mQfirst H.size x2 x3 mth mmany mcur mst mtok mval macts mlev memp mNow mLU mLD mHU mHD hc85) (cwV 2 hts gX7_narrow_X7_isNarrower rfl rfl rfl (by decide +kernel) ⟨Nat.le_of_ble_eq_true rfl, Nat.le_of_ble_eq_true rfl⟩) hK hP hD hS hA [0, 1, 4, 5, 6, 7] [2, 3] rfl rfl rfl rfl (by decide) (va_recv hK.1 hP (ci := 6) (q0 := 0) rfl rfl) rfl hl.1 rfl (Nat.le_of_ble_eq_true rfl) dX7_narrow_85 ⟨Nat.zero_le _, Nat.zero_le _⟩ (fun H locs hP hD hS => ?_)
            have hP : va_P D vwCl [eO mO 6 [.int (zI mth), .ref mQtext, .int (zI mmany), .int (zI mcur), .int (zI mst), .int (zI mtok), .int (zI mval), .ref mQnow, .ref mQfresh, .ref mQwas, .int (zI macts), .ref mQisKept, .ref mQkept, .ref mQheard, .ref mQnumber, .ref mQlowUp, .ref mQlowDown, .ref mQhighUp, .ref mQhighDown, .int (zI mlev), .ref mQseen, .int (zI memp), .ref mQfirst], eA mQnow (cy 0) 11 mNow, eA mQheard (cy 0) 11 mHeard, eA mQnumber (cy 0) 7 mNum, eA mQlowUp (cy 0) 7 mLU_85, eA mQlowDown (cy 0) 7 mLD_85, eA mQhighUp (cy 0) 7 mHU_85, eA mQhighDown (cy 0) 7 mHD_85] H := hP.sub [2, 3, 0, 1, 4, 5, 6, 7] rfl
            have hD : va_D A [eO mO 6 [.int (zI mth), .ref mQtext, .int (zI mmany), .int (zI mcur), .int (zI mst), .int (zI mtok), .int (zI mval), .ref mQnow, .ref mQfresh, .ref mQwas, .int (zI macts), .ref mQisKept, .ref mQkept, .ref mQheard, .ref mQnumber, .ref mQlowUp, .ref mQlowDown, .ref mQhighUp, .ref mQhighDown, .int (zI mlev), .ref mQseen, .int (zI memp), .ref mQfirst], eA mQnow (cy 0) 11 mNow, eA mQheard (cy 0) 11 mHeard, eA mQnumber (cy 0) 7 mNum, eA mQlowUp (cy 0) 7 mLU_85, eA mQlowDown (cy 0) 7 mLD_85, eA mQhighUp (cy 0) 7 mHU_85, eA mQhighDown (cy 0) 7 mHD_85] := hD.sub [2, 3, 0, 1, 4, 5, 6, 7] rfl rfl
            refine zz_if_ne (tgt := 95) hx hb dX7_narrow_88 (by decide) hf (fun hc hf => ?_) (fun hc hf => ?_)
            · have hf := zq_some hf
              exact hf _ _ _ hP hD hS (lv_sub hl [1, 2, 3, 4, 0] rfl)
            · have hf := zq_some hf
              exact hf _ _ _ hP hD hS (lv_sub hl [1, 2, 3, 4, 0] rfl)
          · have hf := zq_some hf
            exact hf _ _ _ hP hD hS (lv_sub hl [1, 2, 3, 4, 0] rfl)
        · refine lv_iinc (v := zI (x2 + 1)) (lv' := [(2, .int (zI (x2 + 1))), (0, .ref mO), (1, .int (zI x1)), (3, .int (zI x3))]) hx hb dX7_narrow_150 hl (k := 2) rfl (zI_add _ _) (by decide) rfl (fun ls hl => ?_)
          refine lv_goto (tgt := 30) hx hb dX7_narrow_153 (by decide) ?_
          have hf := zq_some hf
          exact hf _ _ _ hP hD hS (lv_sub hl [1, 2, 0] rfl)
      · refine lv_iinc (v := zI (x2 + 1)) (lv' := [(2, .int (zI (x2 + 1))), (0, .ref mO), (1, .int (zI x1)), (3, .int (zI x3))]) hx hb dX7_narrow_150 hl (k := 2) rfl (zI_add _ _) (by decide) rfl (fun ls hl => ?_)
        refine lv_goto (tgt := 30) hx hb dX7_narrow_153 (by decide) ?_
        have hf := zq_some hf
        exact hf _ _ _ hP hD hS (lv_sub hl [1, 2, 0] rfl)
    | 3, hf =>
      intro H locs ls hP hD hS hl
      unfold st_X7_narrow at hf
      try dsimp only at hf
      refine lv_iload_n hx hb dX7_narrow_91 rfl (lv_at hl 1 rfl) ?_
      refine zz_if_eq (tgt := 99) hx hb dX7_narrow_92 (by decide) hf (fun hc hf => ?_) (fun hc hf => ?_)
      · refine lv_iconst (v := zI 0) hx hb dX7_narrow_99 rfl ?_
        refine lv_istore_n (lv' := [(1, .int (zI 0)), (0, .ref mO), (2, .int (zI x2)), (3, .int (zI x3)), (4, .int (zI x4))]) hx hb dX7_narrow_100 rfl hl (by decide) rfl (fun ls hl => ?_)
        refine lv_aload_n hx hb dX7_narrow_101 rfl (lv_at hl 1 rfl) ?_
        refine lv_iload hx hb dX7_narrow_102 (lv_at hl 4 rfl) ?_
        refine zz_if_eq (tgt := 136) hx hb dX7_narrow_104 (by decide) hf (fun hc hf => ?_) (fun hc hf => ?_)
        · refine lv_iconst (v := zI 1) hx hb dX7_narrow_136 rfl ?_
          refine lv_goto (tgt := 141) hx hb dX7_narrow_137 (by decide) ?_
          refine va_put (D := D) (ci := 6) (v := .int (zI 1)) (ty := .boolean) (C := RX7) (T := TX7) (N := 23) hx hb hts u_X7_narrow_X7 tyX7 tyX7_ok nmX7 hown hK.1 hP hD hS 0 rfl rfl 21 (by decide) (hts _ m_X7_narrow_2) (fun _ h9 => h9) rfl (tyX7_ok 21 (by decide)) rfl rfl (Nat.le_of_ble_eq_true rfl) dX7_narrow_141 (fun H locs hP hD hS => ?_)
          have hP : va_P D vwCl [eO mO 6 [.int (zI mth), .ref mQtext, .int (zI mmany), .int (zI mcur), .int (zI mst), .int (zI mtok), .int (zI mval), .ref mQnow, .ref mQfresh, .ref mQwas, .int (zI macts), .ref mQisKept, .ref mQkept, .ref mQheard, .ref mQnumber, .ref mQlowUp, .ref mQlowDown, .ref mQhighUp, .ref mQhighDown, .int (zI mlev), .ref mQseen, .int (zI 1), .ref mQfirst], eA mQnow (cy 0) 11 mNow, eA mQheard (cy 0) 11 mHeard, eA mQnumber (cy 0) 7 mNum, eA mQlowUp (cy 0) 7 mLU, eA mQlowDown (cy 0) 7 mLD, eA mQhighUp (cy 0) 7 mHU, eA mQhighDown (cy 0) 7 mHD] H := hP
          have hD : va_D A [eO mO 6 [.int (zI mth), .ref mQtext, .int (zI mmany), .int (zI mcur), .int (zI mst), .int (zI mtok), .int (zI mval), .ref mQnow, .ref mQfresh, .ref mQwas, .int (zI macts), .ref mQisKept, .ref mQkept, .ref mQheard, .ref mQnumber, .ref mQlowUp, .ref mQlowDown, .ref mQhighUp, .ref mQhighDown, .int (zI mlev), .ref mQseen, .int (zI 1), .ref mQfirst], eA mQnow (cy 0) 11 mNow, eA mQheard (cy 0) 11 mHeard, eA mQnumber (cy 0) 7 mNum, eA mQlowUp (cy 0) 7 mLU, eA mQlowDown (cy 0) 7 mLD, eA mQhighUp (cy 0) 7 mHU, eA mQhighDown (cy 0) 7 mHD] := hD
          refine lv_iinc (v := zI (x3 + 1)) (lv' := [(3, .int (zI (x3 + 1))), (1, .int (zI 0)), (0, .ref mO), (2, .int (zI x2)), (4, .int (zI x4))]) hx hb dX7_narrow_144 hl (k := 3) rfl (zI_add _ _) (by decide) rfl (fun ls hl => ?_)
          refine lv_goto (tgt := 51) hx hb dX7_narrow_147 (by decide) ?_
          have hf := zq_some hf
          exact hf _ _ _ hP hD hS (lv_sub hl [2, 1, 3, 0] rfl)
        · refine lv_aload_n hx hb dX7_narrow_107 rfl (lv_at hl 1 rfl) ?_
          refine va_get (D := D) (ci := 6) (v := .ref mQlowUp) (C := RX7) (T := TX7) (N := 23) hx hb hts u_X7_narrow_X7 hown hK.1 hP 0 rfl rfl 15 (by decide) (hts _ m_X7_narrow_3) (fun _ h9 => h9) rfl dX7_narrow_108 ?_
          refine lv_iconst (v := zI 0) hx hb dX7_narrow_111 rfl ?_
          refine zz_iald (i := 0) hx hb hK hP 4 rfl (Nat.le_of_ble_eq_true rfl) (by decide) dX7_narrow_112 ?_
          refine lv_aload_n hx hb dX7_narrow_113 rfl (lv_at hl 1 rfl) ?_
          refine va_get (D := D) (ci := 6) (v := .ref mQhighDown) (C := RX7) (T := TX7) (N := 23) hx hb hts u_X7_narrow_X7 hown hK.1 hP 0 rfl rfl 18 (by decide) (hts _ m_X7_narrow_4) (fun _ h9 => h9) rfl dX7_narrow_114 ?_
          refine lv_iconst (v := zI 0) hx hb dX7_narrow_117 rfl ?_
          refine zz_iald (i := 0) hx hb hK hP 7 rfl (Nat.le_of_ble_eq_true rfl) (by decide) dX7_narrow_118 ?_
          refine zz_imul hx hb dX7_narrow_119 ?_
          refine lv_aload_n hx hb dX7_narrow_120 rfl (lv_at hl 1 rfl) ?_
          refine va_get (D := D) (ci := 6) (v := .ref mQhighUp) (C := RX7) (T := TX7) (N := 23) hx hb hts u_X7_narrow_X7 hown hK.1 hP 0 rfl rfl 17 (by decide) (hts _ m_X7_narrow_5) (fun _ h9 => h9) rfl dX7_narrow_121 ?_
          refine lv_iconst (v := zI 0) hx hb dX7_narrow_124 rfl ?_
          refine zz_iald (i := 0) hx hb hK hP 6 rfl (Nat.le_of_ble_eq_true rfl) (by decide) dX7_narrow_125 ?_
          refine lv_aload_n hx hb dX7_narrow_126 rfl (lv_at hl 1 rfl) ?_
          refine va_get (D := D) (ci := 6) (v := .ref mQlowDown) (C := RX7) (T := TX7) (N := 23) hx hb hts u_X7_narrow_X7 hown hK.1 hP 0 rfl rfl 16 (by decide) (hts _ m_X7_narrow_6) (fun _ h9 => h9) rfl dX7_narrow_127 ?_
          refine lv_iconst (v := zI 0) hx hb dX7_narrow_130 rfl ?_
          refine zz_iald (i := 0) hx hb hK hP 5 rfl (Nat.le_of_ble_eq_true rfl) (by decide) dX7_narrow_131 ?_
          refine zz_imul hx hb dX7_narrow_132 ?_
          refine zz_icmp_le (tgt := 140) hx hb dX7_narrow_133 (by decide) hf (fun hc hf => ?_) (fun hc hf => ?_)
          · refine lv_iconst (v := zI 0) hx hb dX7_narrow_140 rfl ?_
            refine va_put (D := D) (ci := 6) (v := .int (zI 0)) (ty := .boolean) (C := RX7) (T := TX7) (N := 23) hx hb hts u_X7_narrow_X7 tyX7 tyX7_ok nmX7 hown hK.1 hP hD hS 0 rfl rfl 21 (by decide) (hts _ m_X7_narrow_2) (fun _ h9 => h9) rfl (tyX7_ok 21 (by decide)) rfl rfl (Nat.le_of_ble_eq_true rfl) dX7_narrow_141 (fun H locs hP hD hS => ?_)
            have hP : va_P D vwCl [eO mO 6 [.int (zI mth), .ref mQtext, .int (zI mmany), .int (zI mcur), .int (zI mst), .int (zI mtok), .int (zI mval), .ref mQnow, .ref mQfresh, .ref mQwas, .int (zI macts), .ref mQisKept, .ref mQkept, .ref mQheard, .ref mQnumber, .ref mQlowUp, .ref mQlowDown, .ref mQhighUp, .ref mQhighDown, .int (zI mlev), .ref mQseen, .int (zI 0), .ref mQfirst], eA mQnow (cy 0) 11 mNow, eA mQheard (cy 0) 11 mHeard, eA mQnumber (cy 0) 7 mNum, eA mQlowUp (cy 0) 7 mLU, eA mQlowDown (cy 0) 7 mLD, eA mQhighUp (cy 0) 7 mHU, eA mQhighDown (cy 0) 7 mHD] H := hP
            have hD : va_D A [eO mO 6 [.int (zI mth), .ref mQtext, .int (zI mmany), .int (zI mcur), .int (zI mst), .int (zI mtok), .int (zI mval), .ref mQnow, .ref mQfresh, .ref mQwas, .int (zI macts), .ref mQisKept, .ref mQkept, .ref mQheard, .ref mQnumber, .ref mQlowUp, .ref mQlowDown, .ref mQhighUp, .ref mQhighDown, .int (zI mlev), .ref mQseen, .int (zI 0), .ref mQfirst], eA mQnow (cy 0) 11 mNow, eA mQheard (cy 0) 11 mHeard, eA mQnumber (cy 0) 7 mNum, eA mQlowUp (cy 0) 7 mLU, eA mQlowDown (cy 0) 7 mLD, eA mQhighUp (cy 0) 7 mHU, eA mQhighDown (cy 0) 7 mHD] := hD
            refine lv_iinc (v := zI (x3 + 1)) (lv' := [(3, .int (zI (x3 + 1))), (1, .int (zI 0)), (0, .ref mO), (2, .int (zI x2)), (4, .int (zI x4))]) hx hb dX7_narrow_144 hl (k := 3) rfl (zI_add _ _) (by decide) rfl (fun ls hl => ?_)
            refine lv_goto (tgt := 51) hx hb dX7_narrow_147 (by decide) ?_
            have hf := zq_some hf
            exact hf _ _ _ hP hD hS (lv_sub hl [2, 1, 3, 0] rfl)
          · refine lv_iconst (v := zI 1) hx hb dX7_narrow_136 rfl ?_
            refine lv_goto (tgt := 141) hx hb dX7_narrow_137 (by decide) ?_
            refine va_put (D := D) (ci := 6) (v := .int (zI 1)) (ty := .boolean) (C := RX7) (T := TX7) (N := 23) hx hb hts u_X7_narrow_X7 tyX7 tyX7_ok nmX7 hown hK.1 hP hD hS 0 rfl rfl 21 (by decide) (hts _ m_X7_narrow_2) (fun _ h9 => h9) rfl (tyX7_ok 21 (by decide)) rfl rfl (Nat.le_of_ble_eq_true rfl) dX7_narrow_141 (fun H locs hP hD hS => ?_)
            have hP : va_P D vwCl [eO mO 6 [.int (zI mth), .ref mQtext, .int (zI mmany), .int (zI mcur), .int (zI mst), .int (zI mtok), .int (zI mval), .ref mQnow, .ref mQfresh, .ref mQwas, .int (zI macts), .ref mQisKept, .ref mQkept, .ref mQheard, .ref mQnumber, .ref mQlowUp, .ref mQlowDown, .ref mQhighUp, .ref mQhighDown, .int (zI mlev), .ref mQseen, .int (zI 1), .ref mQfirst], eA mQnow (cy 0) 11 mNow, eA mQheard (cy 0) 11 mHeard, eA mQnumber (cy 0) 7 mNum, eA mQlowUp (cy 0) 7 mLU, eA mQlowDown (cy 0) 7 mLD, eA mQhighUp (cy 0) 7 mHU, eA mQhighDown (cy 0) 7 mHD] H := hP
            have hD : va_D A [eO mO 6 [.int (zI mth), .ref mQtext, .int (zI mmany), .int (zI mcur), .int (zI mst), .int (zI mtok), .int (zI mval), .ref mQnow, .ref mQfresh, .ref mQwas, .int (zI macts), .ref mQisKept, .ref mQkept, .ref mQheard, .ref mQnumber, .ref mQlowUp, .ref mQlowDown, .ref mQhighUp, .ref mQhighDown, .int (zI mlev), .ref mQseen, .int (zI 1), .ref mQfirst], eA mQnow (cy 0) 11 mNow, eA mQheard (cy 0) 11 mHeard, eA mQnumber (cy 0) 7 mNum, eA mQlowUp (cy 0) 7 mLU, eA mQlowDown (cy 0) 7 mLD, eA mQhighUp (cy 0) 7 mHU, eA mQhighDown (cy 0) 7 mHD] := hD
            refine lv_iinc (v := zI (x3 + 1)) (lv' := [(3, .int (zI (x3 + 1))), (1, .int (zI 0)), (0, .ref mO), (2, .int (zI x2)), (4, .int (zI x4))]) hx hb dX7_narrow_144 hl (k := 3) rfl (zI_add _ _) (by decide) rfl (fun ls hl => ?_)
            refine lv_goto (tgt := 51) hx hb dX7_narrow_147 (by decide) ?_
            have hf := zq_some hf
            exact hf _ _ _ hP hD hS (lv_sub hl [2, 1, 3, 0] rfl)
      · have hf := zq_some hf
        exact hf _ _ _ hP hD hS (lv_sub hl [0, 1, 2, 3, 4] rfl)
    | 4, hf =>
      intro H locs ls hP hD hS hl
      unfold st_X7_narrow at hf
      try dsimp only at hf
      refine lv_iconst (v := zI 1) hx hb dX7_narrow_95 rfl ?_
      refine lv_goto (tgt := 100) hx hb dX7_narrow_96 (by decide) ?_
      refine lv_istore_n (lv' := [(1, .int (zI 1)), (0, .ref mO), (2, .int (zI x2)), (3, .int (zI x3)), (4, .int (zI x4))]) hx hb dX7_narrow_100 rfl hl (by decide) rfl (fun ls hl => ?_)
      refine lv_aload_n hx hb dX7_narrow_101 rfl (lv_at hl 1 rfl) ?_
      refine lv_iload hx hb dX7_narrow_102 (lv_at hl 4 rfl) ?_
      refine zz_if_eq (tgt := 136) hx hb dX7_narrow_104 (by decide) hf (fun hc hf => ?_) (fun hc hf => ?_)
      · refine lv_iconst (v := zI 1) hx hb dX7_narrow_136 rfl ?_
        refine lv_goto (tgt := 141) hx hb dX7_narrow_137 (by decide) ?_
        refine va_put (D := D) (ci := 6) (v := .int (zI 1)) (ty := .boolean) (C := RX7) (T := TX7) (N := 23) hx hb hts u_X7_narrow_X7 tyX7 tyX7_ok nmX7 hown hK.1 hP hD hS 0 rfl rfl 21 (by decide) (hts _ m_X7_narrow_2) (fun _ h9 => h9) rfl (tyX7_ok 21 (by decide)) rfl rfl (Nat.le_of_ble_eq_true rfl) dX7_narrow_141 (fun H locs hP hD hS => ?_)
        have hP : va_P D vwCl [eO mO 6 [.int (zI mth), .ref mQtext, .int (zI mmany), .int (zI mcur), .int (zI mst), .int (zI mtok), .int (zI mval), .ref mQnow, .ref mQfresh, .ref mQwas, .int (zI macts), .ref mQisKept, .ref mQkept, .ref mQheard, .ref mQnumber, .ref mQlowUp, .ref mQlowDown, .ref mQhighUp, .ref mQhighDown, .int (zI mlev), .ref mQseen, .int (zI 1), .ref mQfirst], eA mQnow (cy 0) 11 mNow, eA mQheard (cy 0) 11 mHeard, eA mQnumber (cy 0) 7 mNum, eA mQlowUp (cy 0) 7 mLU, eA mQlowDown (cy 0) 7 mLD, eA mQhighUp (cy 0) 7 mHU, eA mQhighDown (cy 0) 7 mHD] H := hP
        have hD : va_D A [eO mO 6 [.int (zI mth), .ref mQtext, .int (zI mmany), .int (zI mcur), .int (zI mst), .int (zI mtok), .int (zI mval), .ref mQnow, .ref mQfresh, .ref mQwas, .int (zI macts), .ref mQisKept, .ref mQkept, .ref mQheard, .ref mQnumber, .ref mQlowUp, .ref mQlowDown, .ref mQhighUp, .ref mQhighDown, .int (zI mlev), .ref mQseen, .int (zI 1), .ref mQfirst], eA mQnow (cy 0) 11 mNow, eA mQheard (cy 0) 11 mHeard, eA mQnumber (cy 0) 7 mNum, eA mQlowUp (cy 0) 7 mLU, eA mQlowDown (cy 0) 7 mLD, eA mQhighUp (cy 0) 7 mHU, eA mQhighDown (cy 0) 7 mHD] := hD
        refine lv_iinc (v := zI (x3 + 1)) (lv' := [(3, .int (zI (x3 + 1))), (1, .int (zI 1)), (0, .ref mO), (2, .int (zI x2)), (4, .int (zI x4))]) hx hb dX7_narrow_144 hl (k := 3) rfl (zI_add _ _) (by decide) rfl (fun ls hl => ?_)
        refine lv_goto (tgt := 51) hx hb dX7_narrow_147 (by decide) ?_
        have hf := zq_some hf
        exact hf _ _ _ hP hD hS (lv_sub hl [2, 1, 3, 0] rfl)
      · refine lv_aload_n hx hb dX7_narrow_107 rfl (lv_at hl 1 rfl) ?_
        refine va_get (D := D) (ci := 6) (v := .ref mQlowUp) (C := RX7) (T := TX7) (N := 23) hx hb hts u_X7_narrow_X7 hown hK.1 hP 0 rfl rfl 15 (by decide) (hts _ m_X7_narrow_3) (fun _ h9 => h9) rfl dX7_narrow_108 ?_
        refine lv_iconst (v := zI 0) hx hb dX7_narrow_111 rfl ?_
        refine zz_iald (i := 0) hx hb hK hP 4 rfl (Nat.le_of_ble_eq_true rfl) (by decide) dX7_narrow_112 ?_
        refine lv_aload_n hx hb dX7_narrow_113 rfl (lv_at hl 1 rfl) ?_
        refine va_get (D := D) (ci := 6) (v := .ref mQhighDown) (C := RX7) (T := TX7) (N := 23) hx hb hts u_X7_narrow_X7 hown hK.1 hP 0 rfl rfl 18 (by decide) (hts _ m_X7_narrow_4) (fun _ h9 => h9) rfl dX7_narrow_114 ?_
        refine lv_iconst (v := zI 0) hx hb dX7_narrow_117 rfl ?_
        refine zz_iald (i := 0) hx hb hK hP 7 rfl (Nat.le_of_ble_eq_true rfl) (by decide) dX7_narrow_118 ?_
        refine zz_imul hx hb dX7_narrow_119 ?_
        refine lv_aload_n hx hb dX7_narrow_120 rfl (lv_at hl 1 rfl) ?_
        refine va_get (D := D) (ci := 6) (v := .ref mQhighUp) (C := RX7) (T := TX7) (N := 23) hx hb hts u_X7_narrow_X7 hown hK.1 hP 0 rfl rfl 17 (by decide) (hts _ m_X7_narrow_5) (fun _ h9 => h9) rfl dX7_narrow_121 ?_
        refine lv_iconst (v := zI 0) hx hb dX7_narrow_124 rfl ?_
        refine zz_iald (i := 0) hx hb hK hP 6 rfl (Nat.le_of_ble_eq_true rfl) (by decide) dX7_narrow_125 ?_
        refine lv_aload_n hx hb dX7_narrow_126 rfl (lv_at hl 1 rfl) ?_
        refine va_get (D := D) (ci := 6) (v := .ref mQlowDown) (C := RX7) (T := TX7) (N := 23) hx hb hts u_X7_narrow_X7 hown hK.1 hP 0 rfl rfl 16 (by decide) (hts _ m_X7_narrow_6) (fun _ h9 => h9) rfl dX7_narrow_127 ?_
        refine lv_iconst (v := zI 0) hx hb dX7_narrow_130 rfl ?_
        refine zz_iald (i := 0) hx hb hK hP 5 rfl (Nat.le_of_ble_eq_true rfl) (by decide) dX7_narrow_131 ?_
        refine zz_imul hx hb dX7_narrow_132 ?_
        refine zz_icmp_le (tgt := 140) hx hb dX7_narrow_133 (by decide) hf (fun hc hf => ?_) (fun hc hf => ?_)
        · refine lv_iconst (v := zI 0) hx hb dX7_narrow_140 rfl ?_
          refine va_put (D := D) (ci := 6) (v := .int (zI 0)) (ty := .boolean) (C := RX7) (T := TX7) (N := 23) hx hb hts u_X7_narrow_X7 tyX7 tyX7_ok nmX7 hown hK.1 hP hD hS 0 rfl rfl 21 (by decide) (hts _ m_X7_narrow_2) (fun _ h9 => h9) rfl (tyX7_ok 21 (by decide)) rfl rfl (Nat.le_of_ble_eq_true rfl) dX7_narrow_141 (fun H locs hP hD hS => ?_)
          have hP : va_P D vwCl [eO mO 6 [.int (zI mth), .ref mQtext, .int (zI mmany), .int (zI mcur), .int (zI mst), .int (zI mtok), .int (zI mval), .ref mQnow, .ref mQfresh, .ref mQwas, .int (zI macts), .ref mQisKept, .ref mQkept, .ref mQheard, .ref mQnumber, .ref mQlowUp, .ref mQlowDown, .ref mQhighUp, .ref mQhighDown, .int (zI mlev), .ref mQseen, .int (zI 0), .ref mQfirst], eA mQnow (cy 0) 11 mNow, eA mQheard (cy 0) 11 mHeard, eA mQnumber (cy 0) 7 mNum, eA mQlowUp (cy 0) 7 mLU, eA mQlowDown (cy 0) 7 mLD, eA mQhighUp (cy 0) 7 mHU, eA mQhighDown (cy 0) 7 mHD] H := hP
          have hD : va_D A [eO mO 6 [.int (zI mth), .ref mQtext, .int (zI mmany), .int (zI mcur), .int (zI mst), .int (zI mtok), .int (zI mval), .ref mQnow, .ref mQfresh, .ref mQwas, .int (zI macts), .ref mQisKept, .ref mQkept, .ref mQheard, .ref mQnumber, .ref mQlowUp, .ref mQlowDown, .ref mQhighUp, .ref mQhighDown, .int (zI mlev), .ref mQseen, .int (zI 0), .ref mQfirst], eA mQnow (cy 0) 11 mNow, eA mQheard (cy 0) 11 mHeard, eA mQnumber (cy 0) 7 mNum, eA mQlowUp (cy 0) 7 mLU, eA mQlowDown (cy 0) 7 mLD, eA mQhighUp (cy 0) 7 mHU, eA mQhighDown (cy 0) 7 mHD] := hD
          refine lv_iinc (v := zI (x3 + 1)) (lv' := [(3, .int (zI (x3 + 1))), (1, .int (zI 1)), (0, .ref mO), (2, .int (zI x2)), (4, .int (zI x4))]) hx hb dX7_narrow_144 hl (k := 3) rfl (zI_add _ _) (by decide) rfl (fun ls hl => ?_)
          refine lv_goto (tgt := 51) hx hb dX7_narrow_147 (by decide) ?_
          have hf := zq_some hf
          exact hf _ _ _ hP hD hS (lv_sub hl [2, 1, 3, 0] rfl)
        · refine lv_iconst (v := zI 1) hx hb dX7_narrow_136 rfl ?_
          refine lv_goto (tgt := 141) hx hb dX7_narrow_137 (by decide) ?_
          refine va_put (D := D) (ci := 6) (v := .int (zI 1)) (ty := .boolean) (C := RX7) (T := TX7) (N := 23) hx hb hts u_X7_narrow_X7 tyX7 tyX7_ok nmX7 hown hK.1 hP hD hS 0 rfl rfl 21 (by decide) (hts _ m_X7_narrow_2) (fun _ h9 => h9) rfl (tyX7_ok 21 (by decide)) rfl rfl (Nat.le_of_ble_eq_true rfl) dX7_narrow_141 (fun H locs hP hD hS => ?_)
          have hP : va_P D vwCl [eO mO 6 [.int (zI mth), .ref mQtext, .int (zI mmany), .int (zI mcur), .int (zI mst), .int (zI mtok), .int (zI mval), .ref mQnow, .ref mQfresh, .ref mQwas, .int (zI macts), .ref mQisKept, .ref mQkept, .ref mQheard, .ref mQnumber, .ref mQlowUp, .ref mQlowDown, .ref mQhighUp, .ref mQhighDown, .int (zI mlev), .ref mQseen, .int (zI 1), .ref mQfirst], eA mQnow (cy 0) 11 mNow, eA mQheard (cy 0) 11 mHeard, eA mQnumber (cy 0) 7 mNum, eA mQlowUp (cy 0) 7 mLU, eA mQlowDown (cy 0) 7 mLD, eA mQhighUp (cy 0) 7 mHU, eA mQhighDown (cy 0) 7 mHD] H := hP
          have hD : va_D A [eO mO 6 [.int (zI mth), .ref mQtext, .int (zI mmany), .int (zI mcur), .int (zI mst), .int (zI mtok), .int (zI mval), .ref mQnow, .ref mQfresh, .ref mQwas, .int (zI macts), .ref mQisKept, .ref mQkept, .ref mQheard, .ref mQnumber, .ref mQlowUp, .ref mQlowDown, .ref mQhighUp, .ref mQhighDown, .int (zI mlev), .ref mQseen, .int (zI 1), .ref mQfirst], eA mQnow (cy 0) 11 mNow, eA mQheard (cy 0) 11 mHeard, eA mQnumber (cy 0) 7 mNum, eA mQlowUp (cy 0) 7 mLU, eA mQlowDown (cy 0) 7 mLD, eA mQhighUp (cy 0) 7 mHU, eA mQhighDown (cy 0) 7 mHD] := hD
          refine lv_iinc (v := zI (x3 + 1)) (lv' := [(3, .int (zI (x3 + 1))), (1, .int (zI 1)), (0, .ref mO), (2, .int (zI x2)), (4, .int (zI x4))]) hx hb dX7_narrow_144 hl (k := 3) rfl (zI_add _ _) (by decide) rfl (fun ls hl => ?_)
          refine lv_goto (tgt := 51) hx hb dX7_narrow_147 (by decide) ?_
          have hf := zq_some hf
          exact hf _ _ _ hP hD hS (lv_sub hl [2, 1, 3, 0] rfl)
    | n + 5, hf => exact hf.elim)
  unfold f_X7_narrow at hf
  refine lv_aload_n hx hb dX7_narrow_0 rfl (lv_at hl 0 rfl) ?_
  refine lv_aload_n hx hb dX7_narrow_1 rfl (lv_at hl 0 rfl) ?_
  refine va_get (D := D) (ci := 6) (v := .ref mQnow) (C := RX7) (T := TX7) (N := 23) hx hb hts u_X7_narrow_X7 hown hK.1 hP 0 rfl rfl 7 (by decide) (hts _ m_X7_narrow_1) (fun _ h9 => h9) rfl dX7_narrow_2 ?_
  obtain ⟨⟨mlev_5, mHeard_5, mNum_5, mLU_5, mLD_5, mHU_5, mHD_5⟩, hc5, hf⟩ := zq_bind hf
  refine zcallVv (wr := []) (rest := []) ⟨hx, hb, hml, hown, hts⟩ (c_X7_begin_n l D cy mO mQtext mQnow mQfresh mQwas mQisKept mQkept mQheard mQnumber mQlowUp mQlowDown mQhighUp mQhighDown mQseen mQfirst s.heap.size mth mmany mcur mst mtok mval macts mlev memp mNow mHeard mNum mLU mLD mHU mHD hc5) (cwV 1 hts gX7_narrow_X7_begin rfl rfl rfl (by decide +kernel) ⟨Nat.le_of_ble_eq_true rfl, Nat.le_of_ble_eq_true rfl⟩) hK hP hD hS hA [0, 1, 2, 3, 4, 5, 6, 7] [] rfl rfl rfl rfl (by decide) (va_recv hK.1 hP (ci := 6) (q0 := 0) rfl rfl) rfl hl.1 rfl (Nat.le_of_ble_eq_true rfl) dX7_narrow_5 ⟨Nat.zero_le _, Nat.zero_le _⟩ (fun H locs hP hD hS => ?_)
  have hP : va_P D vwCl [eO mO 6 [.int (zI mth), .ref mQtext, .int (zI mmany), .int (zI mcur), .int (zI mst), .int (zI mtok), .int (zI mval), .ref mQnow, .ref mQfresh, .ref mQwas, .int (zI macts), .ref mQisKept, .ref mQkept, .ref mQheard, .ref mQnumber, .ref mQlowUp, .ref mQlowDown, .ref mQhighUp, .ref mQhighDown, .int (zI mlev_5), .ref mQseen, .int (zI memp), .ref mQfirst], eA mQnow (cy 0) 11 mNow, eA mQheard (cy 0) 11 mHeard_5, eA mQnumber (cy 0) 7 mNum_5, eA mQlowUp (cy 0) 7 mLU_5, eA mQlowDown (cy 0) 7 mLD_5, eA mQhighUp (cy 0) 7 mHU_5, eA mQhighDown (cy 0) 7 mHD_5] H := hP.sub [0, 1, 2, 3, 4, 5, 6, 7] rfl
  have hD : va_D A [eO mO 6 [.int (zI mth), .ref mQtext, .int (zI mmany), .int (zI mcur), .int (zI mst), .int (zI mtok), .int (zI mval), .ref mQnow, .ref mQfresh, .ref mQwas, .int (zI macts), .ref mQisKept, .ref mQkept, .ref mQheard, .ref mQnumber, .ref mQlowUp, .ref mQlowDown, .ref mQhighUp, .ref mQhighDown, .int (zI mlev_5), .ref mQseen, .int (zI memp), .ref mQfirst], eA mQnow (cy 0) 11 mNow, eA mQheard (cy 0) 11 mHeard_5, eA mQnumber (cy 0) 7 mNum_5, eA mQlowUp (cy 0) 7 mLU_5, eA mQlowDown (cy 0) 7 mLD_5, eA mQhighUp (cy 0) 7 mHU_5, eA mQhighDown (cy 0) 7 mHD_5] := hD.sub [0, 1, 2, 3, 4, 5, 6, 7] rfl rfl
  refine lv_aload_n hx hb dX7_narrow_8 rfl (lv_at hl 0 rfl) ?_
  refine lv_iconst (v := zI 0) hx hb dX7_narrow_9 rfl ?_
  refine va_put (D := D) (ci := 6) (v := .int (zI 0)) (ty := .boolean) (C := RX7) (T := TX7) (N := 23) hx hb hts u_X7_narrow_X7 tyX7 tyX7_ok nmX7 hown hK.1 hP hD hS 0 rfl rfl 21 (by decide) (hts _ m_X7_narrow_2) (fun _ h9 => h9) rfl (tyX7_ok 21 (by decide)) rfl rfl (Nat.le_of_ble_eq_true rfl) dX7_narrow_10 (fun H locs hP hD hS => ?_)
  have hP : va_P D vwCl [eO mO 6 [.int (zI mth), .ref mQtext, .int (zI mmany), .int (zI mcur), .int (zI mst), .int (zI mtok), .int (zI mval), .ref mQnow, .ref mQfresh, .ref mQwas, .int (zI macts), .ref mQisKept, .ref mQkept, .ref mQheard, .ref mQnumber, .ref mQlowUp, .ref mQlowDown, .ref mQhighUp, .ref mQhighDown, .int (zI mlev_5), .ref mQseen, .int (zI 0), .ref mQfirst], eA mQnow (cy 0) 11 mNow, eA mQheard (cy 0) 11 mHeard_5, eA mQnumber (cy 0) 7 mNum_5, eA mQlowUp (cy 0) 7 mLU_5, eA mQlowDown (cy 0) 7 mLD_5, eA mQhighUp (cy 0) 7 mHU_5, eA mQhighDown (cy 0) 7 mHD_5] H := hP
  have hD : va_D A [eO mO 6 [.int (zI mth), .ref mQtext, .int (zI mmany), .int (zI mcur), .int (zI mst), .int (zI mtok), .int (zI mval), .ref mQnow, .ref mQfresh, .ref mQwas, .int (zI macts), .ref mQisKept, .ref mQkept, .ref mQheard, .ref mQnumber, .ref mQlowUp, .ref mQlowDown, .ref mQhighUp, .ref mQhighDown, .int (zI mlev_5), .ref mQseen, .int (zI 0), .ref mQfirst], eA mQnow (cy 0) 11 mNow, eA mQheard (cy 0) 11 mHeard_5, eA mQnumber (cy 0) 7 mNum_5, eA mQlowUp (cy 0) 7 mLU_5, eA mQlowDown (cy 0) 7 mLD_5, eA mQhighUp (cy 0) 7 mHU_5, eA mQhighDown (cy 0) 7 mHD_5] := hD
  refine lv_iconst (v := zI 1) hx hb dX7_narrow_13 rfl ?_
  refine lv_istore_n (lv' := [(1, .int (zI 1)), (0, .ref mO)]) hx hb dX7_narrow_14 rfl hl (by decide) rfl (fun ls hl => ?_)
  exact key _ (zq_eq hf) _ _ _ hP hD hS (lv_sub hl [1, 0] rfl)

noncomputable def st_X7_counts (p1 : Int) (p2 : Int) (p4 : Int) (mNow : Nat → Int) : (Int × Int × Int × (Nat → Int) × (Nat → Int) × (Nat → Int) × (Nat → Int) × (Nat → Int) × (Nat → Int)) → Option ((Int × Int × Int × (Nat → Int) × (Nat → Int) × (Nat → Int) × (Nat → Int) × (Nat → Int) × (Nat → Int)) ⊕ (Int × Int × Int × Int × (Nat → Int) × (Nat → Int) × (Nat → Int) × (Nat → Int) × (Nat → Int) × (Nat → Int))) := fun (mth, mlev, memp, mHeard, mNum, mLU, mLD, mHU, mHD) =>
  (f_X7_countsOf p1 p2 mNow mLU mLD mHU mHD).bind fun r81 =>
  gd (zR p4) <|
  if p4 = 0 then
    some (.inr (r81, mth, mlev, memp, mHeard, mNum, mLU, mLD, mHU, mHD))
  else
    gd (zR r81) <|
    if r81 = 0 then
      some (.inr ((-9), mth, mlev, memp, mHeard, mNum, mLU, mLD, mHU, mHD))
    else
      gd (zR p4 ∧ zR 1) <|
      if p4 = 1 then
        (f_X7_leastOf p1 p2 mNow mHU mHD).bind fun r115 =>
        some (.inr (r115, mth, mlev, memp, mHeard, mNum, mLU, mLD, mHU, mHD))
      else
        (f_X7_greatestOf p1 p2 mNow mLU mLD).bind fun r124 =>
        some (.inr (r124, mth, mlev, memp, mHeard, mNum, mLU, mLD, mHU, mHD))
noncomputable def f_X7_counts (p1 : Int) (p2 : Int) (p3 : Int) (p4 : Int) (mlev : Int) (memp : Int) (mNow : Nat → Int) (mHeard : Nat → Int) (mNum : Nat → Int) (mLU : Nat → Int) (mLD : Nat → Int) (mHU : Nat → Int) (mHD : Nat → Int) : Option (Int × Int × Int × Int × (Nat → Int) × (Nat → Int) × (Nat → Int) × (Nat → Int) × (Nat → Int) × (Nat → Int)) :=
  (f_X7_isArrival p1 mNow).bind fun r7 =>
  gd (zR r7) <|
  if r7 = 0 then
    some ((-1), 0, mlev, memp, mHeard, mNum, mLU, mLD, mHU, mHD)
  else
    (f_X7_isArrival p2 mNow).bind fun r15 =>
    gd (zR r15) <|
    if r15 = 0 then
      some ((-1), 0, mlev, memp, mHeard, mNum, mLU, mLD, mHU, mHD)
    else
      gd (zR p1 ∧ zR p2) <|
      if p1 < p2 then
        gd (zR p3) <|
        (f_X7_in p3 0 1).bind fun r30 =>
        gd (zR r30) <|
        if r30 = 0 then
          some ((-1), 0, mlev, memp, mHeard, mNum, mLU, mLD, mHU, mHD)
        else
          gd (zR p4) <|
          (f_X7_in p4 0 2).bind fun r43 =>
          gd (zR r43) <|
          if r43 = 0 then
            some ((-1), 0, mlev, memp, mHeard, mNum, mLU, mLD, mHU, mHD)
          else
            gd (zR p3 ∧ zR 1) <|
            if p3 = 1 then
              (f_X7_narrow mNow mHeard mNum mLU mLD mHU mHD).bind fun (mlev_57, memp_57, mHeard_57, mNum_57, mLU_57, mLD_57, mHU_57, mHD_57) =>
              gd (zR memp_57) <|
              if memp_57 = 0 then
                zev (st_X7_counts p1 p2 p4 mNow) (0, mlev_57, memp_57, mHeard_57, mNum_57, mLU_57, mLD_57, mHU_57, mHD_57)
              else
                some ((-2), 0, mlev_57, memp_57, mHeard_57, mNum_57, mLU_57, mLD_57, mHU_57, mHD_57)
            else
              (f_X7_begin_n mNow mHeard mNum mLU mLD mHU mHD).bind fun (mlev_75, mHeard_75, mNum_75, mLU_75, mLD_75, mHU_75, mHD_75) =>
              zev (st_X7_counts p1 p2 p4 mNow) (0, mlev_75, memp, mHeard_75, mNum_75, mLU_75, mLD_75, mHU_75, mHD_75)
      else
        some ((-1), 0, mlev, memp, mHeard, mNum, mLU, mLD, mHU, mHD)
theorem m_X7_counts_1 : (.fieldLink RX7 1 "PulseTurnsModel" "thrown" "I" : Cond) ∈ wsX7_counts := List.mem_of_getElem? (i := 1) rfl
theorem m_X7_counts_2 : (.constantLong RX7 178 (2) : Cond) ∈ wsX7_counts := List.mem_of_getElem? (i := 2) rfl
theorem m_X7_counts_3 : (.fieldLink RX7 190 "PulseTurnsModel" "empty" "Z" : Cond) ∈ wsX7_counts := List.mem_of_getElem? (i := 3) rfl
theorem m_X7_counts_4 : (.fieldLink RX7 46 "PulseTurnsModel" "now" "[I" : Cond) ∈ wsX7_counts := List.mem_of_getElem? (i := 4) rfl
theorem u_X7_counts_X7 : ∀ w ∈ wsX70, w ∈ wsX7_counts := fun w h => List.mem_cons_of_mem _ (List.mem_append_right _ h)
set_option maxRecDepth 100000 in
set_option maxHeartbeats 4000000 in
theorem c_X7_counts (l : Launch) (D : va_G) (cy : Nat → ClassId) (mO mQtext mQnow mQfresh mQwas mQisKept mQkept mQheard mQnumber mQlowUp mQlowDown mQhighUp mQhighDown mQseen mQfirst : Nat) (sz : Nat) (p1 : Int) (p2 : Int) (p3 : Int) (p4 : Int) (mth : Int) (mmany : Int) (mcur : Int) (mst : Int) (mtok : Int) (mval : Int) (macts : Int) (mlev : Int) (memp : Int) (mNow : Nat → Int) (mHeard : Nat → Int) (mNum : Nat → Int) (mLU : Nat → Int) (mLD : Nat → Int) (mHU : Nat → Int) (mHD : Nat → Int) {r : Int} {mth' : Int} {mlev' : Int} {memp' : Int} {mHeard' : Nat → Int} {mNum' : Nat → Int} {mLU' : Nat → Int} {mLD' : Nat → Int} {mHU' : Nat → Int} {mHD' : Nat → Int} (hf : f_X7_counts p1 p2 p3 p4 mlev memp mNow mHeard mNum mLU mLD mHU mHD = some (r, mth', mlev', memp', mHeard', mNum', mLU', mLD', mHU', mHD')) : zMi l yX7_counts wsX7_counts ({ frames := 4, cells := 0, slots := 0, locals := 96 }) D cy sz [.ref mO, .int (zI p1), .int (zI p2), .int (zI p3), .int (zI p4)] [eO mO 6 [.int (zI mth), .ref mQtext, .int (zI mmany), .int (zI mcur), .int (zI mst), .int (zI mtok), .int (zI mval), .ref mQnow, .ref mQfresh, .ref mQwas, .int (zI macts), .ref mQisKept, .ref mQkept, .ref mQheard, .ref mQnumber, .ref mQlowUp, .ref mQlowDown, .ref mQhighUp, .ref mQhighDown, .int (zI mlev), .ref mQseen, .int (zI memp), .ref mQfirst], eA mQnow (cy 0) 11 mNow, eA mQheard (cy 0) 11 mHeard, eA mQnumber (cy 0) 7 mNum, eA mQlowUp (cy 0) 7 mLU, eA mQlowDown (cy 0) 7 mLD, eA mQhighUp (cy 0) 7 mHU, eA mQhighDown (cy 0) 7 mHD] [eO mO 6 [.int (zI mth'), .ref mQtext, .int (zI mmany), .int (zI mcur), .int (zI mst), .int (zI mtok), .int (zI mval), .ref mQnow, .ref mQfresh, .ref mQwas, .int (zI macts), .ref mQisKept, .ref mQkept, .ref mQheard, .ref mQnumber, .ref mQlowUp, .ref mQlowDown, .ref mQhighUp, .ref mQhighDown, .int (zI mlev'), .ref mQseen, .int (zI memp'), .ref mQfirst], eA mQnow (cy 0) 11 mNow, eA mQheard (cy 0) 11 mHeard', eA mQnumber (cy 0) 7 mNum', eA mQlowUp (cy 0) 7 mLU', eA mQlowDown (cy 0) 7 mLD', eA mQhighUp (cy 0) 7 mHU', eA mQhighDown (cy 0) 7 mHD'] (zI r) := by
  refine Met.ofW (cc := cX7_counts) (maxL := 6) (ret := (some .int)) (by decide) rfl ?_
  intro p e s m args below meth c s₁ B hml hv
  obtain ⟨rfl, hsz, hP, hK, hD0⟩ := hv
  have hx := B.exec
  have hb := B.bytes
  have hr := B.returns
  have hts := atoms_spec (ws := wsX7_counts) B.pre
  have hown : s.vm.findClass RX7 = some m.cls := findClass_of_methodNamed B.named
  have hlocks := B.notSynchronized
  subst hsz
  have hD := hD0.self (sz := s.heap.size)
  generalize hAe : va_A [eO mO 6 [.int (zI mth), .ref mQtext, .int (zI mmany), .int (zI mcur), .int (zI mst), .int (zI mtok), .int (zI mval), .ref mQnow, .ref mQfresh, .ref mQwas, .int (zI macts), .ref mQisKept, .ref mQkept, .ref mQheard, .ref mQnumber, .ref mQlowUp, .ref mQlowDown, .ref mQhighUp, .ref mQhighDown, .int (zI mlev), .ref mQseen, .int (zI memp), .ref mQfirst], eA mQnow (cy 0) 11 mNow, eA mQheard (cy 0) 11 mHeard, eA mQnumber (cy 0) 7 mNum, eA mQlowUp (cy 0) 7 mLU, eA mQlowDown (cy 0) 7 mLD, eA mQhighUp (cy 0) 7 mHU, eA mQhighDown (cy 0) 7 mHD] s.heap.size = A at hD ⊢
  have hA : ∀ q : Nat, s.heap.size ≤ q → A q := fun q h => by rw [← hAe]; exact Or.inr h
  have hS : va_S A s.heap s.heap [] := va_S.rf
  have hl := lv_entry ([.ref mO, .int (zI p1), .int (zI p2), .int (zI p3), .int (zI p4)]) (n := 6) (Nat.le_of_ble_eq_true rfl)
  rw [lg_entry_eq]
  generalize (lg_sl ([.ref mO, .int (zI p1), .int (zI p2), .int (zI p3), .int (zI p4)]) ++ List.replicate (6 - (lg_sl ([.ref mO, .int (zI p1), .int (zI p2), .int (zI p3), .int (zI p4)])).length) Slot.unset).toArray = ls at hl ⊢
  have hl : lv_has ls 6 [(0, .ref mO), (1, .int (zI p1)), (2, .int (zI p2)), (3, .int (zI p3)), (4, .int (zI p4))] := hl
  have hf := zq_of hf
  have key := zloop (st := st_X7_counts p1 p2 p4 mNow) (res := (r, mth', mlev', memp', mHeard', mNum', mLU', mLD', mHU', mHD')) (K := fun (mth, mlev, memp, mHeard, mNum, mLU, mLD, mHU, mHD) => ∀ (H : Heap) (locs : List Loc) (ls : Array Slot), va_P D vwCl [eO mO 6 [.int (zI mth), .ref mQtext, .int (zI mmany), .int (zI mcur), .int (zI mst), .int (zI mtok), .int (zI mval), .ref mQnow, .ref mQfresh, .ref mQwas, .int (zI macts), .ref mQisKept, .ref mQkept, .ref mQheard, .ref mQnumber, .ref mQlowUp, .ref mQlowDown, .ref mQhighUp, .ref mQhighDown, .int (zI mlev), .ref mQseen, .int (zI memp), .ref mQfirst], eA mQnow (cy 0) 11 mNow, eA mQheard (cy 0) 11 mHeard, eA mQnumber (cy 0) 7 mNum, eA mQlowUp (cy 0) 7 mLU, eA mQlowDown (cy 0) 7 mLD, eA mQhighUp (cy 0) 7 mHU, eA mQhighDown (cy 0) 7 mHD] H → va_D A [eO mO 6 [.int (zI mth), .ref mQtext, .int (zI mmany), .int (zI mcur), .int (zI mst), .int (zI mtok), .int (zI mval), .ref mQnow, .ref mQfresh, .ref mQwas, .int (zI macts), .ref mQisKept, .ref mQkept, .ref mQheard, .ref mQnumber, .ref mQlowUp, .ref mQlowDown, .ref mQhighUp, .ref mQhighDown, .int (zI mlev), .ref mQseen, .int (zI memp), .ref mQfirst], eA mQnow (cy 0) 11 mNow, eA mQheard (cy 0) 11 mHeard, eA mQnumber (cy 0) 7 mNum, eA mQlowUp (cy 0) 7 mLU, eA mQlowDown (cy 0) 7 mLD, eA mQhighUp (cy 0) 7 mHU, eA mQhighDown (cy 0) 7 mHD] → va_S A s.heap H locs → lv_has ls 6 [(0, .ref mO), (1, .int (zI p1)), (2, .int (zI p2)), (3, .int (zI p3)), (4, .int (zI p4))] → zGi p l e wsX7_counts ({ frames := 4, cells := 0, slots := 0, locals := 96 }) s m [.ref mO, .int (zI p1), .int (zI p2), .int (zI p3), .int (zI p4)] below meth c A D [eO mO 6 [.int (zI mth'), .ref mQtext, .int (zI mmany), .int (zI mcur), .int (zI mst), .int (zI mtok), .int (zI mval), .ref mQnow, .ref mQfresh, .ref mQwas, .int (zI macts), .ref mQisKept, .ref mQkept, .ref mQheard, .ref mQnumber, .ref mQlowUp, .ref mQlowDown, .ref mQhighUp, .ref mQhighDown, .int (zI mlev'), .ref mQseen, .int (zI memp'), .ref mQfirst], eA mQnow (cy 0) 11 mNow, eA mQheard (cy 0) 11 mHeard', eA mQnumber (cy 0) 7 mNum', eA mQlowUp (cy 0) 7 mLU', eA mQlowDown (cy 0) 7 mLD', eA mQhighUp (cy 0) 7 mHU', eA mQhighDown (cy 0) 7 mHD'] (zI r) H locs (F0 m 78 ls [])) (by
    rintro ⟨mth, mlev, memp, mHeard, mNum, mLU, mLD, mHU, mHD⟩ hf
    intro H locs ls hP hD hS hl
    unfold st_X7_counts at hf
    try dsimp only at hf
    refine lv_aload_n hx hb dX7_counts_78 rfl (lv_at hl 0 rfl) ?_
    refine lv_iload_n hx hb dX7_counts_79 rfl (lv_at hl 1 rfl) ?_
    refine lv_iload_n hx hb dX7_counts_80 rfl (lv_at hl 2 rfl) ?_
    obtain ⟨r81, hc81, hf⟩ := zq_bind hf
    refine zcallVi (wr := [eA mQheard (cy 0) 11 mHeard, eA mQnumber (cy 0) 7 mNum]) (rest := []) ⟨hx, hb, hml, hown, hts⟩ (c_X7_countsOf l D cy mO mQtext mQnow mQfresh mQwas mQisKept mQkept mQheard mQnumber mQlowUp mQlowDown mQhighUp mQhighDown mQseen mQfirst H.size p1 p2 mth mmany mcur mst mtok mval macts mlev memp mNow mLU mLD mHU mHD hc81) (cwV 2 hts gX7_counts_X7_countsOf rfl rfl rfl (by decide +kernel) ⟨Nat.le_of_ble_eq_true rfl, Nat.le_of_ble_eq_true rfl⟩) hK hP hD hS hA [0, 1, 4, 5, 6, 7] [2, 3] rfl rfl rfl rfl (by decide) (va_recv hK.1 hP (ci := 6) (q0 := 0) rfl rfl) rfl hl.1 rfl (Nat.le_of_ble_eq_true rfl) dX7_counts_81 ⟨Nat.zero_le _, Nat.zero_le _⟩ (fun H locs hP hD hS => ?_)
    have hP : va_P D vwCl [eO mO 6 [.int (zI mth), .ref mQtext, .int (zI mmany), .int (zI mcur), .int (zI mst), .int (zI mtok), .int (zI mval), .ref mQnow, .ref mQfresh, .ref mQwas, .int (zI macts), .ref mQisKept, .ref mQkept, .ref mQheard, .ref mQnumber, .ref mQlowUp, .ref mQlowDown, .ref mQhighUp, .ref mQhighDown, .int (zI mlev), .ref mQseen, .int (zI memp), .ref mQfirst], eA mQnow (cy 0) 11 mNow, eA mQheard (cy 0) 11 mHeard, eA mQnumber (cy 0) 7 mNum, eA mQlowUp (cy 0) 7 mLU, eA mQlowDown (cy 0) 7 mLD, eA mQhighUp (cy 0) 7 mHU, eA mQhighDown (cy 0) 7 mHD] H := hP.sub [2, 3, 0, 1, 4, 5, 6, 7] rfl
    have hD : va_D A [eO mO 6 [.int (zI mth), .ref mQtext, .int (zI mmany), .int (zI mcur), .int (zI mst), .int (zI mtok), .int (zI mval), .ref mQnow, .ref mQfresh, .ref mQwas, .int (zI macts), .ref mQisKept, .ref mQkept, .ref mQheard, .ref mQnumber, .ref mQlowUp, .ref mQlowDown, .ref mQhighUp, .ref mQhighDown, .int (zI mlev), .ref mQseen, .int (zI memp), .ref mQfirst], eA mQnow (cy 0) 11 mNow, eA mQheard (cy 0) 11 mHeard, eA mQnumber (cy 0) 7 mNum, eA mQlowUp (cy 0) 7 mLU, eA mQlowDown (cy 0) 7 mLD, eA mQhighUp (cy 0) 7 mHU, eA mQhighDown (cy 0) 7 mHD] := hD.sub [2, 3, 0, 1, 4, 5, 6, 7] rfl rfl
    refine lv_istore (lv' := [(5, .int (zI r81)), (0, .ref mO), (1, .int (zI p1)), (2, .int (zI p2)), (3, .int (zI p3)), (4, .int (zI p4))]) hx hb dX7_counts_84 hl (by decide) rfl (fun ls hl => ?_)
    refine lv_iload hx hb dX7_counts_86 (lv_at hl 5 rfl) ?_
    refine zz_if_ne (tgt := 96) hx hb dX7_counts_88 (by decide) hf (fun hc hf => ?_) (fun hc hf => ?_)
    · refine lv_iload hx hb dX7_counts_91 (lv_at hl 0 rfl) ?_
      refine lv_goto (tgt := 127) hx hb dX7_counts_93 (by decide) ?_
      have hf := zq_some hf
      cases hf
      exact W.iret hx hb hr (fun t ht hW => ⟨⟨_, (), rfl, rfl, by rw [ht]; exact hP, hD⟩, hS.F ht⟩) hS.2.2 dX7_counts_127
    · refine lv_iload hx hb dX7_counts_96 (lv_at hl 0 rfl) ?_
      refine zz_if_ne (tgt := 106) hx hb dX7_counts_98 (by decide) hf (fun hc hf => ?_) (fun hc hf => ?_)
      · refine lv_bipush (v := zI (-9)) hx hb dX7_counts_101 (by decide) ?_
        refine lv_goto (tgt := 127) hx hb dX7_counts_103 (by decide) ?_
        have hf := zq_some hf
        cases hf
        exact W.iret hx hb hr (fun t ht hW => ⟨⟨_, (), rfl, rfl, by rw [ht]; exact hP, hD⟩, hS.F ht⟩) hS.2.2 dX7_counts_127
      · refine lv_iload hx hb dX7_counts_106 (lv_at hl 5 rfl) ?_
        refine lv_iconst (v := zI 1) hx hb dX7_counts_108 rfl ?_
        refine zz_icmp_ne (tgt := 121) hx hb dX7_counts_109 (by decide) hf (fun hc hf => ?_) (fun hc hf => ?_)
        · refine lv_aload_n hx hb dX7_counts_112 rfl (lv_at hl 1 rfl) ?_
          refine lv_iload_n hx hb dX7_counts_113 rfl (lv_at hl 2 rfl) ?_
          refine lv_iload_n hx hb dX7_counts_114 rfl (lv_at hl 3 rfl) ?_
          obtain ⟨r115, hc115, hf⟩ := zq_bind hf
          refine zcallVi (wr := [eA mQheard (cy 0) 11 mHeard, eA mQnumber (cy 0) 7 mNum, eA mQlowUp (cy 0) 7 mLU, eA mQlowDown (cy 0) 7 mLD]) (rest := []) ⟨hx, hb, hml, hown, hts⟩ (c_X7_leastOf l D cy mO mQtext mQnow mQfresh mQwas mQisKept mQkept mQheard mQnumber mQlowUp mQlowDown mQhighUp mQhighDown mQseen mQfirst H.size p1 p2 mth mmany mcur mst mtok mval macts mlev memp mNow mHU mHD hc115) (cwV 2 hts gX7_counts_X7_leastOf rfl rfl rfl (by decide +kernel) ⟨Nat.le_of_ble_eq_true rfl, Nat.le_of_ble_eq_true rfl⟩) hK hP hD hS hA [0, 1, 6, 7] [2, 3, 4, 5] rfl rfl rfl rfl (by decide) (va_recv hK.1 hP (ci := 6) (q0 := 0) rfl rfl) rfl hl.1 rfl (Nat.le_of_ble_eq_true rfl) dX7_counts_115 ⟨Nat.zero_le _, Nat.zero_le _⟩ (fun H locs hP hD hS => ?_)
          have hP : va_P D vwCl [eO mO 6 [.int (zI mth), .ref mQtext, .int (zI mmany), .int (zI mcur), .int (zI mst), .int (zI mtok), .int (zI mval), .ref mQnow, .ref mQfresh, .ref mQwas, .int (zI macts), .ref mQisKept, .ref mQkept, .ref mQheard, .ref mQnumber, .ref mQlowUp, .ref mQlowDown, .ref mQhighUp, .ref mQhighDown, .int (zI mlev), .ref mQseen, .int (zI memp), .ref mQfirst], eA mQnow (cy 0) 11 mNow, eA mQheard (cy 0) 11 mHeard, eA mQnumber (cy 0) 7 mNum, eA mQlowUp (cy 0) 7 mLU, eA mQlowDown (cy 0) 7 mLD, eA mQhighUp (cy 0) 7 mHU, eA mQhighDown (cy 0) 7 mHD] H := hP.sub [4, 5, 0, 1, 2, 3, 6, 7] rfl
          have hD : va_D A [eO mO 6 [.int (zI mth), .ref mQtext, .int (zI mmany), .int (zI mcur), .int (zI mst), .int (zI mtok), .int (zI mval), .ref mQnow, .ref mQfresh, .ref mQwas, .int (zI macts), .ref mQisKept, .ref mQkept, .ref mQheard, .ref mQnumber, .ref mQlowUp, .ref mQlowDown, .ref mQhighUp, .ref mQhighDown, .int (zI mlev), .ref mQseen, .int (zI memp), .ref mQfirst], eA mQnow (cy 0) 11 mNow, eA mQheard (cy 0) 11 mHeard, eA mQnumber (cy 0) 7 mNum, eA mQlowUp (cy 0) 7 mLU, eA mQlowDown (cy 0) 7 mLD, eA mQhighUp (cy 0) 7 mHU, eA mQhighDown (cy 0) 7 mHD] := hD.sub [4, 5, 0, 1, 2, 3, 6, 7] rfl rfl
          refine lv_goto (tgt := 127) hx hb dX7_counts_118 (by decide) ?_
          have hf := zq_some hf
          cases hf
          exact W.iret hx hb hr (fun t ht hW => ⟨⟨_, (), rfl, rfl, by rw [ht]; exact hP, hD⟩, hS.F ht⟩) hS.2.2 dX7_counts_127
        · refine lv_aload_n hx hb dX7_counts_121 rfl (lv_at hl 1 rfl) ?_
          refine lv_iload_n hx hb dX7_counts_122 rfl (lv_at hl 2 rfl) ?_
          refine lv_iload_n hx hb dX7_counts_123 rfl (lv_at hl 3 rfl) ?_
          obtain ⟨r124, hc124, hf⟩ := zq_bind hf
          refine zcallVi (wr := [eA mQheard (cy 0) 11 mHeard, eA mQnumber (cy 0) 7 mNum, eA mQhighUp (cy 0) 7 mHU, eA mQhighDown (cy 0) 7 mHD]) (rest := []) ⟨hx, hb, hml, hown, hts⟩ (c_X7_greatestOf l D cy mO mQtext mQnow mQfresh mQwas mQisKept mQkept mQheard mQnumber mQlowUp mQlowDown mQhighUp mQhighDown mQseen mQfirst H.size p1 p2 mth mmany mcur mst mtok mval macts mlev memp mNow mLU mLD hc124) (cwV 2 hts gX7_counts_X7_greatestOf rfl rfl rfl (by decide +kernel) ⟨Nat.le_of_ble_eq_true rfl, Nat.le_of_ble_eq_true rfl⟩) hK hP hD hS hA [0, 1, 4, 5] [2, 3, 6, 7] rfl rfl rfl rfl (by decide) (va_recv hK.1 hP (ci := 6) (q0 := 0) rfl rfl) rfl hl.1 rfl (Nat.le_of_ble_eq_true rfl) dX7_counts_124 ⟨Nat.zero_le _, Nat.zero_le _⟩ (fun H locs hP hD hS => ?_)
          have hP : va_P D vwCl [eO mO 6 [.int (zI mth), .ref mQtext, .int (zI mmany), .int (zI mcur), .int (zI mst), .int (zI mtok), .int (zI mval), .ref mQnow, .ref mQfresh, .ref mQwas, .int (zI macts), .ref mQisKept, .ref mQkept, .ref mQheard, .ref mQnumber, .ref mQlowUp, .ref mQlowDown, .ref mQhighUp, .ref mQhighDown, .int (zI mlev), .ref mQseen, .int (zI memp), .ref mQfirst], eA mQnow (cy 0) 11 mNow, eA mQheard (cy 0) 11 mHeard, eA mQnumber (cy 0) 7 mNum, eA mQlowUp (cy 0) 7 mLU, eA mQlowDown (cy 0) 7 mLD, eA mQhighUp (cy 0) 7 mHU, eA mQhighDown (cy 0) 7 mHD] H := hP.sub [4, 5, 0, 1, 6, 7, 2, 3] rfl
          have hD : va_D A [eO mO 6 [.int (zI mth), .ref mQtext, .int (zI mmany), .int (zI mcur), .int (zI mst), .int (zI mtok), .int (zI mval), .ref mQnow, .ref mQfresh, .ref mQwas, .int (zI macts), .ref mQisKept, .ref mQkept, .ref mQheard, .ref mQnumber, .ref mQlowUp, .ref mQlowDown, .ref mQhighUp, .ref mQhighDown, .int (zI mlev), .ref mQseen, .int (zI memp), .ref mQfirst], eA mQnow (cy 0) 11 mNow, eA mQheard (cy 0) 11 mHeard, eA mQnumber (cy 0) 7 mNum, eA mQlowUp (cy 0) 7 mLU, eA mQlowDown (cy 0) 7 mLD, eA mQhighUp (cy 0) 7 mHU, eA mQhighDown (cy 0) 7 mHD] := hD.sub [4, 5, 0, 1, 6, 7, 2, 3] rfl rfl
          have hf := zq_some hf
          cases hf
          exact W.iret hx hb hr (fun t ht hW => ⟨⟨_, (), rfl, rfl, by rw [ht]; exact hP, hD⟩, hS.F ht⟩) hS.2.2 dX7_counts_127
    )
  unfold f_X7_counts at hf
  refine lv_aload_n hx hb dX7_counts_0 rfl (lv_at hl 0 rfl) ?_
  refine lv_iconst (v := zI 0) hx hb dX7_counts_1 rfl ?_
  refine va_put (D := D) (ci := 6) (v := .int (zI 0)) (ty := .int) (C := RX7) (T := TX7) (N := 23) hx hb hts u_X7_counts_X7 tyX7 tyX7_ok nmX7 hown hK.1 hP hD hS 0 rfl rfl 0 (by decide) (hts _ m_X7_counts_1) (fun _ h9 => h9) rfl (tyX7_ok 0 (by decide)) rfl rfl (Nat.le_of_ble_eq_true rfl) dX7_counts_2 (fun H locs hP hD hS => ?_)
  have hP : va_P D vwCl [eO mO 6 [.int (zI 0), .ref mQtext, .int (zI mmany), .int (zI mcur), .int (zI mst), .int (zI mtok), .int (zI mval), .ref mQnow, .ref mQfresh, .ref mQwas, .int (zI macts), .ref mQisKept, .ref mQkept, .ref mQheard, .ref mQnumber, .ref mQlowUp, .ref mQlowDown, .ref mQhighUp, .ref mQhighDown, .int (zI mlev), .ref mQseen, .int (zI memp), .ref mQfirst], eA mQnow (cy 0) 11 mNow, eA mQheard (cy 0) 11 mHeard, eA mQnumber (cy 0) 7 mNum, eA mQlowUp (cy 0) 7 mLU, eA mQlowDown (cy 0) 7 mLD, eA mQhighUp (cy 0) 7 mHU, eA mQhighDown (cy 0) 7 mHD] H := hP
  have hD : va_D A [eO mO 6 [.int (zI 0), .ref mQtext, .int (zI mmany), .int (zI mcur), .int (zI mst), .int (zI mtok), .int (zI mval), .ref mQnow, .ref mQfresh, .ref mQwas, .int (zI macts), .ref mQisKept, .ref mQkept, .ref mQheard, .ref mQnumber, .ref mQlowUp, .ref mQlowDown, .ref mQhighUp, .ref mQhighDown, .int (zI mlev), .ref mQseen, .int (zI memp), .ref mQfirst], eA mQnow (cy 0) 11 mNow, eA mQheard (cy 0) 11 mHeard, eA mQnumber (cy 0) 7 mNum, eA mQlowUp (cy 0) 7 mLU, eA mQlowDown (cy 0) 7 mLD, eA mQhighUp (cy 0) 7 mHU, eA mQhighDown (cy 0) 7 mHD] := hD
  refine lv_aload_n hx hb dX7_counts_5 rfl (lv_at hl 0 rfl) ?_
  refine lv_iload_n hx hb dX7_counts_6 rfl (lv_at hl 1 rfl) ?_
  obtain ⟨r7, hc7, hf⟩ := zq_bind hf
  refine zcallVi (wr := [eA mQheard (cy 0) 11 mHeard, eA mQnumber (cy 0) 7 mNum, eA mQlowUp (cy 0) 7 mLU, eA mQlowDown (cy 0) 7 mLD, eA mQhighUp (cy 0) 7 mHU, eA mQhighDown (cy 0) 7 mHD]) (rest := []) ⟨hx, hb, hml, hown, hts⟩ (c_X7_isArrival l D cy mO mQtext mQnow mQfresh mQwas mQisKept mQkept mQheard mQnumber mQlowUp mQlowDown mQhighUp mQhighDown mQseen mQfirst H.size p1 0 mmany mcur mst mtok mval macts mlev memp mNow hc7) (cwV 1 hts gX7_counts_X7_isArrival rfl rfl rfl (by decide +kernel) ⟨Nat.le_of_ble_eq_true rfl, Nat.le_of_ble_eq_true rfl⟩) hK hP hD hS hA [0, 1] [2, 3, 4, 5, 6, 7] rfl rfl rfl rfl (by decide) (va_recv hK.1 hP (ci := 6) (q0 := 0) rfl rfl) rfl hl.1 rfl (Nat.le_of_ble_eq_true rfl) dX7_counts_7 ⟨Nat.zero_le _, Nat.zero_le _⟩ (fun H locs hP hD hS => ?_)
  have hP : va_P D vwCl [eO mO 6 [.int (zI 0), .ref mQtext, .int (zI mmany), .int (zI mcur), .int (zI mst), .int (zI mtok), .int (zI mval), .ref mQnow, .ref mQfresh, .ref mQwas, .int (zI macts), .ref mQisKept, .ref mQkept, .ref mQheard, .ref mQnumber, .ref mQlowUp, .ref mQlowDown, .ref mQhighUp, .ref mQhighDown, .int (zI mlev), .ref mQseen, .int (zI memp), .ref mQfirst], eA mQnow (cy 0) 11 mNow, eA mQheard (cy 0) 11 mHeard, eA mQnumber (cy 0) 7 mNum, eA mQlowUp (cy 0) 7 mLU, eA mQlowDown (cy 0) 7 mLD, eA mQhighUp (cy 0) 7 mHU, eA mQhighDown (cy 0) 7 mHD] H := hP.sub [6, 7, 0, 1, 2, 3, 4, 5] rfl
  have hD : va_D A [eO mO 6 [.int (zI 0), .ref mQtext, .int (zI mmany), .int (zI mcur), .int (zI mst), .int (zI mtok), .int (zI mval), .ref mQnow, .ref mQfresh, .ref mQwas, .int (zI macts), .ref mQisKept, .ref mQkept, .ref mQheard, .ref mQnumber, .ref mQlowUp, .ref mQlowDown, .ref mQhighUp, .ref mQhighDown, .int (zI mlev), .ref mQseen, .int (zI memp), .ref mQfirst], eA mQnow (cy 0) 11 mNow, eA mQheard (cy 0) 11 mHeard, eA mQnumber (cy 0) 7 mNum, eA mQlowUp (cy 0) 7 mLU, eA mQlowDown (cy 0) 7 mLD, eA mQhighUp (cy 0) 7 mHU, eA mQhighDown (cy 0) 7 mHD] := hD.sub [6, 7, 0, 1, 2, 3, 4, 5] rfl rfl
  refine zz_if_eq (tgt := 49) hx hb dX7_counts_10 (by decide) hf (fun hc hf => ?_) (fun hc hf => ?_)
  · refine lv_iconst (v := zI (-1)) hx hb dX7_counts_49 rfl ?_
    have hf := zq_some hf
    cases hf
    exact W.iret hx hb hr (fun t ht hW => ⟨⟨_, (), rfl, rfl, by rw [ht]; exact hP, hD⟩, hS.F ht⟩) hS.2.2 dX7_counts_50
  · refine lv_aload_n hx hb dX7_counts_13 rfl (lv_at hl 0 rfl) ?_
    refine lv_iload_n hx hb dX7_counts_14 rfl (lv_at hl 2 rfl) ?_
    obtain ⟨r15, hc15, hf⟩ := zq_bind hf
    refine zcallVi (wr := [eA mQheard (cy 0) 11 mHeard, eA mQnumber (cy 0) 7 mNum, eA mQlowUp (cy 0) 7 mLU, eA mQlowDown (cy 0) 7 mLD, eA mQhighUp (cy 0) 7 mHU, eA mQhighDown (cy 0) 7 mHD]) (rest := []) ⟨hx, hb, hml, hown, hts⟩ (c_X7_isArrival l D cy mO mQtext mQnow mQfresh mQwas mQisKept mQkept mQheard mQnumber mQlowUp mQlowDown mQhighUp mQhighDown mQseen mQfirst H.size p2 0 mmany mcur mst mtok mval macts mlev memp mNow hc15) (cwV 1 hts gX7_counts_X7_isArrival rfl rfl rfl (by decide +kernel) ⟨Nat.le_of_ble_eq_true rfl, Nat.le_of_ble_eq_true rfl⟩) hK hP hD hS hA [0, 1] [2, 3, 4, 5, 6, 7] rfl rfl rfl rfl (by decide) (va_recv hK.1 hP (ci := 6) (q0 := 0) rfl rfl) rfl hl.1 rfl (Nat.le_of_ble_eq_true rfl) dX7_counts_15 ⟨Nat.zero_le _, Nat.zero_le _⟩ (fun H locs hP hD hS => ?_)
    have hP : va_P D vwCl [eO mO 6 [.int (zI 0), .ref mQtext, .int (zI mmany), .int (zI mcur), .int (zI mst), .int (zI mtok), .int (zI mval), .ref mQnow, .ref mQfresh, .ref mQwas, .int (zI macts), .ref mQisKept, .ref mQkept, .ref mQheard, .ref mQnumber, .ref mQlowUp, .ref mQlowDown, .ref mQhighUp, .ref mQhighDown, .int (zI mlev), .ref mQseen, .int (zI memp), .ref mQfirst], eA mQnow (cy 0) 11 mNow, eA mQheard (cy 0) 11 mHeard, eA mQnumber (cy 0) 7 mNum, eA mQlowUp (cy 0) 7 mLU, eA mQlowDown (cy 0) 7 mLD, eA mQhighUp (cy 0) 7 mHU, eA mQhighDown (cy 0) 7 mHD] H := hP.sub [6, 7, 0, 1, 2, 3, 4, 5] rfl
    have hD : va_D A [eO mO 6 [.int (zI 0), .ref mQtext, .int (zI mmany), .int (zI mcur), .int (zI mst), .int (zI mtok), .int (zI mval), .ref mQnow, .ref mQfresh, .ref mQwas, .int (zI macts), .ref mQisKept, .ref mQkept, .ref mQheard, .ref mQnumber, .ref mQlowUp, .ref mQlowDown, .ref mQhighUp, .ref mQhighDown, .int (zI mlev), .ref mQseen, .int (zI memp), .ref mQfirst], eA mQnow (cy 0) 11 mNow, eA mQheard (cy 0) 11 mHeard, eA mQnumber (cy 0) 7 mNum, eA mQlowUp (cy 0) 7 mLU, eA mQlowDown (cy 0) 7 mLD, eA mQhighUp (cy 0) 7 mHU, eA mQhighDown (cy 0) 7 mHD] := hD.sub [6, 7, 0, 1, 2, 3, 4, 5] rfl rfl
    refine zz_if_eq (tgt := 49) hx hb dX7_counts_18 (by decide) hf (fun hc hf => ?_) (fun hc hf => ?_)
    · refine lv_iconst (v := zI (-1)) hx hb dX7_counts_49 rfl ?_
      have hf := zq_some hf
      cases hf
      exact W.iret hx hb hr (fun t ht hW => ⟨⟨_, (), rfl, rfl, by rw [ht]; exact hP, hD⟩, hS.F ht⟩) hS.2.2 dX7_counts_50
    · refine lv_iload_n hx hb dX7_counts_21 rfl (lv_at hl 1 rfl) ?_
      refine lv_iload_n hx hb dX7_counts_22 rfl (lv_at hl 2 rfl) ?_
      refine zz_icmp_ge (tgt := 49) hx hb dX7_counts_23 (by decide) hf (fun hc hf => ?_) (fun hc hf => ?_)
      · refine lv_iload_n hx hb dX7_counts_26 rfl (lv_at hl 3 rfl) ?_
        obtain ⟨hg, hf⟩ := zq_gd hf
        refine lv_i2l (v := zL p3) hx hb dX7_counts_27 (zL_i hg) ?_
        refine lv_lconst (v := zL 0) hx hb dX7_counts_28 (by decide) ?_
        refine lv_lconst (v := zL 1) hx hb dX7_counts_29 (by decide) ?_
        obtain ⟨r30, hc30, hf⟩ := zq_bind hf
        refine zcallSi (wr := [eO mO 6 [.int (zI 0), .ref mQtext, .int (zI mmany), .int (zI mcur), .int (zI mst), .int (zI mtok), .int (zI mval), .ref mQnow, .ref mQfresh, .ref mQwas, .int (zI macts), .ref mQisKept, .ref mQkept, .ref mQheard, .ref mQnumber, .ref mQlowUp, .ref mQlowDown, .ref mQhighUp, .ref mQhighDown, .int (zI mlev), .ref mQseen, .int (zI memp), .ref mQfirst], eA mQnow (cy 0) 11 mNow, eA mQheard (cy 0) 11 mHeard, eA mQnumber (cy 0) 7 mNum, eA mQlowUp (cy 0) 7 mLU, eA mQlowDown (cy 0) 7 mLD, eA mQhighUp (cy 0) 7 mHU, eA mQhighDown (cy 0) 7 mHD]) (rest := []) ⟨hx, hb, hml, hown, hts⟩ (c_X7_in l D cy H.size p3 0 1 hc30) (va_cwS 3 hts gX7_counts_X7_in rfl rfl rfl (by decide +kernel) ⟨Nat.le_of_ble_eq_true rfl, Nat.le_of_ble_eq_true rfl⟩) hK hP hD hS hA [] [0, 1, 2, 3, 4, 5, 6, 7] rfl rfl rfl rfl (by decide) rfl hl.1 rfl (Nat.le_of_ble_eq_true rfl) dX7_counts_30 ⟨Nat.zero_le _, Nat.zero_le _⟩ (fun H locs hP hD hS => ?_)
        have hP : va_P D vwCl [eO mO 6 [.int (zI 0), .ref mQtext, .int (zI mmany), .int (zI mcur), .int (zI mst), .int (zI mtok), .int (zI mval), .ref mQnow, .ref mQfresh, .ref mQwas, .int (zI macts), .ref mQisKept, .ref mQkept, .ref mQheard, .ref mQnumber, .ref mQlowUp, .ref mQlowDown, .ref mQhighUp, .ref mQhighDown, .int (zI mlev), .ref mQseen, .int (zI memp), .ref mQfirst], eA mQnow (cy 0) 11 mNow, eA mQheard (cy 0) 11 mHeard, eA mQnumber (cy 0) 7 mNum, eA mQlowUp (cy 0) 7 mLU, eA mQlowDown (cy 0) 7 mLD, eA mQhighUp (cy 0) 7 mHU, eA mQhighDown (cy 0) 7 mHD] H := hP.sub [0, 1, 2, 3, 4, 5, 6, 7] rfl
        have hD : va_D A [eO mO 6 [.int (zI 0), .ref mQtext, .int (zI mmany), .int (zI mcur), .int (zI mst), .int (zI mtok), .int (zI mval), .ref mQnow, .ref mQfresh, .ref mQwas, .int (zI macts), .ref mQisKept, .ref mQkept, .ref mQheard, .ref mQnumber, .ref mQlowUp, .ref mQlowDown, .ref mQhighUp, .ref mQhighDown, .int (zI mlev), .ref mQseen, .int (zI memp), .ref mQfirst], eA mQnow (cy 0) 11 mNow, eA mQheard (cy 0) 11 mHeard, eA mQnumber (cy 0) 7 mNum, eA mQlowUp (cy 0) 7 mLU, eA mQlowDown (cy 0) 7 mLD, eA mQhighUp (cy 0) 7 mHU, eA mQhighDown (cy 0) 7 mHD] := hD.sub [0, 1, 2, 3, 4, 5, 6, 7] rfl rfl
        refine zz_if_eq (tgt := 49) hx hb dX7_counts_33 (by decide) hf (fun hc hf => ?_) (fun hc hf => ?_)
        · refine lv_iconst (v := zI (-1)) hx hb dX7_counts_49 rfl ?_
          have hf := zq_some hf
          cases hf
          exact W.iret hx hb hr (fun t ht hW => ⟨⟨_, (), rfl, rfl, by rw [ht]; exact hP, hD⟩, hS.F ht⟩) hS.2.2 dX7_counts_50
        · refine lv_iload hx hb dX7_counts_36 (lv_at hl 4 rfl) ?_
          obtain ⟨hg, hf⟩ := zq_gd hf
          refine lv_i2l (v := zL p4) hx hb dX7_counts_38 (zL_i hg) ?_
          refine lv_lconst (v := zL 0) hx hb dX7_counts_39 (by decide) ?_
          refine lv_ldc2 (v := zL 2) hx hb hown (hts _ m_X7_counts_2) dX7_counts_40 ?_
          obtain ⟨r43, hc43, hf⟩ := zq_bind hf
          refine zcallSi (wr := [eO mO 6 [.int (zI 0), .ref mQtext, .int (zI mmany), .int (zI mcur), .int (zI mst), .int (zI mtok), .int (zI mval), .ref mQnow, .ref mQfresh, .ref mQwas, .int (zI macts), .ref mQisKept, .ref mQkept, .ref mQheard, .ref mQnumber, .ref mQlowUp, .ref mQlowDown, .ref mQhighUp, .ref mQhighDown, .int (zI mlev), .ref mQseen, .int (zI memp), .ref mQfirst], eA mQnow (cy 0) 11 mNow, eA mQheard (cy 0) 11 mHeard, eA mQnumber (cy 0) 7 mNum, eA mQlowUp (cy 0) 7 mLU, eA mQlowDown (cy 0) 7 mLD, eA mQhighUp (cy 0) 7 mHU, eA mQhighDown (cy 0) 7 mHD]) (rest := []) ⟨hx, hb, hml, hown, hts⟩ (c_X7_in l D cy H.size p4 0 2 hc43) (va_cwS 3 hts gX7_counts_X7_in rfl rfl rfl (by decide +kernel) ⟨Nat.le_of_ble_eq_true rfl, Nat.le_of_ble_eq_true rfl⟩) hK hP hD hS hA [] [0, 1, 2, 3, 4, 5, 6, 7] rfl rfl rfl rfl (by decide) rfl hl.1 rfl (Nat.le_of_ble_eq_true rfl) dX7_counts_43 ⟨Nat.zero_le _, Nat.zero_le _⟩ (fun H locs hP hD hS => ?_)
          have hP : va_P D vwCl [eO mO 6 [.int (zI 0), .ref mQtext, .int (zI mmany), .int (zI mcur), .int (zI mst), .int (zI mtok), .int (zI mval), .ref mQnow, .ref mQfresh, .ref mQwas, .int (zI macts), .ref mQisKept, .ref mQkept, .ref mQheard, .ref mQnumber, .ref mQlowUp, .ref mQlowDown, .ref mQhighUp, .ref mQhighDown, .int (zI mlev), .ref mQseen, .int (zI memp), .ref mQfirst], eA mQnow (cy 0) 11 mNow, eA mQheard (cy 0) 11 mHeard, eA mQnumber (cy 0) 7 mNum, eA mQlowUp (cy 0) 7 mLU, eA mQlowDown (cy 0) 7 mLD, eA mQhighUp (cy 0) 7 mHU, eA mQhighDown (cy 0) 7 mHD] H := hP.sub [0, 1, 2, 3, 4, 5, 6, 7] rfl
          have hD : va_D A [eO mO 6 [.int (zI 0), .ref mQtext, .int (zI mmany), .int (zI mcur), .int (zI mst), .int (zI mtok), .int (zI mval), .ref mQnow, .ref mQfresh, .ref mQwas, .int (zI macts), .ref mQisKept, .ref mQkept, .ref mQheard, .ref mQnumber, .ref mQlowUp, .ref mQlowDown, .ref mQhighUp, .ref mQhighDown, .int (zI mlev), .ref mQseen, .int (zI memp), .ref mQfirst], eA mQnow (cy 0) 11 mNow, eA mQheard (cy 0) 11 mHeard, eA mQnumber (cy 0) 7 mNum, eA mQlowUp (cy 0) 7 mLU, eA mQlowDown (cy 0) 7 mLD, eA mQhighUp (cy 0) 7 mHU, eA mQhighDown (cy 0) 7 mHD] := hD.sub [0, 1, 2, 3, 4, 5, 6, 7] rfl rfl
          refine zz_if_ne (tgt := 51) hx hb dX7_counts_46 (by decide) hf (fun hc hf => ?_) (fun hc hf => ?_)
          · refine lv_iconst (v := zI (-1)) hx hb dX7_counts_49 rfl ?_
            have hf := zq_some hf
            cases hf
            exact W.iret hx hb hr (fun t ht hW => ⟨⟨_, (), rfl, rfl, by rw [ht]; exact hP, hD⟩, hS.F ht⟩) hS.2.2 dX7_counts_50
          · refine lv_iload_n hx hb dX7_counts_51 rfl (lv_at hl 3 rfl) ?_
            refine lv_iconst (v := zI 1) hx hb dX7_counts_52 rfl ?_
            refine zz_icmp_ne (tgt := 70) hx hb dX7_counts_53 (by decide) hf (fun hc hf => ?_) (fun hc hf => ?_)
            · refine lv_aload_n hx hb dX7_counts_56 rfl (lv_at hl 0 rfl) ?_
              obtain ⟨⟨mlev_57, memp_57, mHeard_57, mNum_57, mLU_57, mLD_57, mHU_57, mHD_57⟩, hc57, hf⟩ := zq_bind hf
              refine zcallVv (wr := []) (rest := []) ⟨hx, hb, hml, hown, hts⟩ (c_X7_narrow l D cy mO mQtext mQnow mQfresh mQwas mQisKept mQkept mQheard mQnumber mQlowUp mQlowDown mQhighUp mQhighDown mQseen mQfirst H.size 0 mmany mcur mst mtok mval macts mlev memp mNow mHeard mNum mLU mLD mHU mHD hc57) (cwV 0 hts gX7_counts_X7_narrow rfl rfl rfl (by decide +kernel) ⟨Nat.le_of_ble_eq_true rfl, Nat.le_of_ble_eq_true rfl⟩) hK hP hD hS hA [0, 1, 2, 3, 4, 5, 6, 7] [] rfl rfl rfl rfl (by decide) (va_recv hK.1 hP (ci := 6) (q0 := 0) rfl rfl) rfl hl.1 rfl (Nat.le_of_ble_eq_true rfl) dX7_counts_57 ⟨Nat.zero_le _, Nat.zero_le _⟩ (fun H locs hP hD hS => ?_)
              have hP : va_P D vwCl [eO mO 6 [.int (zI 0), .ref mQtext, .int (zI mmany), .int (zI mcur), .int (zI mst), .int (zI mtok), .int (zI mval), .ref mQnow, .ref mQfresh, .ref mQwas, .int (zI macts), .ref mQisKept, .ref mQkept, .ref mQheard, .ref mQnumber, .ref mQlowUp, .ref mQlowDown, .ref mQhighUp, .ref mQhighDown, .int (zI mlev_57), .ref mQseen, .int (zI memp_57), .ref mQfirst], eA mQnow (cy 0) 11 mNow, eA mQheard (cy 0) 11 mHeard_57, eA mQnumber (cy 0) 7 mNum_57, eA mQlowUp (cy 0) 7 mLU_57, eA mQlowDown (cy 0) 7 mLD_57, eA mQhighUp (cy 0) 7 mHU_57, eA mQhighDown (cy 0) 7 mHD_57] H := hP.sub [0, 1, 2, 3, 4, 5, 6, 7] rfl
              have hD : va_D A [eO mO 6 [.int (zI 0), .ref mQtext, .int (zI mmany), .int (zI mcur), .int (zI mst), .int (zI mtok), .int (zI mval), .ref mQnow, .ref mQfresh, .ref mQwas, .int (zI macts), .ref mQisKept, .ref mQkept, .ref mQheard, .ref mQnumber, .ref mQlowUp, .ref mQlowDown, .ref mQhighUp, .ref mQhighDown, .int (zI mlev_57), .ref mQseen, .int (zI memp_57), .ref mQfirst], eA mQnow (cy 0) 11 mNow, eA mQheard (cy 0) 11 mHeard_57, eA mQnumber (cy 0) 7 mNum_57, eA mQlowUp (cy 0) 7 mLU_57, eA mQlowDown (cy 0) 7 mLD_57, eA mQhighUp (cy 0) 7 mHU_57, eA mQhighDown (cy 0) 7 mHD_57] := hD.sub [0, 1, 2, 3, 4, 5, 6, 7] rfl rfl
              refine lv_aload_n hx hb dX7_counts_60 rfl (lv_at hl 0 rfl) ?_
              refine va_get (D := D) (ci := 6) (v := .int (zI memp_57)) (C := RX7) (T := TX7) (N := 23) hx hb hts u_X7_counts_X7 hown hK.1 hP 0 rfl rfl 21 (by decide) (hts _ m_X7_counts_3) (fun _ h9 => h9) rfl dX7_counts_61 ?_
              refine zz_if_eq (tgt := 78) hx hb dX7_counts_64 (by decide) hf (fun hc hf => ?_) (fun hc hf => ?_)
              · exact key _ (zq_eq hf) _ _ _ hP hD hS (lv_sub hl [0, 1, 2, 3, 4] rfl)
              · refine lv_bipush (v := zI (-2)) hx hb dX7_counts_67 (by decide) ?_
                have hf := zq_some hf
                cases hf
                exact W.iret hx hb hr (fun t ht hW => ⟨⟨_, (), rfl, rfl, by rw [ht]; exact hP, hD⟩, hS.F ht⟩) hS.2.2 dX7_counts_69
            · refine lv_aload_n hx hb dX7_counts_70 rfl (lv_at hl 0 rfl) ?_
              refine lv_aload_n hx hb dX7_counts_71 rfl (lv_at hl 0 rfl) ?_
              refine va_get (D := D) (ci := 6) (v := .ref mQnow) (C := RX7) (T := TX7) (N := 23) hx hb hts u_X7_counts_X7 hown hK.1 hP 0 rfl rfl 7 (by decide) (hts _ m_X7_counts_4) (fun _ h9 => h9) rfl dX7_counts_72 ?_
              obtain ⟨⟨mlev_75, mHeard_75, mNum_75, mLU_75, mLD_75, mHU_75, mHD_75⟩, hc75, hf⟩ := zq_bind hf
              refine zcallVv (wr := []) (rest := []) ⟨hx, hb, hml, hown, hts⟩ (c_X7_begin_n l D cy mO mQtext mQnow mQfresh mQwas mQisKept mQkept mQheard mQnumber mQlowUp mQlowDown mQhighUp mQhighDown mQseen mQfirst H.size 0 mmany mcur mst mtok mval macts mlev memp mNow mHeard mNum mLU mLD mHU mHD hc75) (cwV 1 hts gX7_counts_X7_begin rfl rfl rfl (by decide +kernel) ⟨Nat.le_of_ble_eq_true rfl, Nat.le_of_ble_eq_true rfl⟩) hK hP hD hS hA [0, 1, 2, 3, 4, 5, 6, 7] [] rfl rfl rfl rfl (by decide) (va_recv hK.1 hP (ci := 6) (q0 := 0) rfl rfl) rfl hl.1 rfl (Nat.le_of_ble_eq_true rfl) dX7_counts_75 ⟨Nat.zero_le _, Nat.zero_le _⟩ (fun H locs hP hD hS => ?_)
              have hP : va_P D vwCl [eO mO 6 [.int (zI 0), .ref mQtext, .int (zI mmany), .int (zI mcur), .int (zI mst), .int (zI mtok), .int (zI mval), .ref mQnow, .ref mQfresh, .ref mQwas, .int (zI macts), .ref mQisKept, .ref mQkept, .ref mQheard, .ref mQnumber, .ref mQlowUp, .ref mQlowDown, .ref mQhighUp, .ref mQhighDown, .int (zI mlev_75), .ref mQseen, .int (zI memp), .ref mQfirst], eA mQnow (cy 0) 11 mNow, eA mQheard (cy 0) 11 mHeard_75, eA mQnumber (cy 0) 7 mNum_75, eA mQlowUp (cy 0) 7 mLU_75, eA mQlowDown (cy 0) 7 mLD_75, eA mQhighUp (cy 0) 7 mHU_75, eA mQhighDown (cy 0) 7 mHD_75] H := hP.sub [0, 1, 2, 3, 4, 5, 6, 7] rfl
              have hD : va_D A [eO mO 6 [.int (zI 0), .ref mQtext, .int (zI mmany), .int (zI mcur), .int (zI mst), .int (zI mtok), .int (zI mval), .ref mQnow, .ref mQfresh, .ref mQwas, .int (zI macts), .ref mQisKept, .ref mQkept, .ref mQheard, .ref mQnumber, .ref mQlowUp, .ref mQlowDown, .ref mQhighUp, .ref mQhighDown, .int (zI mlev_75), .ref mQseen, .int (zI memp), .ref mQfirst], eA mQnow (cy 0) 11 mNow, eA mQheard (cy 0) 11 mHeard_75, eA mQnumber (cy 0) 7 mNum_75, eA mQlowUp (cy 0) 7 mLU_75, eA mQlowDown (cy 0) 7 mLD_75, eA mQhighUp (cy 0) 7 mHU_75, eA mQhighDown (cy 0) 7 mHD_75] := hD.sub [0, 1, 2, 3, 4, 5, 6, 7] rfl rfl
              exact key _ (zq_eq hf) _ _ _ hP hD hS (lv_sub hl [0, 1, 2, 3, 4] rfl)
      · refine lv_iconst (v := zI (-1)) hx hb dX7_counts_49 rfl ?_
        have hf := zq_some hf
        cases hf
        exact W.iret hx hb hr (fun t ht hW => ⟨⟨_, (), rfl, rfl, by rw [ht]; exact hP, hD⟩, hS.F ht⟩) hS.2.2 dX7_counts_50

noncomputable def f_X7_narrowed (p1 : Int) (mlev : Int) (memp : Int) (mNow : Nat → Int) (mHeard : Nat → Int) (mNum : Nat → Int) (mLU : Nat → Int) (mLD : Nat → Int) (mHU : Nat → Int) (mHD : Nat → Int) : Option (Int × Int × Int × Int × (Nat → Int) × (Nat → Int) × (Nat → Int) × (Nat → Int) × (Nat → Int) × (Nat → Int)) :=
  gd (zR p1) <|
  (f_X7_in p1 0 3).bind fun r11 =>
  gd (zR r11) <|
  if r11 = 0 then
    some ((-1), 0, mlev, memp, mHeard, mNum, mLU, mLD, mHU, mHD)
  else
    (f_X7_narrow mNow mHeard mNum mLU mLD mHU mHD).bind fun (mlev_20, memp_20, mHeard_20, mNum_20, mLU_20, mLD_20, mHU_20, mHD_20) =>
    gd (zR memp_20) <|
    if memp_20 = 0 then
      (f_X7_ends (mLU_20 0) (mLD_20 0) (mHU_20 0) (mHD_20 0) p1).bind fun r60 =>
      some (r60, 0, mlev_20, memp_20, mHeard_20, mNum_20, mLU_20, mLD_20, mHU_20, mHD_20)
    else
      some ((-9), 0, mlev_20, memp_20, mHeard_20, mNum_20, mLU_20, mLD_20, mHU_20, mHD_20)
theorem m_X7_narrowed_1 : (.fieldLink RX7 1 "PulseTurnsModel" "thrown" "I" : Cond) ∈ wsX7_narrowed := List.mem_of_getElem? (i := 1) rfl
theorem m_X7_narrowed_2 : (.constantLong RX7 172 (3) : Cond) ∈ wsX7_narrowed := List.mem_of_getElem? (i := 2) rfl
theorem m_X7_narrowed_3 : (.fieldLink RX7 190 "PulseTurnsModel" "empty" "Z" : Cond) ∈ wsX7_narrowed := List.mem_of_getElem? (i := 3) rfl
theorem m_X7_narrowed_4 : (.fieldLink RX7 68 "PulseTurnsModel" "lowUp" "[I" : Cond) ∈ wsX7_narrowed := List.mem_of_getElem? (i := 4) rfl
theorem m_X7_narrowed_5 : (.fieldLink RX7 71 "PulseTurnsModel" "lowDown" "[I" : Cond) ∈ wsX7_narrowed := List.mem_of_getElem? (i := 5) rfl
theorem m_X7_narrowed_6 : (.fieldLink RX7 74 "PulseTurnsModel" "highUp" "[I" : Cond) ∈ wsX7_narrowed := List.mem_of_getElem? (i := 6) rfl
theorem m_X7_narrowed_7 : (.fieldLink RX7 77 "PulseTurnsModel" "highDown" "[I" : Cond) ∈ wsX7_narrowed := List.mem_of_getElem? (i := 7) rfl
theorem u_X7_narrowed_X7 : ∀ w ∈ wsX70, w ∈ wsX7_narrowed := fun w h => List.mem_cons_of_mem _ (List.mem_append_right _ h)
set_option maxRecDepth 100000 in
set_option maxHeartbeats 4000000 in
theorem c_X7_narrowed (l : Launch) (D : va_G) (cy : Nat → ClassId) (mO mQtext mQnow mQfresh mQwas mQisKept mQkept mQheard mQnumber mQlowUp mQlowDown mQhighUp mQhighDown mQseen mQfirst : Nat) (sz : Nat) (p1 : Int) (mth : Int) (mmany : Int) (mcur : Int) (mst : Int) (mtok : Int) (mval : Int) (macts : Int) (mlev : Int) (memp : Int) (mNow : Nat → Int) (mHeard : Nat → Int) (mNum : Nat → Int) (mLU : Nat → Int) (mLD : Nat → Int) (mHU : Nat → Int) (mHD : Nat → Int) {r : Int} {mth' : Int} {mlev' : Int} {memp' : Int} {mHeard' : Nat → Int} {mNum' : Nat → Int} {mLU' : Nat → Int} {mLD' : Nat → Int} {mHU' : Nat → Int} {mHD' : Nat → Int} (hf : f_X7_narrowed p1 mlev memp mNow mHeard mNum mLU mLD mHU mHD = some (r, mth', mlev', memp', mHeard', mNum', mLU', mLD', mHU', mHD')) : zMi l yX7_narrowed wsX7_narrowed ({ frames := 4, cells := 0, slots := 0, locals := 96 }) D cy sz [.ref mO, .int (zI p1)] [eO mO 6 [.int (zI mth), .ref mQtext, .int (zI mmany), .int (zI mcur), .int (zI mst), .int (zI mtok), .int (zI mval), .ref mQnow, .ref mQfresh, .ref mQwas, .int (zI macts), .ref mQisKept, .ref mQkept, .ref mQheard, .ref mQnumber, .ref mQlowUp, .ref mQlowDown, .ref mQhighUp, .ref mQhighDown, .int (zI mlev), .ref mQseen, .int (zI memp), .ref mQfirst], eA mQnow (cy 0) 11 mNow, eA mQheard (cy 0) 11 mHeard, eA mQnumber (cy 0) 7 mNum, eA mQlowUp (cy 0) 7 mLU, eA mQlowDown (cy 0) 7 mLD, eA mQhighUp (cy 0) 7 mHU, eA mQhighDown (cy 0) 7 mHD] [eO mO 6 [.int (zI mth'), .ref mQtext, .int (zI mmany), .int (zI mcur), .int (zI mst), .int (zI mtok), .int (zI mval), .ref mQnow, .ref mQfresh, .ref mQwas, .int (zI macts), .ref mQisKept, .ref mQkept, .ref mQheard, .ref mQnumber, .ref mQlowUp, .ref mQlowDown, .ref mQhighUp, .ref mQhighDown, .int (zI mlev'), .ref mQseen, .int (zI memp'), .ref mQfirst], eA mQnow (cy 0) 11 mNow, eA mQheard (cy 0) 11 mHeard', eA mQnumber (cy 0) 7 mNum', eA mQlowUp (cy 0) 7 mLU', eA mQlowDown (cy 0) 7 mLD', eA mQhighUp (cy 0) 7 mHU', eA mQhighDown (cy 0) 7 mHD'] (zI r) := by
  refine Met.ofW (cc := cX7_narrowed) (maxL := 2) (ret := (some .int)) (by decide) rfl ?_
  intro p e s m args below meth c s₁ B hml hv
  obtain ⟨rfl, hsz, hP, hK, hD0⟩ := hv
  have hx := B.exec
  have hb := B.bytes
  have hr := B.returns
  have hts := atoms_spec (ws := wsX7_narrowed) B.pre
  have hown : s.vm.findClass RX7 = some m.cls := findClass_of_methodNamed B.named
  have hlocks := B.notSynchronized
  subst hsz
  have hD := hD0.self (sz := s.heap.size)
  generalize hAe : va_A [eO mO 6 [.int (zI mth), .ref mQtext, .int (zI mmany), .int (zI mcur), .int (zI mst), .int (zI mtok), .int (zI mval), .ref mQnow, .ref mQfresh, .ref mQwas, .int (zI macts), .ref mQisKept, .ref mQkept, .ref mQheard, .ref mQnumber, .ref mQlowUp, .ref mQlowDown, .ref mQhighUp, .ref mQhighDown, .int (zI mlev), .ref mQseen, .int (zI memp), .ref mQfirst], eA mQnow (cy 0) 11 mNow, eA mQheard (cy 0) 11 mHeard, eA mQnumber (cy 0) 7 mNum, eA mQlowUp (cy 0) 7 mLU, eA mQlowDown (cy 0) 7 mLD, eA mQhighUp (cy 0) 7 mHU, eA mQhighDown (cy 0) 7 mHD] s.heap.size = A at hD ⊢
  have hA : ∀ q : Nat, s.heap.size ≤ q → A q := fun q h => by rw [← hAe]; exact Or.inr h
  have hS : va_S A s.heap s.heap [] := va_S.rf
  have hl := lv_entry ([.ref mO, .int (zI p1)]) (n := 2) (Nat.le_of_ble_eq_true rfl)
  rw [lg_entry_eq]
  generalize (lg_sl ([.ref mO, .int (zI p1)]) ++ List.replicate (2 - (lg_sl ([.ref mO, .int (zI p1)])).length) Slot.unset).toArray = ls at hl ⊢
  have hl : lv_has ls 2 [(0, .ref mO), (1, .int (zI p1))] := hl
  have hf := zq_of hf
  unfold f_X7_narrowed at hf
  refine lv_aload_n hx hb dX7_narrowed_0 rfl (lv_at hl 0 rfl) ?_
  refine lv_iconst (v := zI 0) hx hb dX7_narrowed_1 rfl ?_
  refine va_put (D := D) (ci := 6) (v := .int (zI 0)) (ty := .int) (C := RX7) (T := TX7) (N := 23) hx hb hts u_X7_narrowed_X7 tyX7 tyX7_ok nmX7 hown hK.1 hP hD hS 0 rfl rfl 0 (by decide) (hts _ m_X7_narrowed_1) (fun _ h9 => h9) rfl (tyX7_ok 0 (by decide)) rfl rfl (Nat.le_of_ble_eq_true rfl) dX7_narrowed_2 (fun H locs hP hD hS => ?_)
  have hP : va_P D vwCl [eO mO 6 [.int (zI 0), .ref mQtext, .int (zI mmany), .int (zI mcur), .int (zI mst), .int (zI mtok), .int (zI mval), .ref mQnow, .ref mQfresh, .ref mQwas, .int (zI macts), .ref mQisKept, .ref mQkept, .ref mQheard, .ref mQnumber, .ref mQlowUp, .ref mQlowDown, .ref mQhighUp, .ref mQhighDown, .int (zI mlev), .ref mQseen, .int (zI memp), .ref mQfirst], eA mQnow (cy 0) 11 mNow, eA mQheard (cy 0) 11 mHeard, eA mQnumber (cy 0) 7 mNum, eA mQlowUp (cy 0) 7 mLU, eA mQlowDown (cy 0) 7 mLD, eA mQhighUp (cy 0) 7 mHU, eA mQhighDown (cy 0) 7 mHD] H := hP
  have hD : va_D A [eO mO 6 [.int (zI 0), .ref mQtext, .int (zI mmany), .int (zI mcur), .int (zI mst), .int (zI mtok), .int (zI mval), .ref mQnow, .ref mQfresh, .ref mQwas, .int (zI macts), .ref mQisKept, .ref mQkept, .ref mQheard, .ref mQnumber, .ref mQlowUp, .ref mQlowDown, .ref mQhighUp, .ref mQhighDown, .int (zI mlev), .ref mQseen, .int (zI memp), .ref mQfirst], eA mQnow (cy 0) 11 mNow, eA mQheard (cy 0) 11 mHeard, eA mQnumber (cy 0) 7 mNum, eA mQlowUp (cy 0) 7 mLU, eA mQlowDown (cy 0) 7 mLD, eA mQhighUp (cy 0) 7 mHU, eA mQhighDown (cy 0) 7 mHD] := hD
  refine lv_iload_n hx hb dX7_narrowed_5 rfl (lv_at hl 1 rfl) ?_
  obtain ⟨hg, hf⟩ := zq_gd hf
  refine lv_i2l (v := zL p1) hx hb dX7_narrowed_6 (zL_i hg) ?_
  refine lv_lconst (v := zL 0) hx hb dX7_narrowed_7 (by decide) ?_
  refine lv_ldc2 (v := zL 3) hx hb hown (hts _ m_X7_narrowed_2) dX7_narrowed_8 ?_
  obtain ⟨r11, hc11, hf⟩ := zq_bind hf
  refine zcallSi (wr := [eO mO 6 [.int (zI 0), .ref mQtext, .int (zI mmany), .int (zI mcur), .int (zI mst), .int (zI mtok), .int (zI mval), .ref mQnow, .ref mQfresh, .ref mQwas, .int (zI macts), .ref mQisKept, .ref mQkept, .ref mQheard, .ref mQnumber, .ref mQlowUp, .ref mQlowDown, .ref mQhighUp, .ref mQhighDown, .int (zI mlev), .ref mQseen, .int (zI memp), .ref mQfirst], eA mQnow (cy 0) 11 mNow, eA mQheard (cy 0) 11 mHeard, eA mQnumber (cy 0) 7 mNum, eA mQlowUp (cy 0) 7 mLU, eA mQlowDown (cy 0) 7 mLD, eA mQhighUp (cy 0) 7 mHU, eA mQhighDown (cy 0) 7 mHD]) (rest := []) ⟨hx, hb, hml, hown, hts⟩ (c_X7_in l D cy H.size p1 0 3 hc11) (va_cwS 3 hts gX7_narrowed_X7_in rfl rfl rfl (by decide +kernel) ⟨Nat.le_of_ble_eq_true rfl, Nat.le_of_ble_eq_true rfl⟩) hK hP hD hS hA [] [0, 1, 2, 3, 4, 5, 6, 7] rfl rfl rfl rfl (by decide) rfl hl.1 rfl (Nat.le_of_ble_eq_true rfl) dX7_narrowed_11 ⟨Nat.zero_le _, Nat.zero_le _⟩ (fun H locs hP hD hS => ?_)
  have hP : va_P D vwCl [eO mO 6 [.int (zI 0), .ref mQtext, .int (zI mmany), .int (zI mcur), .int (zI mst), .int (zI mtok), .int (zI mval), .ref mQnow, .ref mQfresh, .ref mQwas, .int (zI macts), .ref mQisKept, .ref mQkept, .ref mQheard, .ref mQnumber, .ref mQlowUp, .ref mQlowDown, .ref mQhighUp, .ref mQhighDown, .int (zI mlev), .ref mQseen, .int (zI memp), .ref mQfirst], eA mQnow (cy 0) 11 mNow, eA mQheard (cy 0) 11 mHeard, eA mQnumber (cy 0) 7 mNum, eA mQlowUp (cy 0) 7 mLU, eA mQlowDown (cy 0) 7 mLD, eA mQhighUp (cy 0) 7 mHU, eA mQhighDown (cy 0) 7 mHD] H := hP.sub [0, 1, 2, 3, 4, 5, 6, 7] rfl
  have hD : va_D A [eO mO 6 [.int (zI 0), .ref mQtext, .int (zI mmany), .int (zI mcur), .int (zI mst), .int (zI mtok), .int (zI mval), .ref mQnow, .ref mQfresh, .ref mQwas, .int (zI macts), .ref mQisKept, .ref mQkept, .ref mQheard, .ref mQnumber, .ref mQlowUp, .ref mQlowDown, .ref mQhighUp, .ref mQhighDown, .int (zI mlev), .ref mQseen, .int (zI memp), .ref mQfirst], eA mQnow (cy 0) 11 mNow, eA mQheard (cy 0) 11 mHeard, eA mQnumber (cy 0) 7 mNum, eA mQlowUp (cy 0) 7 mLU, eA mQlowDown (cy 0) 7 mLD, eA mQhighUp (cy 0) 7 mHU, eA mQhighDown (cy 0) 7 mHD] := hD.sub [0, 1, 2, 3, 4, 5, 6, 7] rfl rfl
  refine zz_if_ne (tgt := 19) hx hb dX7_narrowed_14 (by decide) hf (fun hc hf => ?_) (fun hc hf => ?_)
  · refine lv_iconst (v := zI (-1)) hx hb dX7_narrowed_17 rfl ?_
    have hf := zq_some hf
    cases hf
    exact W.iret hx hb hr (fun t ht hW => ⟨⟨_, (), rfl, rfl, by rw [ht]; exact hP, hD⟩, hS.F ht⟩) hS.2.2 dX7_narrowed_18
  · refine lv_aload_n hx hb dX7_narrowed_19 rfl (lv_at hl 0 rfl) ?_
    obtain ⟨⟨mlev_20, memp_20, mHeard_20, mNum_20, mLU_20, mLD_20, mHU_20, mHD_20⟩, hc20, hf⟩ := zq_bind hf
    refine zcallVv (wr := []) (rest := []) ⟨hx, hb, hml, hown, hts⟩ (c_X7_narrow l D cy mO mQtext mQnow mQfresh mQwas mQisKept mQkept mQheard mQnumber mQlowUp mQlowDown mQhighUp mQhighDown mQseen mQfirst H.size 0 mmany mcur mst mtok mval macts mlev memp mNow mHeard mNum mLU mLD mHU mHD hc20) (cwV 0 hts gX7_narrowed_X7_narrow rfl rfl rfl (by decide +kernel) ⟨Nat.le_of_ble_eq_true rfl, Nat.le_of_ble_eq_true rfl⟩) hK hP hD hS hA [0, 1, 2, 3, 4, 5, 6, 7] [] rfl rfl rfl rfl (by decide) (va_recv hK.1 hP (ci := 6) (q0 := 0) rfl rfl) rfl hl.1 rfl (Nat.le_of_ble_eq_true rfl) dX7_narrowed_20 ⟨Nat.zero_le _, Nat.zero_le _⟩ (fun H locs hP hD hS => ?_)
    have hP : va_P D vwCl [eO mO 6 [.int (zI 0), .ref mQtext, .int (zI mmany), .int (zI mcur), .int (zI mst), .int (zI mtok), .int (zI mval), .ref mQnow, .ref mQfresh, .ref mQwas, .int (zI macts), .ref mQisKept, .ref mQkept, .ref mQheard, .ref mQnumber, .ref mQlowUp, .ref mQlowDown, .ref mQhighUp, .ref mQhighDown, .int (zI mlev_20), .ref mQseen, .int (zI memp_20), .ref mQfirst], eA mQnow (cy 0) 11 mNow, eA mQheard (cy 0) 11 mHeard_20, eA mQnumber (cy 0) 7 mNum_20, eA mQlowUp (cy 0) 7 mLU_20, eA mQlowDown (cy 0) 7 mLD_20, eA mQhighUp (cy 0) 7 mHU_20, eA mQhighDown (cy 0) 7 mHD_20] H := hP.sub [0, 1, 2, 3, 4, 5, 6, 7] rfl
    have hD : va_D A [eO mO 6 [.int (zI 0), .ref mQtext, .int (zI mmany), .int (zI mcur), .int (zI mst), .int (zI mtok), .int (zI mval), .ref mQnow, .ref mQfresh, .ref mQwas, .int (zI macts), .ref mQisKept, .ref mQkept, .ref mQheard, .ref mQnumber, .ref mQlowUp, .ref mQlowDown, .ref mQhighUp, .ref mQhighDown, .int (zI mlev_20), .ref mQseen, .int (zI memp_20), .ref mQfirst], eA mQnow (cy 0) 11 mNow, eA mQheard (cy 0) 11 mHeard_20, eA mQnumber (cy 0) 7 mNum_20, eA mQlowUp (cy 0) 7 mLU_20, eA mQlowDown (cy 0) 7 mLD_20, eA mQhighUp (cy 0) 7 mHU_20, eA mQhighDown (cy 0) 7 mHD_20] := hD.sub [0, 1, 2, 3, 4, 5, 6, 7] rfl rfl
    refine lv_aload_n hx hb dX7_narrowed_23 rfl (lv_at hl 0 rfl) ?_
    refine va_get (D := D) (ci := 6) (v := .int (zI memp_20)) (C := RX7) (T := TX7) (N := 23) hx hb hts u_X7_narrowed_X7 hown hK.1 hP 0 rfl rfl 21 (by decide) (hts _ m_X7_narrowed_3) (fun _ h9 => h9) rfl dX7_narrowed_24 ?_
    refine zz_if_eq (tgt := 35) hx hb dX7_narrowed_27 (by decide) hf (fun hc hf => ?_) (fun hc hf => ?_)
    · refine lv_aload_n hx hb dX7_narrowed_35 rfl (lv_at hl 0 rfl) ?_
      refine va_get (D := D) (ci := 6) (v := .ref mQlowUp) (C := RX7) (T := TX7) (N := 23) hx hb hts u_X7_narrowed_X7 hown hK.1 hP 0 rfl rfl 15 (by decide) (hts _ m_X7_narrowed_4) (fun _ h9 => h9) rfl dX7_narrowed_36 ?_
      refine lv_iconst (v := zI 0) hx hb dX7_narrowed_39 rfl ?_
      refine zz_iald (i := 0) hx hb hK hP 4 rfl (Nat.le_of_ble_eq_true rfl) (by decide) dX7_narrowed_40 ?_
      refine lv_aload_n hx hb dX7_narrowed_41 rfl (lv_at hl 0 rfl) ?_
      refine va_get (D := D) (ci := 6) (v := .ref mQlowDown) (C := RX7) (T := TX7) (N := 23) hx hb hts u_X7_narrowed_X7 hown hK.1 hP 0 rfl rfl 16 (by decide) (hts _ m_X7_narrowed_5) (fun _ h9 => h9) rfl dX7_narrowed_42 ?_
      refine lv_iconst (v := zI 0) hx hb dX7_narrowed_45 rfl ?_
      refine zz_iald (i := 0) hx hb hK hP 5 rfl (Nat.le_of_ble_eq_true rfl) (by decide) dX7_narrowed_46 ?_
      refine lv_aload_n hx hb dX7_narrowed_47 rfl (lv_at hl 0 rfl) ?_
      refine va_get (D := D) (ci := 6) (v := .ref mQhighUp) (C := RX7) (T := TX7) (N := 23) hx hb hts u_X7_narrowed_X7 hown hK.1 hP 0 rfl rfl 17 (by decide) (hts _ m_X7_narrowed_6) (fun _ h9 => h9) rfl dX7_narrowed_48 ?_
      refine lv_iconst (v := zI 0) hx hb dX7_narrowed_51 rfl ?_
      refine zz_iald (i := 0) hx hb hK hP 6 rfl (Nat.le_of_ble_eq_true rfl) (by decide) dX7_narrowed_52 ?_
      refine lv_aload_n hx hb dX7_narrowed_53 rfl (lv_at hl 0 rfl) ?_
      refine va_get (D := D) (ci := 6) (v := .ref mQhighDown) (C := RX7) (T := TX7) (N := 23) hx hb hts u_X7_narrowed_X7 hown hK.1 hP 0 rfl rfl 18 (by decide) (hts _ m_X7_narrowed_7) (fun _ h9 => h9) rfl dX7_narrowed_54 ?_
      refine lv_iconst (v := zI 0) hx hb dX7_narrowed_57 rfl ?_
      refine zz_iald (i := 0) hx hb hK hP 7 rfl (Nat.le_of_ble_eq_true rfl) (by decide) dX7_narrowed_58 ?_
      refine lv_iload_n hx hb dX7_narrowed_59 rfl (lv_at hl 1 rfl) ?_
      obtain ⟨r60, hc60, hf⟩ := zq_bind hf
      refine zcallSi (wr := [eO mO 6 [.int (zI 0), .ref mQtext, .int (zI mmany), .int (zI mcur), .int (zI mst), .int (zI mtok), .int (zI mval), .ref mQnow, .ref mQfresh, .ref mQwas, .int (zI macts), .ref mQisKept, .ref mQkept, .ref mQheard, .ref mQnumber, .ref mQlowUp, .ref mQlowDown, .ref mQhighUp, .ref mQhighDown, .int (zI mlev_20), .ref mQseen, .int (zI memp_20), .ref mQfirst], eA mQnow (cy 0) 11 mNow, eA mQheard (cy 0) 11 mHeard_20, eA mQnumber (cy 0) 7 mNum_20, eA mQlowUp (cy 0) 7 mLU_20, eA mQlowDown (cy 0) 7 mLD_20, eA mQhighUp (cy 0) 7 mHU_20, eA mQhighDown (cy 0) 7 mHD_20]) (rest := []) ⟨hx, hb, hml, hown, hts⟩ (c_X7_ends l D cy H.size (mLU_20 0) (mLD_20 0) (mHU_20 0) (mHD_20 0) p1 hc60) (va_cwS 5 hts gX7_narrowed_X7_ends rfl rfl rfl (by decide +kernel) ⟨Nat.le_of_ble_eq_true rfl, Nat.le_of_ble_eq_true rfl⟩) hK hP hD hS hA [] [0, 1, 2, 3, 4, 5, 6, 7] rfl rfl rfl rfl (by decide) rfl hl.1 rfl (Nat.le_of_ble_eq_true rfl) dX7_narrowed_60 ⟨Nat.zero_le _, Nat.zero_le _⟩ (fun H locs hP hD hS => ?_)
      have hP : va_P D vwCl [eO mO 6 [.int (zI 0), .ref mQtext, .int (zI mmany), .int (zI mcur), .int (zI mst), .int (zI mtok), .int (zI mval), .ref mQnow, .ref mQfresh, .ref mQwas, .int (zI macts), .ref mQisKept, .ref mQkept, .ref mQheard, .ref mQnumber, .ref mQlowUp, .ref mQlowDown, .ref mQhighUp, .ref mQhighDown, .int (zI mlev_20), .ref mQseen, .int (zI memp_20), .ref mQfirst], eA mQnow (cy 0) 11 mNow, eA mQheard (cy 0) 11 mHeard_20, eA mQnumber (cy 0) 7 mNum_20, eA mQlowUp (cy 0) 7 mLU_20, eA mQlowDown (cy 0) 7 mLD_20, eA mQhighUp (cy 0) 7 mHU_20, eA mQhighDown (cy 0) 7 mHD_20] H := hP.sub [0, 1, 2, 3, 4, 5, 6, 7] rfl
      have hD : va_D A [eO mO 6 [.int (zI 0), .ref mQtext, .int (zI mmany), .int (zI mcur), .int (zI mst), .int (zI mtok), .int (zI mval), .ref mQnow, .ref mQfresh, .ref mQwas, .int (zI macts), .ref mQisKept, .ref mQkept, .ref mQheard, .ref mQnumber, .ref mQlowUp, .ref mQlowDown, .ref mQhighUp, .ref mQhighDown, .int (zI mlev_20), .ref mQseen, .int (zI memp_20), .ref mQfirst], eA mQnow (cy 0) 11 mNow, eA mQheard (cy 0) 11 mHeard_20, eA mQnumber (cy 0) 7 mNum_20, eA mQlowUp (cy 0) 7 mLU_20, eA mQlowDown (cy 0) 7 mLD_20, eA mQhighUp (cy 0) 7 mHU_20, eA mQhighDown (cy 0) 7 mHD_20] := hD.sub [0, 1, 2, 3, 4, 5, 6, 7] rfl rfl
      have hf := zq_some hf
      cases hf
      exact W.iret hx hb hr (fun t ht hW => ⟨⟨_, (), rfl, rfl, by rw [ht]; exact hP, hD⟩, hS.F ht⟩) hS.2.2 dX7_narrowed_63
    · refine lv_bipush (v := zI (-9)) hx hb dX7_narrowed_30 (by decide) ?_
      refine lv_goto (tgt := 63) hx hb dX7_narrowed_32 (by decide) ?_
      have hf := zq_some hf
      cases hf
      exact W.iret hx hb hr (fun t ht hW => ⟨⟨_, (), rfl, rfl, by rw [ht]; exact hP, hD⟩, hS.F ht⟩) hS.2.2 dX7_narrowed_63

noncomputable def st_X7_keep (p1 : Int) (mNow : Nat → Int) : (Int × Int × (Nat → Int) × (Nat → Int)) → Option ((Int × Int × (Nat → Int) × (Nat → Int)) ⊕ (Int × Int × (Nat → Int) × (Nat → Int))) := fun (x2, mth, mIsK, mKept) =>
  gd (zR x2 ∧ zR 11) <|
  if x2 < 11 then
    gd (zin x2 11) <|
    gd (zin ((11 * p1) + x2) 22) <|
    some (.inl ((x2 + 1), mth, mIsK, (zup mKept ((11 * p1) + x2) (mNow (Int.toNat x2)))))
  else
    gd (zin p1 2) <|
    some (.inr ((mNow 0), mth, (zup mIsK p1 1), mKept))
noncomputable def f_X7_keep (p1 : Int) (mNow : Nat → Int) (mIsK : Nat → Int) (mKept : Nat → Int) : Option (Int × Int × (Nat → Int) × (Nat → Int)) :=
  gd (zR p1) <|
  (f_X7_in p1 0 1).bind fun r9 =>
  gd (zR r9) <|
  if r9 = 0 then
    some ((-1), 0, mIsK, mKept)
  else
    zev (st_X7_keep p1 mNow) (0, 0, mIsK, mKept)
theorem m_X7_keep_1 : (.fieldLink RX7 1 "PulseTurnsModel" "thrown" "I" : Cond) ∈ wsX7_keep := List.mem_of_getElem? (i := 1) rfl
theorem m_X7_keep_2 : (.fieldLink RX7 59 "PulseTurnsModel" "kept" "[I" : Cond) ∈ wsX7_keep := List.mem_of_getElem? (i := 2) rfl
theorem m_X7_keep_3 : (.fieldLink RX7 46 "PulseTurnsModel" "now" "[I" : Cond) ∈ wsX7_keep := List.mem_of_getElem? (i := 3) rfl
theorem m_X7_keep_4 : (.fieldLink RX7 55 "PulseTurnsModel" "isKept" "[Z" : Cond) ∈ wsX7_keep := List.mem_of_getElem? (i := 4) rfl
theorem u_X7_keep_X7 : ∀ w ∈ wsX70, w ∈ wsX7_keep := fun w h => List.mem_cons_of_mem _ (List.mem_append_right _ h)
set_option maxRecDepth 100000 in
set_option maxHeartbeats 4000000 in
theorem c_X7_keep (l : Launch) (D : va_G) (cy : Nat → ClassId) (mO mQtext mQnow mQfresh mQwas mQisKept mQkept mQheard mQnumber mQlowUp mQlowDown mQhighUp mQhighDown mQseen mQfirst : Nat) (sz : Nat) (p1 : Int) (mth : Int) (mmany : Int) (mcur : Int) (mst : Int) (mtok : Int) (mval : Int) (macts : Int) (mlev : Int) (memp : Int) (mNow : Nat → Int) (mIsK : Nat → Int) (mKept : Nat → Int) {r : Int} {mth' : Int} {mIsK' : Nat → Int} {mKept' : Nat → Int} (hf : f_X7_keep p1 mNow mIsK mKept = some (r, mth', mIsK', mKept')) : zMi l yX7_keep wsX7_keep ({ frames := 1, cells := 0, slots := 0, locals := 25 }) D cy sz [.ref mO, .int (zI p1)] [eO mO 6 [.int (zI mth), .ref mQtext, .int (zI mmany), .int (zI mcur), .int (zI mst), .int (zI mtok), .int (zI mval), .ref mQnow, .ref mQfresh, .ref mQwas, .int (zI macts), .ref mQisKept, .ref mQkept, .ref mQheard, .ref mQnumber, .ref mQlowUp, .ref mQlowDown, .ref mQhighUp, .ref mQhighDown, .int (zI mlev), .ref mQseen, .int (zI memp), .ref mQfirst], eA mQnow (cy 0) 11 mNow, eA mQisKept (cy 2) 2 mIsK, eA mQkept (cy 0) 22 mKept] [eO mO 6 [.int (zI mth'), .ref mQtext, .int (zI mmany), .int (zI mcur), .int (zI mst), .int (zI mtok), .int (zI mval), .ref mQnow, .ref mQfresh, .ref mQwas, .int (zI macts), .ref mQisKept, .ref mQkept, .ref mQheard, .ref mQnumber, .ref mQlowUp, .ref mQlowDown, .ref mQhighUp, .ref mQhighDown, .int (zI mlev), .ref mQseen, .int (zI memp), .ref mQfirst], eA mQnow (cy 0) 11 mNow, eA mQisKept (cy 2) 2 mIsK', eA mQkept (cy 0) 22 mKept'] (zI r) := by
  refine Met.ofW (cc := cX7_keep) (maxL := 3) (ret := (some .int)) (by decide) rfl ?_
  intro p e s m args below meth c s₁ B hml hv
  obtain ⟨rfl, hsz, hP, hK, hD0⟩ := hv
  have hx := B.exec
  have hb := B.bytes
  have hr := B.returns
  have hts := atoms_spec (ws := wsX7_keep) B.pre
  have hown : s.vm.findClass RX7 = some m.cls := findClass_of_methodNamed B.named
  have hlocks := B.notSynchronized
  subst hsz
  have hD := hD0.self (sz := s.heap.size)
  generalize hAe : va_A [eO mO 6 [.int (zI mth), .ref mQtext, .int (zI mmany), .int (zI mcur), .int (zI mst), .int (zI mtok), .int (zI mval), .ref mQnow, .ref mQfresh, .ref mQwas, .int (zI macts), .ref mQisKept, .ref mQkept, .ref mQheard, .ref mQnumber, .ref mQlowUp, .ref mQlowDown, .ref mQhighUp, .ref mQhighDown, .int (zI mlev), .ref mQseen, .int (zI memp), .ref mQfirst], eA mQnow (cy 0) 11 mNow, eA mQisKept (cy 2) 2 mIsK, eA mQkept (cy 0) 22 mKept] s.heap.size = A at hD ⊢
  have hA : ∀ q : Nat, s.heap.size ≤ q → A q := fun q h => by rw [← hAe]; exact Or.inr h
  have hS : va_S A s.heap s.heap [] := va_S.rf
  have hl := lv_entry ([.ref mO, .int (zI p1)]) (n := 3) (Nat.le_of_ble_eq_true rfl)
  rw [lg_entry_eq]
  generalize (lg_sl ([.ref mO, .int (zI p1)]) ++ List.replicate (3 - (lg_sl ([.ref mO, .int (zI p1)])).length) Slot.unset).toArray = ls at hl ⊢
  have hl : lv_has ls 3 [(0, .ref mO), (1, .int (zI p1))] := hl
  have hf := zq_of hf
  have key := zloop (st := st_X7_keep p1 mNow) (res := (r, mth', mIsK', mKept')) (K := fun (x2, mth, mIsK, mKept) => ∀ (H : Heap) (locs : List Loc) (ls : Array Slot), va_P D vwCl [eO mO 6 [.int (zI mth), .ref mQtext, .int (zI mmany), .int (zI mcur), .int (zI mst), .int (zI mtok), .int (zI mval), .ref mQnow, .ref mQfresh, .ref mQwas, .int (zI macts), .ref mQisKept, .ref mQkept, .ref mQheard, .ref mQnumber, .ref mQlowUp, .ref mQlowDown, .ref mQhighUp, .ref mQhighDown, .int (zI mlev), .ref mQseen, .int (zI memp), .ref mQfirst], eA mQnow (cy 0) 11 mNow, eA mQisKept (cy 2) 2 mIsK, eA mQkept (cy 0) 22 mKept] H → va_D A [eO mO 6 [.int (zI mth), .ref mQtext, .int (zI mmany), .int (zI mcur), .int (zI mst), .int (zI mtok), .int (zI mval), .ref mQnow, .ref mQfresh, .ref mQwas, .int (zI macts), .ref mQisKept, .ref mQkept, .ref mQheard, .ref mQnumber, .ref mQlowUp, .ref mQlowDown, .ref mQhighUp, .ref mQhighDown, .int (zI mlev), .ref mQseen, .int (zI memp), .ref mQfirst], eA mQnow (cy 0) 11 mNow, eA mQisKept (cy 2) 2 mIsK, eA mQkept (cy 0) 22 mKept] → va_S A s.heap H locs → lv_has ls 3 [(0, .ref mO), (1, .int (zI p1)), (2, .int (zI x2))] → zGi p l e wsX7_keep ({ frames := 1, cells := 0, slots := 0, locals := 25 }) s m [.ref mO, .int (zI p1)] below meth c A D [eO mO 6 [.int (zI mth'), .ref mQtext, .int (zI mmany), .int (zI mcur), .int (zI mst), .int (zI mtok), .int (zI mval), .ref mQnow, .ref mQfresh, .ref mQwas, .int (zI macts), .ref mQisKept, .ref mQkept, .ref mQheard, .ref mQnumber, .ref mQlowUp, .ref mQlowDown, .ref mQhighUp, .ref mQhighDown, .int (zI mlev), .ref mQseen, .int (zI memp), .ref mQfirst], eA mQnow (cy 0) 11 mNow, eA mQisKept (cy 2) 2 mIsK', eA mQkept (cy 0) 22 mKept'] (zI r) H locs (F0 m 19 ls [])) (by
    rintro ⟨x2, mth, mIsK, mKept⟩ hf
    intro H locs ls hP hD hS hl
    unfold st_X7_keep at hf
    try dsimp only at hf
    refine lv_iload_n hx hb dX7_keep_19 rfl (lv_at hl 2 rfl) ?_
    refine lv_bipush (v := zI 11) hx hb dX7_keep_20 (by decide) ?_
    refine zz_icmp_ge (tgt := 48) hx hb dX7_keep_22 (by decide) hf (fun hc hf => ?_) (fun hc hf => ?_)
    · refine lv_aload_n hx hb dX7_keep_25 rfl (lv_at hl 0 rfl) ?_
      refine va_get (D := D) (ci := 6) (v := .ref mQkept) (C := RX7) (T := TX7) (N := 23) hx hb hts u_X7_keep_X7 hown hK.1 hP 0 rfl rfl 12 (by decide) (hts _ m_X7_keep_2) (fun _ h9 => h9) rfl dX7_keep_26 ?_
      refine lv_bipush (v := zI 11) hx hb dX7_keep_29 (by decide) ?_
      refine lv_iload_n hx hb dX7_keep_31 rfl (lv_at hl 1 rfl) ?_
      refine zz_imul hx hb dX7_keep_32 ?_
      refine lv_iload_n hx hb dX7_keep_33 rfl (lv_at hl 2 rfl) ?_
      refine zz_iadd hx hb dX7_keep_34 ?_
      refine lv_aload_n hx hb dX7_keep_35 rfl (lv_at hl 0 rfl) ?_
      refine va_get (D := D) (ci := 6) (v := .ref mQnow) (C := RX7) (T := TX7) (N := 23) hx hb hts u_X7_keep_X7 hown hK.1 hP 0 rfl rfl 7 (by decide) (hts _ m_X7_keep_3) (fun _ h9 => h9) rfl dX7_keep_36 ?_
      refine lv_iload_n hx hb dX7_keep_39 rfl (lv_at hl 2 rfl) ?_
      obtain ⟨hg, hf⟩ := zq_gd hf
      refine zz_iald (i := x2) hx hb hK hP 1 rfl (Nat.le_of_ble_eq_true rfl) hg dX7_keep_40 ?_
      obtain ⟨hg, hf⟩ := zq_gd hf
      refine zz_iast (i := ((11 * p1) + x2)) hx hb hK hP hD hS 3 rfl (Nat.le_of_ble_eq_true rfl) hg dX7_keep_41 (fun H locs hP hD hS => ?_)
      have hP : va_P D vwCl [eO mO 6 [.int (zI mth), .ref mQtext, .int (zI mmany), .int (zI mcur), .int (zI mst), .int (zI mtok), .int (zI mval), .ref mQnow, .ref mQfresh, .ref mQwas, .int (zI macts), .ref mQisKept, .ref mQkept, .ref mQheard, .ref mQnumber, .ref mQlowUp, .ref mQlowDown, .ref mQhighUp, .ref mQhighDown, .int (zI mlev), .ref mQseen, .int (zI memp), .ref mQfirst], eA mQnow (cy 0) 11 mNow, eA mQisKept (cy 2) 2 mIsK, eA mQkept (cy 0) 22 (zup mKept ((11 * p1) + x2) (mNow (Int.toNat x2)))] H := hP
      have hD : va_D A [eO mO 6 [.int (zI mth), .ref mQtext, .int (zI mmany), .int (zI mcur), .int (zI mst), .int (zI mtok), .int (zI mval), .ref mQnow, .ref mQfresh, .ref mQwas, .int (zI macts), .ref mQisKept, .ref mQkept, .ref mQheard, .ref mQnumber, .ref mQlowUp, .ref mQlowDown, .ref mQhighUp, .ref mQhighDown, .int (zI mlev), .ref mQseen, .int (zI memp), .ref mQfirst], eA mQnow (cy 0) 11 mNow, eA mQisKept (cy 2) 2 mIsK, eA mQkept (cy 0) 22 (zup mKept ((11 * p1) + x2) (mNow (Int.toNat x2)))] := hD
      refine lv_iinc (v := zI (x2 + 1)) (lv' := [(2, .int (zI (x2 + 1))), (0, .ref mO), (1, .int (zI p1))]) hx hb dX7_keep_42 hl (k := 2) rfl (zI_add _ _) (by decide) rfl (fun ls hl => ?_)
      refine lv_goto (tgt := 19) hx hb dX7_keep_45 (by decide) ?_
      have hf := zq_some hf
      exact hf _ _ _ hP hD hS (lv_sub hl [1, 2, 0] rfl)
    · refine lv_aload_n hx hb dX7_keep_48 rfl (lv_at hl 0 rfl) ?_
      refine va_get (D := D) (ci := 6) (v := .ref mQisKept) (C := RX7) (T := TX7) (N := 23) hx hb hts u_X7_keep_X7 hown hK.1 hP 0 rfl rfl 11 (by decide) (hts _ m_X7_keep_4) (fun _ h9 => h9) rfl dX7_keep_49 ?_
      refine lv_iload_n hx hb dX7_keep_52 rfl (lv_at hl 1 rfl) ?_
      refine lv_iconst (v := zI 1) hx hb dX7_keep_53 rfl ?_
      obtain ⟨hg, hf⟩ := zq_gd hf
      refine zz_zast (i := p1) hx hb hK hP hD hS 2 rfl (Nat.le_of_ble_eq_true rfl) hg (by decide) dX7_keep_54 (fun H locs hP hD hS => ?_)
      have hP : va_P D vwCl [eO mO 6 [.int (zI mth), .ref mQtext, .int (zI mmany), .int (zI mcur), .int (zI mst), .int (zI mtok), .int (zI mval), .ref mQnow, .ref mQfresh, .ref mQwas, .int (zI macts), .ref mQisKept, .ref mQkept, .ref mQheard, .ref mQnumber, .ref mQlowUp, .ref mQlowDown, .ref mQhighUp, .ref mQhighDown, .int (zI mlev), .ref mQseen, .int (zI memp), .ref mQfirst], eA mQnow (cy 0) 11 mNow, eA mQisKept (cy 2) 2 (zup mIsK p1 1), eA mQkept (cy 0) 22 mKept] H := hP
      have hD : va_D A [eO mO 6 [.int (zI mth), .ref mQtext, .int (zI mmany), .int (zI mcur), .int (zI mst), .int (zI mtok), .int (zI mval), .ref mQnow, .ref mQfresh, .ref mQwas, .int (zI macts), .ref mQisKept, .ref mQkept, .ref mQheard, .ref mQnumber, .ref mQlowUp, .ref mQlowDown, .ref mQhighUp, .ref mQhighDown, .int (zI mlev), .ref mQseen, .int (zI memp), .ref mQfirst], eA mQnow (cy 0) 11 mNow, eA mQisKept (cy 2) 2 (zup mIsK p1 1), eA mQkept (cy 0) 22 mKept] := hD
      refine lv_aload_n hx hb dX7_keep_55 rfl (lv_at hl 0 rfl) ?_
      refine va_get (D := D) (ci := 6) (v := .ref mQnow) (C := RX7) (T := TX7) (N := 23) hx hb hts u_X7_keep_X7 hown hK.1 hP 0 rfl rfl 7 (by decide) (hts _ m_X7_keep_3) (fun _ h9 => h9) rfl dX7_keep_56 ?_
      refine lv_iconst (v := zI 0) hx hb dX7_keep_59 rfl ?_
      refine zz_iald (i := 0) hx hb hK hP 1 rfl (Nat.le_of_ble_eq_true rfl) (by decide) dX7_keep_60 ?_
      have hf := zq_some hf
      cases hf
      exact W.iret hx hb hr (fun t ht hW => ⟨⟨_, (), rfl, rfl, by rw [ht]; exact hP, hD⟩, hS.F ht⟩) hS.2.2 dX7_keep_61
    )
  unfold f_X7_keep at hf
  refine lv_aload_n hx hb dX7_keep_0 rfl (lv_at hl 0 rfl) ?_
  refine lv_iconst (v := zI 0) hx hb dX7_keep_1 rfl ?_
  refine va_put (D := D) (ci := 6) (v := .int (zI 0)) (ty := .int) (C := RX7) (T := TX7) (N := 23) hx hb hts u_X7_keep_X7 tyX7 tyX7_ok nmX7 hown hK.1 hP hD hS 0 rfl rfl 0 (by decide) (hts _ m_X7_keep_1) (fun _ h9 => h9) rfl (tyX7_ok 0 (by decide)) rfl rfl (Nat.le_of_ble_eq_true rfl) dX7_keep_2 (fun H locs hP hD hS => ?_)
  have hP : va_P D vwCl [eO mO 6 [.int (zI 0), .ref mQtext, .int (zI mmany), .int (zI mcur), .int (zI mst), .int (zI mtok), .int (zI mval), .ref mQnow, .ref mQfresh, .ref mQwas, .int (zI macts), .ref mQisKept, .ref mQkept, .ref mQheard, .ref mQnumber, .ref mQlowUp, .ref mQlowDown, .ref mQhighUp, .ref mQhighDown, .int (zI mlev), .ref mQseen, .int (zI memp), .ref mQfirst], eA mQnow (cy 0) 11 mNow, eA mQisKept (cy 2) 2 mIsK, eA mQkept (cy 0) 22 mKept] H := hP
  have hD : va_D A [eO mO 6 [.int (zI 0), .ref mQtext, .int (zI mmany), .int (zI mcur), .int (zI mst), .int (zI mtok), .int (zI mval), .ref mQnow, .ref mQfresh, .ref mQwas, .int (zI macts), .ref mQisKept, .ref mQkept, .ref mQheard, .ref mQnumber, .ref mQlowUp, .ref mQlowDown, .ref mQhighUp, .ref mQhighDown, .int (zI mlev), .ref mQseen, .int (zI memp), .ref mQfirst], eA mQnow (cy 0) 11 mNow, eA mQisKept (cy 2) 2 mIsK, eA mQkept (cy 0) 22 mKept] := hD
  refine lv_iload_n hx hb dX7_keep_5 rfl (lv_at hl 1 rfl) ?_
  obtain ⟨hg, hf⟩ := zq_gd hf
  refine lv_i2l (v := zL p1) hx hb dX7_keep_6 (zL_i hg) ?_
  refine lv_lconst (v := zL 0) hx hb dX7_keep_7 (by decide) ?_
  refine lv_lconst (v := zL 1) hx hb dX7_keep_8 (by decide) ?_
  obtain ⟨r9, hc9, hf⟩ := zq_bind hf
  refine zcallSi (wr := [eO mO 6 [.int (zI 0), .ref mQtext, .int (zI mmany), .int (zI mcur), .int (zI mst), .int (zI mtok), .int (zI mval), .ref mQnow, .ref mQfresh, .ref mQwas, .int (zI macts), .ref mQisKept, .ref mQkept, .ref mQheard, .ref mQnumber, .ref mQlowUp, .ref mQlowDown, .ref mQhighUp, .ref mQhighDown, .int (zI mlev), .ref mQseen, .int (zI memp), .ref mQfirst], eA mQnow (cy 0) 11 mNow, eA mQisKept (cy 2) 2 mIsK, eA mQkept (cy 0) 22 mKept]) (rest := []) ⟨hx, hb, hml, hown, hts⟩ (c_X7_in l D cy H.size p1 0 1 hc9) (va_cwS 3 hts gX7_keep_X7_in rfl rfl rfl (by decide +kernel) ⟨Nat.le_of_ble_eq_true rfl, Nat.le_of_ble_eq_true rfl⟩) hK hP hD hS hA [] [0, 1, 2, 3] rfl rfl rfl rfl (by decide) rfl hl.1 rfl (Nat.le_of_ble_eq_true rfl) dX7_keep_9 ⟨Nat.zero_le _, Nat.zero_le _⟩ (fun H locs hP hD hS => ?_)
  have hP : va_P D vwCl [eO mO 6 [.int (zI 0), .ref mQtext, .int (zI mmany), .int (zI mcur), .int (zI mst), .int (zI mtok), .int (zI mval), .ref mQnow, .ref mQfresh, .ref mQwas, .int (zI macts), .ref mQisKept, .ref mQkept, .ref mQheard, .ref mQnumber, .ref mQlowUp, .ref mQlowDown, .ref mQhighUp, .ref mQhighDown, .int (zI mlev), .ref mQseen, .int (zI memp), .ref mQfirst], eA mQnow (cy 0) 11 mNow, eA mQisKept (cy 2) 2 mIsK, eA mQkept (cy 0) 22 mKept] H := hP.sub [0, 1, 2, 3] rfl
  have hD : va_D A [eO mO 6 [.int (zI 0), .ref mQtext, .int (zI mmany), .int (zI mcur), .int (zI mst), .int (zI mtok), .int (zI mval), .ref mQnow, .ref mQfresh, .ref mQwas, .int (zI macts), .ref mQisKept, .ref mQkept, .ref mQheard, .ref mQnumber, .ref mQlowUp, .ref mQlowDown, .ref mQhighUp, .ref mQhighDown, .int (zI mlev), .ref mQseen, .int (zI memp), .ref mQfirst], eA mQnow (cy 0) 11 mNow, eA mQisKept (cy 2) 2 mIsK, eA mQkept (cy 0) 22 mKept] := hD.sub [0, 1, 2, 3] rfl rfl
  refine zz_if_ne (tgt := 17) hx hb dX7_keep_12 (by decide) hf (fun hc hf => ?_) (fun hc hf => ?_)
  · refine lv_iconst (v := zI (-1)) hx hb dX7_keep_15 rfl ?_
    have hf := zq_some hf
    cases hf
    exact W.iret hx hb hr (fun t ht hW => ⟨⟨_, (), rfl, rfl, by rw [ht]; exact hP, hD⟩, hS.F ht⟩) hS.2.2 dX7_keep_16
  · refine lv_iconst (v := zI 0) hx hb dX7_keep_17 rfl ?_
    refine lv_istore_n (lv' := [(2, .int (zI 0)), (0, .ref mO), (1, .int (zI p1))]) hx hb dX7_keep_18 rfl hl (by decide) rfl (fun ls hl => ?_)
    exact key _ (zq_eq hf) _ _ _ hP hD hS (lv_sub hl [1, 2, 0] rfl)

noncomputable def st_X7_back (p1 : Int) (mKept : Nat → Int) : (Int × Int × Int × (Nat → Int)) → Option ((Int × Int × Int × (Nat → Int)) ⊕ (Int × Int × Int × (Nat → Int))) := fun (x2, mth, macts, mNow) =>
  gd (zR x2 ∧ zR 11) <|
  if x2 < 11 then
    gd (zin ((11 * p1) + x2) 22) <|
    gd (zin x2 11) <|
    some (.inl ((x2 + 1), mth, macts, (zup mNow x2 (mKept (Int.toNat ((11 * p1) + x2))))))
  else
    some (.inr ((mNow 0), mth, 0, mNow))
noncomputable def f_X7_back (p1 : Int) (macts : Int) (mNow : Nat → Int) (mIsK : Nat → Int) (mKept : Nat → Int) : Option (Int × Int × Int × (Nat → Int)) :=
  gd (zR p1) <|
  (f_X7_in p1 0 1).bind fun r9 =>
  gd (zR r9) <|
  if r9 = 0 then
    some ((-1), 0, macts, mNow)
  else
    gd (zin p1 2) <|
    gd (zR (mIsK (Int.toNat p1))) <|
    if (mIsK (Int.toNat p1)) = 0 then
      some ((-2), 0, macts, mNow)
    else
      zev (st_X7_back p1 mKept) (0, 0, macts, mNow)
theorem m_X7_back_1 : (.fieldLink RX7 1 "PulseTurnsModel" "thrown" "I" : Cond) ∈ wsX7_back := List.mem_of_getElem? (i := 1) rfl
theorem m_X7_back_2 : (.fieldLink RX7 55 "PulseTurnsModel" "isKept" "[Z" : Cond) ∈ wsX7_back := List.mem_of_getElem? (i := 2) rfl
theorem m_X7_back_3 : (.fieldLink RX7 46 "PulseTurnsModel" "now" "[I" : Cond) ∈ wsX7_back := List.mem_of_getElem? (i := 3) rfl
theorem m_X7_back_4 : (.fieldLink RX7 59 "PulseTurnsModel" "kept" "[I" : Cond) ∈ wsX7_back := List.mem_of_getElem? (i := 4) rfl
theorem m_X7_back_5 : (.fieldLink RX7 116 "PulseTurnsModel" "acts" "I" : Cond) ∈ wsX7_back := List.mem_of_getElem? (i := 5) rfl
theorem u_X7_back_X7 : ∀ w ∈ wsX70, w ∈ wsX7_back := fun w h => List.mem_cons_of_mem _ (List.mem_append_right _ h)
set_option maxRecDepth 100000 in
set_option maxHeartbeats 4000000 in
theorem c_X7_back (l : Launch) (D : va_G) (cy : Nat → ClassId) (mO mQtext mQnow mQfresh mQwas mQisKept mQkept mQheard mQnumber mQlowUp mQlowDown mQhighUp mQhighDown mQseen mQfirst : Nat) (sz : Nat) (p1 : Int) (mth : Int) (mmany : Int) (mcur : Int) (mst : Int) (mtok : Int) (mval : Int) (macts : Int) (mlev : Int) (memp : Int) (mNow : Nat → Int) (mIsK : Nat → Int) (mKept : Nat → Int) {r : Int} {mth' : Int} {macts' : Int} {mNow' : Nat → Int} (hf : f_X7_back p1 macts mNow mIsK mKept = some (r, mth', macts', mNow')) : zMi l yX7_back wsX7_back ({ frames := 1, cells := 0, slots := 0, locals := 25 }) D cy sz [.ref mO, .int (zI p1)] [eO mO 6 [.int (zI mth), .ref mQtext, .int (zI mmany), .int (zI mcur), .int (zI mst), .int (zI mtok), .int (zI mval), .ref mQnow, .ref mQfresh, .ref mQwas, .int (zI macts), .ref mQisKept, .ref mQkept, .ref mQheard, .ref mQnumber, .ref mQlowUp, .ref mQlowDown, .ref mQhighUp, .ref mQhighDown, .int (zI mlev), .ref mQseen, .int (zI memp), .ref mQfirst], eA mQnow (cy 0) 11 mNow, eA mQisKept (cy 2) 2 mIsK, eA mQkept (cy 0) 22 mKept] [eO mO 6 [.int (zI mth'), .ref mQtext, .int (zI mmany), .int (zI mcur), .int (zI mst), .int (zI mtok), .int (zI mval), .ref mQnow, .ref mQfresh, .ref mQwas, .int (zI macts'), .ref mQisKept, .ref mQkept, .ref mQheard, .ref mQnumber, .ref mQlowUp, .ref mQlowDown, .ref mQhighUp, .ref mQhighDown, .int (zI mlev), .ref mQseen, .int (zI memp), .ref mQfirst], eA mQnow (cy 0) 11 mNow', eA mQisKept (cy 2) 2 mIsK, eA mQkept (cy 0) 22 mKept] (zI r) := by
  refine Met.ofW (cc := cX7_back) (maxL := 3) (ret := (some .int)) (by decide) rfl ?_
  intro p e s m args below meth c s₁ B hml hv
  obtain ⟨rfl, hsz, hP, hK, hD0⟩ := hv
  have hx := B.exec
  have hb := B.bytes
  have hr := B.returns
  have hts := atoms_spec (ws := wsX7_back) B.pre
  have hown : s.vm.findClass RX7 = some m.cls := findClass_of_methodNamed B.named
  have hlocks := B.notSynchronized
  subst hsz
  have hD := hD0.self (sz := s.heap.size)
  generalize hAe : va_A [eO mO 6 [.int (zI mth), .ref mQtext, .int (zI mmany), .int (zI mcur), .int (zI mst), .int (zI mtok), .int (zI mval), .ref mQnow, .ref mQfresh, .ref mQwas, .int (zI macts), .ref mQisKept, .ref mQkept, .ref mQheard, .ref mQnumber, .ref mQlowUp, .ref mQlowDown, .ref mQhighUp, .ref mQhighDown, .int (zI mlev), .ref mQseen, .int (zI memp), .ref mQfirst], eA mQnow (cy 0) 11 mNow, eA mQisKept (cy 2) 2 mIsK, eA mQkept (cy 0) 22 mKept] s.heap.size = A at hD ⊢
  have hA : ∀ q : Nat, s.heap.size ≤ q → A q := fun q h => by rw [← hAe]; exact Or.inr h
  have hS : va_S A s.heap s.heap [] := va_S.rf
  have hl := lv_entry ([.ref mO, .int (zI p1)]) (n := 3) (Nat.le_of_ble_eq_true rfl)
  rw [lg_entry_eq]
  generalize (lg_sl ([.ref mO, .int (zI p1)]) ++ List.replicate (3 - (lg_sl ([.ref mO, .int (zI p1)])).length) Slot.unset).toArray = ls at hl ⊢
  have hl : lv_has ls 3 [(0, .ref mO), (1, .int (zI p1))] := hl
  have hf := zq_of hf
  have key := zloop (st := st_X7_back p1 mKept) (res := (r, mth', macts', mNow')) (K := fun (x2, mth, macts, mNow) => ∀ (H : Heap) (locs : List Loc) (ls : Array Slot), va_P D vwCl [eO mO 6 [.int (zI mth), .ref mQtext, .int (zI mmany), .int (zI mcur), .int (zI mst), .int (zI mtok), .int (zI mval), .ref mQnow, .ref mQfresh, .ref mQwas, .int (zI macts), .ref mQisKept, .ref mQkept, .ref mQheard, .ref mQnumber, .ref mQlowUp, .ref mQlowDown, .ref mQhighUp, .ref mQhighDown, .int (zI mlev), .ref mQseen, .int (zI memp), .ref mQfirst], eA mQnow (cy 0) 11 mNow, eA mQisKept (cy 2) 2 mIsK, eA mQkept (cy 0) 22 mKept] H → va_D A [eO mO 6 [.int (zI mth), .ref mQtext, .int (zI mmany), .int (zI mcur), .int (zI mst), .int (zI mtok), .int (zI mval), .ref mQnow, .ref mQfresh, .ref mQwas, .int (zI macts), .ref mQisKept, .ref mQkept, .ref mQheard, .ref mQnumber, .ref mQlowUp, .ref mQlowDown, .ref mQhighUp, .ref mQhighDown, .int (zI mlev), .ref mQseen, .int (zI memp), .ref mQfirst], eA mQnow (cy 0) 11 mNow, eA mQisKept (cy 2) 2 mIsK, eA mQkept (cy 0) 22 mKept] → va_S A s.heap H locs → lv_has ls 3 [(0, .ref mO), (1, .int (zI p1)), (2, .int (zI x2))] → zGi p l e wsX7_back ({ frames := 1, cells := 0, slots := 0, locals := 25 }) s m [.ref mO, .int (zI p1)] below meth c A D [eO mO 6 [.int (zI mth'), .ref mQtext, .int (zI mmany), .int (zI mcur), .int (zI mst), .int (zI mtok), .int (zI mval), .ref mQnow, .ref mQfresh, .ref mQwas, .int (zI macts'), .ref mQisKept, .ref mQkept, .ref mQheard, .ref mQnumber, .ref mQlowUp, .ref mQlowDown, .ref mQhighUp, .ref mQhighDown, .int (zI mlev), .ref mQseen, .int (zI memp), .ref mQfirst], eA mQnow (cy 0) 11 mNow', eA mQisKept (cy 2) 2 mIsK, eA mQkept (cy 0) 22 mKept] (zI r) H locs (F0 m 31 ls [])) (by
    rintro ⟨x2, mth, macts, mNow⟩ hf
    intro H locs ls hP hD hS hl
    unfold st_X7_back at hf
    try dsimp only at hf
    refine lv_iload_n hx hb dX7_back_31 rfl (lv_at hl 2 rfl) ?_
    refine lv_bipush (v := zI 11) hx hb dX7_back_32 (by decide) ?_
    refine zz_icmp_ge (tgt := 60) hx hb dX7_back_34 (by decide) hf (fun hc hf => ?_) (fun hc hf => ?_)
    · refine lv_aload_n hx hb dX7_back_37 rfl (lv_at hl 0 rfl) ?_
      refine va_get (D := D) (ci := 6) (v := .ref mQnow) (C := RX7) (T := TX7) (N := 23) hx hb hts u_X7_back_X7 hown hK.1 hP 0 rfl rfl 7 (by decide) (hts _ m_X7_back_3) (fun _ h9 => h9) rfl dX7_back_38 ?_
      refine lv_iload_n hx hb dX7_back_41 rfl (lv_at hl 2 rfl) ?_
      refine lv_aload_n hx hb dX7_back_42 rfl (lv_at hl 0 rfl) ?_
      refine va_get (D := D) (ci := 6) (v := .ref mQkept) (C := RX7) (T := TX7) (N := 23) hx hb hts u_X7_back_X7 hown hK.1 hP 0 rfl rfl 12 (by decide) (hts _ m_X7_back_4) (fun _ h9 => h9) rfl dX7_back_43 ?_
      refine lv_bipush (v := zI 11) hx hb dX7_back_46 (by decide) ?_
      refine lv_iload_n hx hb dX7_back_48 rfl (lv_at hl 1 rfl) ?_
      refine zz_imul hx hb dX7_back_49 ?_
      refine lv_iload_n hx hb dX7_back_50 rfl (lv_at hl 2 rfl) ?_
      refine zz_iadd hx hb dX7_back_51 ?_
      obtain ⟨hg, hf⟩ := zq_gd hf
      refine zz_iald (i := ((11 * p1) + x2)) hx hb hK hP 3 rfl (Nat.le_of_ble_eq_true rfl) hg dX7_back_52 ?_
      obtain ⟨hg, hf⟩ := zq_gd hf
      refine zz_iast (i := x2) hx hb hK hP hD hS 1 rfl (Nat.le_of_ble_eq_true rfl) hg dX7_back_53 (fun H locs hP hD hS => ?_)
      have hP : va_P D vwCl [eO mO 6 [.int (zI mth), .ref mQtext, .int (zI mmany), .int (zI mcur), .int (zI mst), .int (zI mtok), .int (zI mval), .ref mQnow, .ref mQfresh, .ref mQwas, .int (zI macts), .ref mQisKept, .ref mQkept, .ref mQheard, .ref mQnumber, .ref mQlowUp, .ref mQlowDown, .ref mQhighUp, .ref mQhighDown, .int (zI mlev), .ref mQseen, .int (zI memp), .ref mQfirst], eA mQnow (cy 0) 11 (zup mNow x2 (mKept (Int.toNat ((11 * p1) + x2)))), eA mQisKept (cy 2) 2 mIsK, eA mQkept (cy 0) 22 mKept] H := hP
      have hD : va_D A [eO mO 6 [.int (zI mth), .ref mQtext, .int (zI mmany), .int (zI mcur), .int (zI mst), .int (zI mtok), .int (zI mval), .ref mQnow, .ref mQfresh, .ref mQwas, .int (zI macts), .ref mQisKept, .ref mQkept, .ref mQheard, .ref mQnumber, .ref mQlowUp, .ref mQlowDown, .ref mQhighUp, .ref mQhighDown, .int (zI mlev), .ref mQseen, .int (zI memp), .ref mQfirst], eA mQnow (cy 0) 11 (zup mNow x2 (mKept (Int.toNat ((11 * p1) + x2)))), eA mQisKept (cy 2) 2 mIsK, eA mQkept (cy 0) 22 mKept] := hD
      refine lv_iinc (v := zI (x2 + 1)) (lv' := [(2, .int (zI (x2 + 1))), (0, .ref mO), (1, .int (zI p1))]) hx hb dX7_back_54 hl (k := 2) rfl (zI_add _ _) (by decide) rfl (fun ls hl => ?_)
      refine lv_goto (tgt := 31) hx hb dX7_back_57 (by decide) ?_
      have hf := zq_some hf
      exact hf _ _ _ hP hD hS (lv_sub hl [1, 2, 0] rfl)
    · refine lv_aload_n hx hb dX7_back_60 rfl (lv_at hl 0 rfl) ?_
      refine lv_iconst (v := zI 0) hx hb dX7_back_61 rfl ?_
      refine va_put (D := D) (ci := 6) (v := .int (zI 0)) (ty := .int) (C := RX7) (T := TX7) (N := 23) hx hb hts u_X7_back_X7 tyX7 tyX7_ok nmX7 hown hK.1 hP hD hS 0 rfl rfl 10 (by decide) (hts _ m_X7_back_5) (fun _ h9 => h9) rfl (tyX7_ok 10 (by decide)) rfl rfl (Nat.le_of_ble_eq_true rfl) dX7_back_62 (fun H locs hP hD hS => ?_)
      have hP : va_P D vwCl [eO mO 6 [.int (zI mth), .ref mQtext, .int (zI mmany), .int (zI mcur), .int (zI mst), .int (zI mtok), .int (zI mval), .ref mQnow, .ref mQfresh, .ref mQwas, .int (zI 0), .ref mQisKept, .ref mQkept, .ref mQheard, .ref mQnumber, .ref mQlowUp, .ref mQlowDown, .ref mQhighUp, .ref mQhighDown, .int (zI mlev), .ref mQseen, .int (zI memp), .ref mQfirst], eA mQnow (cy 0) 11 mNow, eA mQisKept (cy 2) 2 mIsK, eA mQkept (cy 0) 22 mKept] H := hP
      have hD : va_D A [eO mO 6 [.int (zI mth), .ref mQtext, .int (zI mmany), .int (zI mcur), .int (zI mst), .int (zI mtok), .int (zI mval), .ref mQnow, .ref mQfresh, .ref mQwas, .int (zI 0), .ref mQisKept, .ref mQkept, .ref mQheard, .ref mQnumber, .ref mQlowUp, .ref mQlowDown, .ref mQhighUp, .ref mQhighDown, .int (zI mlev), .ref mQseen, .int (zI memp), .ref mQfirst], eA mQnow (cy 0) 11 mNow, eA mQisKept (cy 2) 2 mIsK, eA mQkept (cy 0) 22 mKept] := hD
      refine lv_aload_n hx hb dX7_back_65 rfl (lv_at hl 0 rfl) ?_
      refine va_get (D := D) (ci := 6) (v := .ref mQnow) (C := RX7) (T := TX7) (N := 23) hx hb hts u_X7_back_X7 hown hK.1 hP 0 rfl rfl 7 (by decide) (hts _ m_X7_back_3) (fun _ h9 => h9) rfl dX7_back_66 ?_
      refine lv_iconst (v := zI 0) hx hb dX7_back_69 rfl ?_
      refine zz_iald (i := 0) hx hb hK hP 1 rfl (Nat.le_of_ble_eq_true rfl) (by decide) dX7_back_70 ?_
      have hf := zq_some hf
      cases hf
      exact W.iret hx hb hr (fun t ht hW => ⟨⟨_, (), rfl, rfl, by rw [ht]; exact hP, hD⟩, hS.F ht⟩) hS.2.2 dX7_back_71
    )
  unfold f_X7_back at hf
  refine lv_aload_n hx hb dX7_back_0 rfl (lv_at hl 0 rfl) ?_
  refine lv_iconst (v := zI 0) hx hb dX7_back_1 rfl ?_
  refine va_put (D := D) (ci := 6) (v := .int (zI 0)) (ty := .int) (C := RX7) (T := TX7) (N := 23) hx hb hts u_X7_back_X7 tyX7 tyX7_ok nmX7 hown hK.1 hP hD hS 0 rfl rfl 0 (by decide) (hts _ m_X7_back_1) (fun _ h9 => h9) rfl (tyX7_ok 0 (by decide)) rfl rfl (Nat.le_of_ble_eq_true rfl) dX7_back_2 (fun H locs hP hD hS => ?_)
  have hP : va_P D vwCl [eO mO 6 [.int (zI 0), .ref mQtext, .int (zI mmany), .int (zI mcur), .int (zI mst), .int (zI mtok), .int (zI mval), .ref mQnow, .ref mQfresh, .ref mQwas, .int (zI macts), .ref mQisKept, .ref mQkept, .ref mQheard, .ref mQnumber, .ref mQlowUp, .ref mQlowDown, .ref mQhighUp, .ref mQhighDown, .int (zI mlev), .ref mQseen, .int (zI memp), .ref mQfirst], eA mQnow (cy 0) 11 mNow, eA mQisKept (cy 2) 2 mIsK, eA mQkept (cy 0) 22 mKept] H := hP
  have hD : va_D A [eO mO 6 [.int (zI 0), .ref mQtext, .int (zI mmany), .int (zI mcur), .int (zI mst), .int (zI mtok), .int (zI mval), .ref mQnow, .ref mQfresh, .ref mQwas, .int (zI macts), .ref mQisKept, .ref mQkept, .ref mQheard, .ref mQnumber, .ref mQlowUp, .ref mQlowDown, .ref mQhighUp, .ref mQhighDown, .int (zI mlev), .ref mQseen, .int (zI memp), .ref mQfirst], eA mQnow (cy 0) 11 mNow, eA mQisKept (cy 2) 2 mIsK, eA mQkept (cy 0) 22 mKept] := hD
  refine lv_iload_n hx hb dX7_back_5 rfl (lv_at hl 1 rfl) ?_
  obtain ⟨hg, hf⟩ := zq_gd hf
  refine lv_i2l (v := zL p1) hx hb dX7_back_6 (zL_i hg) ?_
  refine lv_lconst (v := zL 0) hx hb dX7_back_7 (by decide) ?_
  refine lv_lconst (v := zL 1) hx hb dX7_back_8 (by decide) ?_
  obtain ⟨r9, hc9, hf⟩ := zq_bind hf
  refine zcallSi (wr := [eO mO 6 [.int (zI 0), .ref mQtext, .int (zI mmany), .int (zI mcur), .int (zI mst), .int (zI mtok), .int (zI mval), .ref mQnow, .ref mQfresh, .ref mQwas, .int (zI macts), .ref mQisKept, .ref mQkept, .ref mQheard, .ref mQnumber, .ref mQlowUp, .ref mQlowDown, .ref mQhighUp, .ref mQhighDown, .int (zI mlev), .ref mQseen, .int (zI memp), .ref mQfirst], eA mQnow (cy 0) 11 mNow, eA mQisKept (cy 2) 2 mIsK, eA mQkept (cy 0) 22 mKept]) (rest := []) ⟨hx, hb, hml, hown, hts⟩ (c_X7_in l D cy H.size p1 0 1 hc9) (va_cwS 3 hts gX7_back_X7_in rfl rfl rfl (by decide +kernel) ⟨Nat.le_of_ble_eq_true rfl, Nat.le_of_ble_eq_true rfl⟩) hK hP hD hS hA [] [0, 1, 2, 3] rfl rfl rfl rfl (by decide) rfl hl.1 rfl (Nat.le_of_ble_eq_true rfl) dX7_back_9 ⟨Nat.zero_le _, Nat.zero_le _⟩ (fun H locs hP hD hS => ?_)
  have hP : va_P D vwCl [eO mO 6 [.int (zI 0), .ref mQtext, .int (zI mmany), .int (zI mcur), .int (zI mst), .int (zI mtok), .int (zI mval), .ref mQnow, .ref mQfresh, .ref mQwas, .int (zI macts), .ref mQisKept, .ref mQkept, .ref mQheard, .ref mQnumber, .ref mQlowUp, .ref mQlowDown, .ref mQhighUp, .ref mQhighDown, .int (zI mlev), .ref mQseen, .int (zI memp), .ref mQfirst], eA mQnow (cy 0) 11 mNow, eA mQisKept (cy 2) 2 mIsK, eA mQkept (cy 0) 22 mKept] H := hP.sub [0, 1, 2, 3] rfl
  have hD : va_D A [eO mO 6 [.int (zI 0), .ref mQtext, .int (zI mmany), .int (zI mcur), .int (zI mst), .int (zI mtok), .int (zI mval), .ref mQnow, .ref mQfresh, .ref mQwas, .int (zI macts), .ref mQisKept, .ref mQkept, .ref mQheard, .ref mQnumber, .ref mQlowUp, .ref mQlowDown, .ref mQhighUp, .ref mQhighDown, .int (zI mlev), .ref mQseen, .int (zI memp), .ref mQfirst], eA mQnow (cy 0) 11 mNow, eA mQisKept (cy 2) 2 mIsK, eA mQkept (cy 0) 22 mKept] := hD.sub [0, 1, 2, 3] rfl rfl
  refine zz_if_ne (tgt := 17) hx hb dX7_back_12 (by decide) hf (fun hc hf => ?_) (fun hc hf => ?_)
  · refine lv_iconst (v := zI (-1)) hx hb dX7_back_15 rfl ?_
    have hf := zq_some hf
    cases hf
    exact W.iret hx hb hr (fun t ht hW => ⟨⟨_, (), rfl, rfl, by rw [ht]; exact hP, hD⟩, hS.F ht⟩) hS.2.2 dX7_back_16
  · refine lv_aload_n hx hb dX7_back_17 rfl (lv_at hl 0 rfl) ?_
    refine va_get (D := D) (ci := 6) (v := .ref mQisKept) (C := RX7) (T := TX7) (N := 23) hx hb hts u_X7_back_X7 hown hK.1 hP 0 rfl rfl 11 (by decide) (hts _ m_X7_back_2) (fun _ h9 => h9) rfl dX7_back_18 ?_
    refine lv_iload_n hx hb dX7_back_21 rfl (lv_at hl 1 rfl) ?_
    obtain ⟨hg, hf⟩ := zq_gd hf
    refine zz_zald (i := p1) hx hb hK hP 2 rfl (Nat.le_of_ble_eq_true rfl) hg dX7_back_22 ?_
    refine zz_if_ne (tgt := 29) hx hb dX7_back_23 (by decide) hf (fun hc hf => ?_) (fun hc hf => ?_)
    · refine lv_bipush (v := zI (-2)) hx hb dX7_back_26 (by decide) ?_
      have hf := zq_some hf
      cases hf
      exact W.iret hx hb hr (fun t ht hW => ⟨⟨_, (), rfl, rfl, by rw [ht]; exact hP, hD⟩, hS.F ht⟩) hS.2.2 dX7_back_28
    · refine lv_iconst (v := zI 0) hx hb dX7_back_29 rfl ?_
      refine lv_istore_n (lv' := [(2, .int (zI 0)), (0, .ref mO), (1, .int (zI p1))]) hx hb dX7_back_30 rfl hl (by decide) rfl (fun ls hl => ?_)
      exact key _ (zq_eq hf) _ _ _ hP hD hS (lv_sub hl [1, 2, 0] rfl)

noncomputable def st_X7_certain (mNow : Nat → Int) : (Nat × Int × Int × Int × Int × (Nat → Int) × (Nat → Int) × (Nat → Int) × (Nat → Int) × (Nat → Int) × (Nat → Int) × (Nat → Int)) → Option ((Nat × Int × Int × Int × Int × (Nat → Int) × (Nat → Int) × (Nat → Int) × (Nat → Int) × (Nat → Int) × (Nat → Int) × (Nat → Int)) ⊕ (Int × Int × (Nat → Int) × (Nat → Int) × (Nat → Int) × (Nat → Int) × (Nat → Int) × (Nat → Int) × (Nat → Int))) := fun v => match v with
  | (0, x1, x2, x3, mlev, mHeard, mNum, mLU, mLD, mHU, mHD, mFirst) =>
  (f_X7_goesOn mlev mHeard mNum mLU mLD mHU mHD).bind fun (r13, mlev_13, mHeard_13, mNum_13, mLU_13, mLD_13, mHU_13, mHD_13) =>
  gd (zR r13) <|
  if r13 = 0 then
    some (.inr (x1, mlev_13, mHeard_13, mNum_13, mLU_13, mLD_13, mHU_13, mHD_13, mFirst))
  else
    some (.inl (1, x1, x2, 0, mlev_13, mHeard_13, mNum_13, mLU_13, mLD_13, mHU_13, mHD_13, mFirst))
  | (1, x1, x2, x3, mlev, mHeard, mNum, mLU, mLD, mHU, mHD, mFirst) =>
  gd (zR x3 ∧ zR (mNow 0)) <|
  if x3 < (mNow 0) then
    gd (zR x2) <|
    if x2 = 0 then
      gd (zin x3 7) <|
      gd (zin x3 7) <|
      zlt (zOr x1 (zShl 1 x3)) fun v52 =>
      gd (zin x3 7) <|
      gd (zin x3 7) <|
      gd (zR ((zup mFirst x3 (mNum (Int.toNat x3))) (Int.toNat x3)) ∧ zR (mNum (Int.toNat x3))) <|
      if ((zup mFirst x3 (mNum (Int.toNat x3))) (Int.toNat x3)) = (mNum (Int.toNat x3)) then
        zlt (zAnd v52 v52) fun v79 =>
        some (.inl (1, v79, x2, (x3 + 1), mlev, mHeard, mNum, mLU, mLD, mHU, mHD, (zup mFirst x3 (mNum (Int.toNat x3)))))
      else
        zlt (zAnd v52 (zXor (zShl 1 x3) (-1))) fun v79 =>
        some (.inl (1, v79, x2, (x3 + 1), mlev, mHeard, mNum, mLU, mLD, mHU, mHD, (zup mFirst x3 (mNum (Int.toNat x3)))))
    else
      gd (zin x3 7) <|
      gd (zin x3 7) <|
      gd (zR (mFirst (Int.toNat x3)) ∧ zR (mNum (Int.toNat x3))) <|
      if (mFirst (Int.toNat x3)) = (mNum (Int.toNat x3)) then
        zlt (zAnd x1 x1) fun v79 =>
        some (.inl (1, v79, x2, (x3 + 1), mlev, mHeard, mNum, mLU, mLD, mHU, mHD, mFirst))
      else
        zlt (zAnd x1 (zXor (zShl 1 x3) (-1))) fun v79 =>
        some (.inl (1, v79, x2, (x3 + 1), mlev, mHeard, mNum, mLU, mLD, mHU, mHD, mFirst))
  else
    some (.inl (0, x1, (x2 + 1), 0, mlev, mHeard, mNum, mLU, mLD, mHU, mHD, mFirst))
  | _ => none
noncomputable def f_X7_certain (mNow : Nat → Int) (mHeard : Nat → Int) (mNum : Nat → Int) (mLU : Nat → Int) (mLD : Nat → Int) (mHU : Nat → Int) (mHD : Nat → Int) (mFirst : Nat → Int) : Option (Int × Int × (Nat → Int) × (Nat → Int) × (Nat → Int) × (Nat → Int) × (Nat → Int) × (Nat → Int) × (Nat → Int)) :=
  (f_X7_begin_n mNow mHeard mNum mLU mLD mHU mHD).bind fun (mlev_9, mHeard_9, mNum_9, mLU_9, mLD_9, mHU_9, mHD_9) =>
  zev (st_X7_certain mNow) (0, 0, 0, 0, mlev_9, mHeard_9, mNum_9, mLU_9, mLD_9, mHU_9, mHD_9, mFirst)
theorem m_X7_certain_1 : (.fieldLink RX7 46 "PulseTurnsModel" "now" "[I" : Cond) ∈ wsX7_certain := List.mem_of_getElem? (i := 1) rfl
theorem m_X7_certain_2 : (.fieldLink RX7 83 "PulseTurnsModel" "first" "[I" : Cond) ∈ wsX7_certain := List.mem_of_getElem? (i := 2) rfl
theorem m_X7_certain_3 : (.fieldLink RX7 65 "PulseTurnsModel" "number" "[I" : Cond) ∈ wsX7_certain := List.mem_of_getElem? (i := 3) rfl
theorem u_X7_certain_X7 : ∀ w ∈ wsX70, w ∈ wsX7_certain := fun w h => List.mem_cons_of_mem _ (List.mem_append_right _ h)
set_option maxRecDepth 100000 in
set_option maxHeartbeats 4000000 in
theorem c_X7_certain (l : Launch) (D : va_G) (cy : Nat → ClassId) (mO mQtext mQnow mQfresh mQwas mQisKept mQkept mQheard mQnumber mQlowUp mQlowDown mQhighUp mQhighDown mQseen mQfirst : Nat) (sz : Nat) (mth : Int) (mmany : Int) (mcur : Int) (mst : Int) (mtok : Int) (mval : Int) (macts : Int) (mlev : Int) (memp : Int) (mNow : Nat → Int) (mHeard : Nat → Int) (mNum : Nat → Int) (mLU : Nat → Int) (mLD : Nat → Int) (mHU : Nat → Int) (mHD : Nat → Int) (mFirst : Nat → Int) {r : Int} {mlev' : Int} {mHeard' : Nat → Int} {mNum' : Nat → Int} {mLU' : Nat → Int} {mLD' : Nat → Int} {mHU' : Nat → Int} {mHD' : Nat → Int} {mFirst' : Nat → Int} (hf : f_X7_certain mNow mHeard mNum mLU mLD mHU mHD mFirst = some (r, mlev', mHeard', mNum', mLU', mLD', mHU', mHD', mFirst')) : zMi l yX7_certain wsX7_certain ({ frames := 3, cells := 0, slots := 0, locals := 70 }) D cy sz [.ref mO] [eO mO 6 [.int (zI mth), .ref mQtext, .int (zI mmany), .int (zI mcur), .int (zI mst), .int (zI mtok), .int (zI mval), .ref mQnow, .ref mQfresh, .ref mQwas, .int (zI macts), .ref mQisKept, .ref mQkept, .ref mQheard, .ref mQnumber, .ref mQlowUp, .ref mQlowDown, .ref mQhighUp, .ref mQhighDown, .int (zI mlev), .ref mQseen, .int (zI memp), .ref mQfirst], eA mQnow (cy 0) 11 mNow, eA mQheard (cy 0) 11 mHeard, eA mQnumber (cy 0) 7 mNum, eA mQlowUp (cy 0) 7 mLU, eA mQlowDown (cy 0) 7 mLD, eA mQhighUp (cy 0) 7 mHU, eA mQhighDown (cy 0) 7 mHD, eA mQfirst (cy 0) 7 mFirst] [eO mO 6 [.int (zI mth), .ref mQtext, .int (zI mmany), .int (zI mcur), .int (zI mst), .int (zI mtok), .int (zI mval), .ref mQnow, .ref mQfresh, .ref mQwas, .int (zI macts), .ref mQisKept, .ref mQkept, .ref mQheard, .ref mQnumber, .ref mQlowUp, .ref mQlowDown, .ref mQhighUp, .ref mQhighDown, .int (zI mlev'), .ref mQseen, .int (zI memp), .ref mQfirst], eA mQnow (cy 0) 11 mNow, eA mQheard (cy 0) 11 mHeard', eA mQnumber (cy 0) 7 mNum', eA mQlowUp (cy 0) 7 mLU', eA mQlowDown (cy 0) 7 mLD', eA mQhighUp (cy 0) 7 mHU', eA mQhighDown (cy 0) 7 mHD', eA mQfirst (cy 0) 7 mFirst'] (zI r) := by
  refine Met.ofW (cc := cX7_certain) (maxL := 4) (ret := (some .int)) (by decide) rfl ?_
  intro p e s m args below meth c s₁ B hml hv
  obtain ⟨rfl, hsz, hP, hK, hD0⟩ := hv
  have hx := B.exec
  have hb := B.bytes
  have hr := B.returns
  have hts := atoms_spec (ws := wsX7_certain) B.pre
  have hown : s.vm.findClass RX7 = some m.cls := findClass_of_methodNamed B.named
  have hlocks := B.notSynchronized
  subst hsz
  have hD := hD0.self (sz := s.heap.size)
  generalize hAe : va_A [eO mO 6 [.int (zI mth), .ref mQtext, .int (zI mmany), .int (zI mcur), .int (zI mst), .int (zI mtok), .int (zI mval), .ref mQnow, .ref mQfresh, .ref mQwas, .int (zI macts), .ref mQisKept, .ref mQkept, .ref mQheard, .ref mQnumber, .ref mQlowUp, .ref mQlowDown, .ref mQhighUp, .ref mQhighDown, .int (zI mlev), .ref mQseen, .int (zI memp), .ref mQfirst], eA mQnow (cy 0) 11 mNow, eA mQheard (cy 0) 11 mHeard, eA mQnumber (cy 0) 7 mNum, eA mQlowUp (cy 0) 7 mLU, eA mQlowDown (cy 0) 7 mLD, eA mQhighUp (cy 0) 7 mHU, eA mQhighDown (cy 0) 7 mHD, eA mQfirst (cy 0) 7 mFirst] s.heap.size = A at hD ⊢
  have hA : ∀ q : Nat, s.heap.size ≤ q → A q := fun q h => by rw [← hAe]; exact Or.inr h
  have hS : va_S A s.heap s.heap [] := va_S.rf
  have hl := lv_entry ([.ref mO]) (n := 4) (Nat.le_of_ble_eq_true rfl)
  rw [lg_entry_eq]
  generalize (lg_sl ([.ref mO]) ++ List.replicate (4 - (lg_sl ([.ref mO])).length) Slot.unset).toArray = ls at hl ⊢
  have hl : lv_has ls 4 [(0, .ref mO)] := hl
  have hf := zq_of hf
  have key := zloop (st := st_X7_certain mNow) (res := (r, mlev', mHeard', mNum', mLU', mLD', mHU', mHD', mFirst')) (K := fun v => match v with
    | (0, x1, x2, x3, mlev, mHeard, mNum, mLU, mLD, mHU, mHD, mFirst) => ∀ (H : Heap) (locs : List Loc) (ls : Array Slot), va_P D vwCl [eO mO 6 [.int (zI mth), .ref mQtext, .int (zI mmany), .int (zI mcur), .int (zI mst), .int (zI mtok), .int (zI mval), .ref mQnow, .ref mQfresh, .ref mQwas, .int (zI macts), .ref mQisKept, .ref mQkept, .ref mQheard, .ref mQnumber, .ref mQlowUp, .ref mQlowDown, .ref mQhighUp, .ref mQhighDown, .int (zI mlev), .ref mQseen, .int (zI memp), .ref mQfirst], eA mQnow (cy 0) 11 mNow, eA mQheard (cy 0) 11 mHeard, eA mQnumber (cy 0) 7 mNum, eA mQlowUp (cy 0) 7 mLU, eA mQlowDown (cy 0) 7 mLD, eA mQhighUp (cy 0) 7 mHU, eA mQhighDown (cy 0) 7 mHD, eA mQfirst (cy 0) 7 mFirst] H → va_D A [eO mO 6 [.int (zI mth), .ref mQtext, .int (zI mmany), .int (zI mcur), .int (zI mst), .int (zI mtok), .int (zI mval), .ref mQnow, .ref mQfresh, .ref mQwas, .int (zI macts), .ref mQisKept, .ref mQkept, .ref mQheard, .ref mQnumber, .ref mQlowUp, .ref mQlowDown, .ref mQhighUp, .ref mQhighDown, .int (zI mlev), .ref mQseen, .int (zI memp), .ref mQfirst], eA mQnow (cy 0) 11 mNow, eA mQheard (cy 0) 11 mHeard, eA mQnumber (cy 0) 7 mNum, eA mQlowUp (cy 0) 7 mLU, eA mQlowDown (cy 0) 7 mLD, eA mQhighUp (cy 0) 7 mHU, eA mQhighDown (cy 0) 7 mHD, eA mQfirst (cy 0) 7 mFirst] → va_S A s.heap H locs → lv_has ls 4 [(0, .ref mO), (1, .int (zI x1)), (2, .int (zI x2))] → zGi p l e wsX7_certain ({ frames := 3, cells := 0, slots := 0, locals := 70 }) s m [.ref mO] below meth c A D [eO mO 6 [.int (zI mth), .ref mQtext, .int (zI mmany), .int (zI mcur), .int (zI mst), .int (zI mtok), .int (zI mval), .ref mQnow, .ref mQfresh, .ref mQwas, .int (zI macts), .ref mQisKept, .ref mQkept, .ref mQheard, .ref mQnumber, .ref mQlowUp, .ref mQlowDown, .ref mQhighUp, .ref mQhighDown, .int (zI mlev'), .ref mQseen, .int (zI memp), .ref mQfirst], eA mQnow (cy 0) 11 mNow, eA mQheard (cy 0) 11 mHeard', eA mQnumber (cy 0) 7 mNum', eA mQlowUp (cy 0) 7 mLU', eA mQlowDown (cy 0) 7 mLD', eA mQhighUp (cy 0) 7 mHU', eA mQhighDown (cy 0) 7 mHD', eA mQfirst (cy 0) 7 mFirst'] (zI r) H locs (F0 m 12 ls [])
    | (1, x1, x2, x3, mlev, mHeard, mNum, mLU, mLD, mHU, mHD, mFirst) => ∀ (H : Heap) (locs : List Loc) (ls : Array Slot), va_P D vwCl [eO mO 6 [.int (zI mth), .ref mQtext, .int (zI mmany), .int (zI mcur), .int (zI mst), .int (zI mtok), .int (zI mval), .ref mQnow, .ref mQfresh, .ref mQwas, .int (zI macts), .ref mQisKept, .ref mQkept, .ref mQheard, .ref mQnumber, .ref mQlowUp, .ref mQlowDown, .ref mQhighUp, .ref mQhighDown, .int (zI mlev), .ref mQseen, .int (zI memp), .ref mQfirst], eA mQnow (cy 0) 11 mNow, eA mQheard (cy 0) 11 mHeard, eA mQnumber (cy 0) 7 mNum, eA mQlowUp (cy 0) 7 mLU, eA mQlowDown (cy 0) 7 mLD, eA mQhighUp (cy 0) 7 mHU, eA mQhighDown (cy 0) 7 mHD, eA mQfirst (cy 0) 7 mFirst] H → va_D A [eO mO 6 [.int (zI mth), .ref mQtext, .int (zI mmany), .int (zI mcur), .int (zI mst), .int (zI mtok), .int (zI mval), .ref mQnow, .ref mQfresh, .ref mQwas, .int (zI macts), .ref mQisKept, .ref mQkept, .ref mQheard, .ref mQnumber, .ref mQlowUp, .ref mQlowDown, .ref mQhighUp, .ref mQhighDown, .int (zI mlev), .ref mQseen, .int (zI memp), .ref mQfirst], eA mQnow (cy 0) 11 mNow, eA mQheard (cy 0) 11 mHeard, eA mQnumber (cy 0) 7 mNum, eA mQlowUp (cy 0) 7 mLU, eA mQlowDown (cy 0) 7 mLD, eA mQhighUp (cy 0) 7 mHU, eA mQhighDown (cy 0) 7 mHD, eA mQfirst (cy 0) 7 mFirst] → va_S A s.heap H locs → lv_has ls 4 [(0, .ref mO), (1, .int (zI x1)), (2, .int (zI x2)), (3, .int (zI x3))] → zGi p l e wsX7_certain ({ frames := 3, cells := 0, slots := 0, locals := 70 }) s m [.ref mO] below meth c A D [eO mO 6 [.int (zI mth), .ref mQtext, .int (zI mmany), .int (zI mcur), .int (zI mst), .int (zI mtok), .int (zI mval), .ref mQnow, .ref mQfresh, .ref mQwas, .int (zI macts), .ref mQisKept, .ref mQkept, .ref mQheard, .ref mQnumber, .ref mQlowUp, .ref mQlowDown, .ref mQhighUp, .ref mQhighDown, .int (zI mlev'), .ref mQseen, .int (zI memp), .ref mQfirst], eA mQnow (cy 0) 11 mNow, eA mQheard (cy 0) 11 mHeard', eA mQnumber (cy 0) 7 mNum', eA mQlowUp (cy 0) 7 mLU', eA mQlowDown (cy 0) 7 mLD', eA mQhighUp (cy 0) 7 mHU', eA mQhighDown (cy 0) 7 mHD', eA mQfirst (cy 0) 7 mFirst'] (zI r) H locs (F0 m 21 ls [])
    | _ => True) (by
    rintro ⟨k, x1, x2, x3, mlev, mHeard, mNum, mLU, mLD, mHU, mHD, mFirst⟩ hf
    match k, hf with
    | 0, hf =>
      intro H locs ls hP hD hS hl
      unfold st_X7_certain at hf
      try dsimp only at hf
      refine lv_aload_n hx hb dX7_certain_12 rfl (lv_at hl 0 rfl) ?_
      obtain ⟨⟨r13, mlev_13, mHeard_13, mNum_13, mLU_13, mLD_13, mHU_13, mHD_13⟩, hc13, hf⟩ := zq_bind hf
      refine zcallVi (wr := [eA mQnow (cy 0) 11 mNow, eA mQfirst (cy 0) 7 mFirst]) (rest := []) ⟨hx, hb, hml, hown, hts⟩ (c_X7_goesOn l D cy mO mQtext mQnow mQfresh mQwas mQisKept mQkept mQheard mQnumber mQlowUp mQlowDown mQhighUp mQhighDown mQseen mQfirst H.size mth mmany mcur mst mtok mval macts mlev memp mHeard mNum mLU mLD mHU mHD hc13) (cwV 0 hts gX7_certain_X7_goesOn rfl rfl rfl (by decide +kernel) ⟨Nat.le_of_ble_eq_true rfl, Nat.le_of_ble_eq_true rfl⟩) hK hP hD hS hA [0, 2, 3, 4, 5, 6, 7] [1, 8] rfl rfl rfl rfl (by decide) (va_recv hK.1 hP (ci := 6) (q0 := 0) rfl rfl) rfl hl.1 rfl (Nat.le_of_ble_eq_true rfl) dX7_certain_13 ⟨Nat.zero_le _, Nat.zero_le _⟩ (fun H locs hP hD hS => ?_)
      have hP : va_P D vwCl [eO mO 6 [.int (zI mth), .ref mQtext, .int (zI mmany), .int (zI mcur), .int (zI mst), .int (zI mtok), .int (zI mval), .ref mQnow, .ref mQfresh, .ref mQwas, .int (zI macts), .ref mQisKept, .ref mQkept, .ref mQheard, .ref mQnumber, .ref mQlowUp, .ref mQlowDown, .ref mQhighUp, .ref mQhighDown, .int (zI mlev_13), .ref mQseen, .int (zI memp), .ref mQfirst], eA mQnow (cy 0) 11 mNow, eA mQheard (cy 0) 11 mHeard_13, eA mQnumber (cy 0) 7 mNum_13, eA mQlowUp (cy 0) 7 mLU_13, eA mQlowDown (cy 0) 7 mLD_13, eA mQhighUp (cy 0) 7 mHU_13, eA mQhighDown (cy 0) 7 mHD_13, eA mQfirst (cy 0) 7 mFirst] H := hP.sub [2, 0, 3, 4, 5, 6, 7, 8, 1] rfl
      have hD : va_D A [eO mO 6 [.int (zI mth), .ref mQtext, .int (zI mmany), .int (zI mcur), .int (zI mst), .int (zI mtok), .int (zI mval), .ref mQnow, .ref mQfresh, .ref mQwas, .int (zI macts), .ref mQisKept, .ref mQkept, .ref mQheard, .ref mQnumber, .ref mQlowUp, .ref mQlowDown, .ref mQhighUp, .ref mQhighDown, .int (zI mlev_13), .ref mQseen, .int (zI memp), .ref mQfirst], eA mQnow (cy 0) 11 mNow, eA mQheard (cy 0) 11 mHeard_13, eA mQnumber (cy 0) 7 mNum_13, eA mQlowUp (cy 0) 7 mLU_13, eA mQlowDown (cy 0) 7 mLD_13, eA mQhighUp (cy 0) 7 mHU_13, eA mQhighDown (cy 0) 7 mHD_13, eA mQfirst (cy 0) 7 mFirst] := hD.sub [2, 0, 3, 4, 5, 6, 7, 8, 1] rfl rfl
      refine zz_if_eq (tgt := 92) hx hb dX7_certain_16 (by decide) hf (fun hc hf => ?_) (fun hc hf => ?_)
      · refine lv_iload_n hx hb dX7_certain_92 rfl (lv_at hl 1 rfl) ?_
        have hf := zq_some hf
        cases hf
        exact W.iret hx hb hr (fun t ht hW => ⟨⟨_, (), rfl, rfl, by rw [ht]; exact hP, hD⟩, hS.F ht⟩) hS.2.2 dX7_certain_93
      · refine lv_iconst (v := zI 0) hx hb dX7_certain_19 rfl ?_
        refine lv_istore_n (lv' := [(3, .int (zI 0)), (0, .ref mO), (1, .int (zI x1)), (2, .int (zI x2))]) hx hb dX7_certain_20 rfl hl (by decide) rfl (fun ls hl => ?_)
        have hf := zq_some hf
        exact hf _ _ _ hP hD hS (lv_sub hl [1, 2, 3, 0] rfl)
    | 1, hf =>
      intro H locs ls hP hD hS hl
      unfold st_X7_certain at hf
      try dsimp only at hf
      refine lv_iload_n hx hb dX7_certain_21 rfl (lv_at hl 3 rfl) ?_
      refine lv_aload_n hx hb dX7_certain_22 rfl (lv_at hl 0 rfl) ?_
      refine va_get (D := D) (ci := 6) (v := .ref mQnow) (C := RX7) (T := TX7) (N := 23) hx hb hts u_X7_certain_X7 hown hK.1 hP 0 rfl rfl 7 (by decide) (hts _ m_X7_certain_1) (fun _ h9 => h9) rfl dX7_certain_23 ?_
      refine lv_iconst (v := zI 0) hx hb dX7_certain_26 rfl ?_
      refine zz_iald (i := 0) hx hb hK hP 1 rfl (Nat.le_of_ble_eq_true rfl) (by decide) dX7_certain_27 ?_
      refine zz_icmp_ge (tgt := 86) hx hb dX7_certain_28 (by decide) hf (fun hc hf => ?_) (fun hc hf => ?_)
      · refine lv_iload_n hx hb dX7_certain_31 rfl (lv_at hl 2 rfl) ?_
        refine zz_if_ne (tgt := 53) hx hb dX7_certain_32 (by decide) hf (fun hc hf => ?_) (fun hc hf => ?_)
        · refine lv_aload_n hx hb dX7_certain_35 rfl (lv_at hl 0 rfl) ?_
          refine va_get (D := D) (ci := 6) (v := .ref mQfirst) (C := RX7) (T := TX7) (N := 23) hx hb hts u_X7_certain_X7 hown hK.1 hP 0 rfl rfl 22 (by decide) (hts _ m_X7_certain_2) (fun _ h9 => h9) rfl dX7_certain_36 ?_
          refine lv_iload_n hx hb dX7_certain_39 rfl (lv_at hl 3 rfl) ?_
          refine lv_aload_n hx hb dX7_certain_40 rfl (lv_at hl 0 rfl) ?_
          refine va_get (D := D) (ci := 6) (v := .ref mQnumber) (C := RX7) (T := TX7) (N := 23) hx hb hts u_X7_certain_X7 hown hK.1 hP 0 rfl rfl 14 (by decide) (hts _ m_X7_certain_3) (fun _ h9 => h9) rfl dX7_certain_41 ?_
          refine lv_iload_n hx hb dX7_certain_44 rfl (lv_at hl 3 rfl) ?_
          obtain ⟨hg, hf⟩ := zq_gd hf
          refine zz_iald (i := x3) hx hb hK hP 3 rfl (Nat.le_of_ble_eq_true rfl) hg dX7_certain_45 ?_
          obtain ⟨hg, hf⟩ := zq_gd hf
          refine zz_iast (i := x3) hx hb hK hP hD hS 8 rfl (Nat.le_of_ble_eq_true rfl) hg dX7_certain_46 (fun H locs hP hD hS => ?_)
          have hP : va_P D vwCl [eO mO 6 [.int (zI mth), .ref mQtext, .int (zI mmany), .int (zI mcur), .int (zI mst), .int (zI mtok), .int (zI mval), .ref mQnow, .ref mQfresh, .ref mQwas, .int (zI macts), .ref mQisKept, .ref mQkept, .ref mQheard, .ref mQnumber, .ref mQlowUp, .ref mQlowDown, .ref mQhighUp, .ref mQhighDown, .int (zI mlev), .ref mQseen, .int (zI memp), .ref mQfirst], eA mQnow (cy 0) 11 mNow, eA mQheard (cy 0) 11 mHeard, eA mQnumber (cy 0) 7 mNum, eA mQlowUp (cy 0) 7 mLU, eA mQlowDown (cy 0) 7 mLD, eA mQhighUp (cy 0) 7 mHU, eA mQhighDown (cy 0) 7 mHD, eA mQfirst (cy 0) 7 (zup mFirst x3 (mNum (Int.toNat x3)))] H := hP
          have hD : va_D A [eO mO 6 [.int (zI mth), .ref mQtext, .int (zI mmany), .int (zI mcur), .int (zI mst), .int (zI mtok), .int (zI mval), .ref mQnow, .ref mQfresh, .ref mQwas, .int (zI macts), .ref mQisKept, .ref mQkept, .ref mQheard, .ref mQnumber, .ref mQlowUp, .ref mQlowDown, .ref mQhighUp, .ref mQhighDown, .int (zI mlev), .ref mQseen, .int (zI memp), .ref mQfirst], eA mQnow (cy 0) 11 mNow, eA mQheard (cy 0) 11 mHeard, eA mQnumber (cy 0) 7 mNum, eA mQlowUp (cy 0) 7 mLU, eA mQlowDown (cy 0) 7 mLD, eA mQhighUp (cy 0) 7 mHU, eA mQhighDown (cy 0) 7 mHD, eA mQfirst (cy 0) 7 (zup mFirst x3 (mNum (Int.toNat x3)))] := hD
          refine lv_iload_n hx hb dX7_certain_47 rfl (lv_at hl 1 rfl) ?_
          refine lv_iconst (v := zI 1) hx hb dX7_certain_48 rfl ?_
          refine lv_iload_n hx hb dX7_certain_49 rfl (lv_at hl 3 rfl) ?_
          refine zz_ishl hx hb dX7_certain_50 ?_
          refine zz_ior hx hb dX7_certain_51 ?_
          obtain ⟨v52, e52, hf⟩ := zq_lt hf
          refine zz_top e52 ?_
          refine lv_istore_n (lv' := [(1, .int (zI v52)), (0, .ref mO), (2, .int (zI x2)), (3, .int (zI x3))]) hx hb dX7_certain_52 rfl hl (by decide) rfl (fun ls hl => ?_)
          refine lv_iload_n hx hb dX7_certain_53 rfl (lv_at hl 0 rfl) ?_
          refine lv_aload_n hx hb dX7_certain_54 rfl (lv_at hl 1 rfl) ?_
          refine va_get (D := D) (ci := 6) (v := .ref mQfirst) (C := RX7) (T := TX7) (N := 23) hx hb hts u_X7_certain_X7 hown hK.1 hP 0 rfl rfl 22 (by decide) (hts _ m_X7_certain_2) (fun _ h9 => h9) rfl dX7_certain_55 ?_
          refine lv_iload_n hx hb dX7_certain_58 rfl (lv_at hl 3 rfl) ?_
          obtain ⟨hg, hf⟩ := zq_gd hf
          refine zz_iald (i := x3) hx hb hK hP 8 rfl (Nat.le_of_ble_eq_true rfl) hg dX7_certain_59 ?_
          refine lv_aload_n hx hb dX7_certain_60 rfl (lv_at hl 1 rfl) ?_
          refine va_get (D := D) (ci := 6) (v := .ref mQnumber) (C := RX7) (T := TX7) (N := 23) hx hb hts u_X7_certain_X7 hown hK.1 hP 0 rfl rfl 14 (by decide) (hts _ m_X7_certain_3) (fun _ h9 => h9) rfl dX7_certain_61 ?_
          refine lv_iload_n hx hb dX7_certain_64 rfl (lv_at hl 3 rfl) ?_
          obtain ⟨hg, hf⟩ := zq_gd hf
          refine zz_iald (i := x3) hx hb hK hP 3 rfl (Nat.le_of_ble_eq_true rfl) hg dX7_certain_65 ?_
          refine zz_icmp_ne (tgt := 73) hx hb dX7_certain_66 (by decide) hf (fun hc hf => ?_) (fun hc hf => ?_)
          · refine lv_iload_n hx hb dX7_certain_69 rfl (lv_at hl 0 rfl) ?_
            refine lv_goto (tgt := 78) hx hb dX7_certain_70 (by decide) ?_
            refine zz_iand hx hb dX7_certain_78 ?_
            obtain ⟨v79, e79, hf⟩ := zq_lt hf
            refine zz_top e79 ?_
            refine lv_istore_n (lv' := [(1, .int (zI v79)), (0, .ref mO), (2, .int (zI x2)), (3, .int (zI x3))]) hx hb dX7_certain_79 rfl hl (by decide) rfl (fun ls hl => ?_)
            refine lv_iinc (v := zI (x3 + 1)) (lv' := [(3, .int (zI (x3 + 1))), (1, .int (zI v79)), (0, .ref mO), (2, .int (zI x2))]) hx hb dX7_certain_80 hl (k := 3) rfl (zI_add _ _) (by decide) rfl (fun ls hl => ?_)
            refine lv_goto (tgt := 21) hx hb dX7_certain_83 (by decide) ?_
            have hf := zq_some hf
            exact hf _ _ _ hP hD hS (lv_sub hl [2, 1, 3, 0] rfl)
          · refine lv_iconst (v := zI 1) hx hb dX7_certain_73 rfl ?_
            refine lv_iload_n hx hb dX7_certain_74 rfl (lv_at hl 3 rfl) ?_
            refine zz_ishl hx hb dX7_certain_75 ?_
            refine lv_iconst (v := zI (-1)) hx hb dX7_certain_76 rfl ?_
            refine zz_ixor hx hb dX7_certain_77 ?_
            refine zz_iand hx hb dX7_certain_78 ?_
            obtain ⟨v79, e79, hf⟩ := zq_lt hf
            refine zz_top e79 ?_
            refine lv_istore_n (lv' := [(1, .int (zI v79)), (0, .ref mO), (2, .int (zI x2)), (3, .int (zI x3))]) hx hb dX7_certain_79 rfl hl (by decide) rfl (fun ls hl => ?_)
            refine lv_iinc (v := zI (x3 + 1)) (lv' := [(3, .int (zI (x3 + 1))), (1, .int (zI v79)), (0, .ref mO), (2, .int (zI x2))]) hx hb dX7_certain_80 hl (k := 3) rfl (zI_add _ _) (by decide) rfl (fun ls hl => ?_)
            refine lv_goto (tgt := 21) hx hb dX7_certain_83 (by decide) ?_
            have hf := zq_some hf
            exact hf _ _ _ hP hD hS (lv_sub hl [2, 1, 3, 0] rfl)
        · refine lv_iload_n hx hb dX7_certain_53 rfl (lv_at hl 1 rfl) ?_
          refine lv_aload_n hx hb dX7_certain_54 rfl (lv_at hl 0 rfl) ?_
          refine va_get (D := D) (ci := 6) (v := .ref mQfirst) (C := RX7) (T := TX7) (N := 23) hx hb hts u_X7_certain_X7 hown hK.1 hP 0 rfl rfl 22 (by decide) (hts _ m_X7_certain_2) (fun _ h9 => h9) rfl dX7_certain_55 ?_
          refine lv_iload_n hx hb dX7_certain_58 rfl (lv_at hl 3 rfl) ?_
          obtain ⟨hg, hf⟩ := zq_gd hf
          refine zz_iald (i := x3) hx hb hK hP 8 rfl (Nat.le_of_ble_eq_true rfl) hg dX7_certain_59 ?_
          refine lv_aload_n hx hb dX7_certain_60 rfl (lv_at hl 0 rfl) ?_
          refine va_get (D := D) (ci := 6) (v := .ref mQnumber) (C := RX7) (T := TX7) (N := 23) hx hb hts u_X7_certain_X7 hown hK.1 hP 0 rfl rfl 14 (by decide) (hts _ m_X7_certain_3) (fun _ h9 => h9) rfl dX7_certain_61 ?_
          refine lv_iload_n hx hb dX7_certain_64 rfl (lv_at hl 3 rfl) ?_
          obtain ⟨hg, hf⟩ := zq_gd hf
          refine zz_iald (i := x3) hx hb hK hP 3 rfl (Nat.le_of_ble_eq_true rfl) hg dX7_certain_65 ?_
          refine zz_icmp_ne (tgt := 73) hx hb dX7_certain_66 (by decide) hf (fun hc hf => ?_) (fun hc hf => ?_)
          · refine lv_iload_n hx hb dX7_certain_69 rfl (lv_at hl 1 rfl) ?_
            refine lv_goto (tgt := 78) hx hb dX7_certain_70 (by decide) ?_
            refine zz_iand hx hb dX7_certain_78 ?_
            obtain ⟨v79, e79, hf⟩ := zq_lt hf
            refine zz_top e79 ?_
            refine lv_istore_n (lv' := [(1, .int (zI v79)), (0, .ref mO), (2, .int (zI x2)), (3, .int (zI x3))]) hx hb dX7_certain_79 rfl hl (by decide) rfl (fun ls hl => ?_)
            refine lv_iinc (v := zI (x3 + 1)) (lv' := [(3, .int (zI (x3 + 1))), (1, .int (zI v79)), (0, .ref mO), (2, .int (zI x2))]) hx hb dX7_certain_80 hl (k := 3) rfl (zI_add _ _) (by decide) rfl (fun ls hl => ?_)
            refine lv_goto (tgt := 21) hx hb dX7_certain_83 (by decide) ?_
            have hf := zq_some hf
            exact hf _ _ _ hP hD hS (lv_sub hl [2, 1, 3, 0] rfl)
          · refine lv_iconst (v := zI 1) hx hb dX7_certain_73 rfl ?_
            refine lv_iload_n hx hb dX7_certain_74 rfl (lv_at hl 3 rfl) ?_
            refine zz_ishl hx hb dX7_certain_75 ?_
            refine lv_iconst (v := zI (-1)) hx hb dX7_certain_76 rfl ?_
            refine zz_ixor hx hb dX7_certain_77 ?_
            refine zz_iand hx hb dX7_certain_78 ?_
            obtain ⟨v79, e79, hf⟩ := zq_lt hf
            refine zz_top e79 ?_
            refine lv_istore_n (lv' := [(1, .int (zI v79)), (0, .ref mO), (2, .int (zI x2)), (3, .int (zI x3))]) hx hb dX7_certain_79 rfl hl (by decide) rfl (fun ls hl => ?_)
            refine lv_iinc (v := zI (x3 + 1)) (lv' := [(3, .int (zI (x3 + 1))), (1, .int (zI v79)), (0, .ref mO), (2, .int (zI x2))]) hx hb dX7_certain_80 hl (k := 3) rfl (zI_add _ _) (by decide) rfl (fun ls hl => ?_)
            refine lv_goto (tgt := 21) hx hb dX7_certain_83 (by decide) ?_
            have hf := zq_some hf
            exact hf _ _ _ hP hD hS (lv_sub hl [2, 1, 3, 0] rfl)
      · refine lv_iinc (v := zI (x2 + 1)) (lv' := [(2, .int (zI (x2 + 1))), (0, .ref mO), (1, .int (zI x1)), (3, .int (zI x3))]) hx hb dX7_certain_86 hl (k := 2) rfl (zI_add _ _) (by decide) rfl (fun ls hl => ?_)
        refine lv_goto (tgt := 12) hx hb dX7_certain_89 (by decide) ?_
        have hf := zq_some hf
        exact hf _ _ _ hP hD hS (lv_sub hl [1, 2, 0] rfl)
    | n + 2, hf => exact hf.elim)
  unfold f_X7_certain at hf
  refine lv_iconst (v := zI 0) hx hb dX7_certain_0 rfl ?_
  refine lv_istore_n (lv' := [(1, .int (zI 0)), (0, .ref mO)]) hx hb dX7_certain_1 rfl hl (by decide) rfl (fun ls hl => ?_)
  refine lv_iconst (v := zI 0) hx hb dX7_certain_2 rfl ?_
  refine lv_istore_n (lv' := [(2, .int (zI 0)), (1, .int (zI 0)), (0, .ref mO)]) hx hb dX7_certain_3 rfl hl (by decide) rfl (fun ls hl => ?_)
  refine lv_aload_n hx hb dX7_certain_4 rfl (lv_at hl 2 rfl) ?_
  refine lv_aload_n hx hb dX7_certain_5 rfl (lv_at hl 2 rfl) ?_
  refine va_get (D := D) (ci := 6) (v := .ref mQnow) (C := RX7) (T := TX7) (N := 23) hx hb hts u_X7_certain_X7 hown hK.1 hP 0 rfl rfl 7 (by decide) (hts _ m_X7_certain_1) (fun _ h9 => h9) rfl dX7_certain_6 ?_
  obtain ⟨⟨mlev_9, mHeard_9, mNum_9, mLU_9, mLD_9, mHU_9, mHD_9⟩, hc9, hf⟩ := zq_bind hf
  refine zcallVv (wr := [eA mQfirst (cy 0) 7 mFirst]) (rest := []) ⟨hx, hb, hml, hown, hts⟩ (c_X7_begin_n l D cy mO mQtext mQnow mQfresh mQwas mQisKept mQkept mQheard mQnumber mQlowUp mQlowDown mQhighUp mQhighDown mQseen mQfirst s.heap.size mth mmany mcur mst mtok mval macts mlev memp mNow mHeard mNum mLU mLD mHU mHD hc9) (cwV 1 hts gX7_certain_X7_begin rfl rfl rfl (by decide +kernel) ⟨Nat.le_of_ble_eq_true rfl, Nat.le_of_ble_eq_true rfl⟩) hK hP hD hS hA [0, 1, 2, 3, 4, 5, 6, 7] [8] rfl rfl rfl rfl (by decide) (va_recv hK.1 hP (ci := 6) (q0 := 0) rfl rfl) rfl hl.1 rfl (Nat.le_of_ble_eq_true rfl) dX7_certain_9 ⟨Nat.zero_le _, Nat.zero_le _⟩ (fun H locs hP hD hS => ?_)
  have hP : va_P D vwCl [eO mO 6 [.int (zI mth), .ref mQtext, .int (zI mmany), .int (zI mcur), .int (zI mst), .int (zI mtok), .int (zI mval), .ref mQnow, .ref mQfresh, .ref mQwas, .int (zI macts), .ref mQisKept, .ref mQkept, .ref mQheard, .ref mQnumber, .ref mQlowUp, .ref mQlowDown, .ref mQhighUp, .ref mQhighDown, .int (zI mlev_9), .ref mQseen, .int (zI memp), .ref mQfirst], eA mQnow (cy 0) 11 mNow, eA mQheard (cy 0) 11 mHeard_9, eA mQnumber (cy 0) 7 mNum_9, eA mQlowUp (cy 0) 7 mLU_9, eA mQlowDown (cy 0) 7 mLD_9, eA mQhighUp (cy 0) 7 mHU_9, eA mQhighDown (cy 0) 7 mHD_9, eA mQfirst (cy 0) 7 mFirst] H := hP.sub [1, 2, 3, 4, 5, 6, 7, 8, 0] rfl
  have hD : va_D A [eO mO 6 [.int (zI mth), .ref mQtext, .int (zI mmany), .int (zI mcur), .int (zI mst), .int (zI mtok), .int (zI mval), .ref mQnow, .ref mQfresh, .ref mQwas, .int (zI macts), .ref mQisKept, .ref mQkept, .ref mQheard, .ref mQnumber, .ref mQlowUp, .ref mQlowDown, .ref mQhighUp, .ref mQhighDown, .int (zI mlev_9), .ref mQseen, .int (zI memp), .ref mQfirst], eA mQnow (cy 0) 11 mNow, eA mQheard (cy 0) 11 mHeard_9, eA mQnumber (cy 0) 7 mNum_9, eA mQlowUp (cy 0) 7 mLU_9, eA mQlowDown (cy 0) 7 mLD_9, eA mQhighUp (cy 0) 7 mHU_9, eA mQhighDown (cy 0) 7 mHD_9, eA mQfirst (cy 0) 7 mFirst] := hD.sub [1, 2, 3, 4, 5, 6, 7, 8, 0] rfl rfl
  exact key _ (zq_eq hf) _ _ _ hP hD hS (lv_sub hl [2, 1, 0] rfl)

noncomputable def f_X7_count (p1 : Int) (mmany : Int) (macts : Int) (mlev : Int) (mNow : Nat → Int) (mHeard : Nat → Int) (mNum : Nat → Int) (mLU : Nat → Int) (mLD : Nat → Int) (mHU : Nat → Int) (mHD : Nat → Int) (mFirst : Nat → Int) : Option (Int × Int × Int × (Nat → Int) × (Nat → Int) × (Nat → Int) × (Nat → Int) × (Nat → Int) × (Nat → Int) × (Nat → Int)) :=
  gd (zR p1) <|
  if p1 = 0 then
    gd (zin p1 11) <|
    some ((mNow (Int.toNat p1)), 0, mlev, mHeard, mNum, mLU, mLD, mHU, mHD, mFirst)
  else
  if p1 = 1 then
    gd (zin p1 11) <|
    some ((mNow (Int.toNat p1)), 0, mlev, mHeard, mNum, mLU, mLD, mHU, mHD, mFirst)
  else
  if p1 = 2 then
    gd (zin p1 11) <|
    some ((mNow (Int.toNat p1)), 0, mlev, mHeard, mNum, mLU, mLD, mHU, mHD, mFirst)
  else
  if p1 = 3 then
    gd (zin p1 11) <|
    some ((mNow (Int.toNat p1)), 0, mlev, mHeard, mNum, mLU, mLD, mHU, mHD, mFirst)
  else
  if p1 = 4 then
    (f_X7_standing_n mNow mHeard mNum mLU mLD mHU mHD).bind fun (r64, mlev_64, mHeard_64, mNum_64, mLU_64, mLD_64, mHU_64, mHD_64) =>
    some (r64, 0, mlev_64, mHeard_64, mNum_64, mLU_64, mLD_64, mHU_64, mHD_64, mFirst)
  else
  if p1 = 5 then
    (f_X7_certain mNow mHeard mNum mLU mLD mHU mHD mFirst).bind fun (r69, mlev_69, mHeard_69, mNum_69, mLU_69, mLD_69, mHU_69, mHD_69, mFirst_69) =>
    some (r69, 0, mlev_69, mHeard_69, mNum_69, mLU_69, mLD_69, mHU_69, mHD_69, mFirst_69)
  else
  if p1 = 6 then
    some (mmany, 0, mlev, mHeard, mNum, mLU, mLD, mHU, mHD, mFirst)
  else
  if p1 = 7 then
    some (macts, 0, mlev, mHeard, mNum, mLU, mLD, mHU, mHD, mFirst)
  else
    some ((-1), 0, mlev, mHeard, mNum, mLU, mLD, mHU, mHD, mFirst)
theorem m_X7_count_1 : (.fieldLink RX7 1 "PulseTurnsModel" "thrown" "I" : Cond) ∈ wsX7_count := List.mem_of_getElem? (i := 1) rfl
theorem m_X7_count_2 : (.fieldLink RX7 46 "PulseTurnsModel" "now" "[I" : Cond) ∈ wsX7_count := List.mem_of_getElem? (i := 2) rfl
theorem m_X7_count_3 : (.fieldLink RX7 13 "PulseTurnsModel" "many" "I" : Cond) ∈ wsX7_count := List.mem_of_getElem? (i := 3) rfl
theorem m_X7_count_4 : (.fieldLink RX7 116 "PulseTurnsModel" "acts" "I" : Cond) ∈ wsX7_count := List.mem_of_getElem? (i := 4) rfl
theorem u_X7_count_X7 : ∀ w ∈ wsX70, w ∈ wsX7_count := fun w h => List.mem_cons_of_mem _ (List.mem_append_right _ h)
set_option maxRecDepth 100000 in
set_option maxHeartbeats 4000000 in
theorem c_X7_count (l : Launch) (D : va_G) (cy : Nat → ClassId) (mO mQtext mQnow mQfresh mQwas mQisKept mQkept mQheard mQnumber mQlowUp mQlowDown mQhighUp mQhighDown mQseen mQfirst : Nat) (sz : Nat) (p1 : Int) (mth : Int) (mmany : Int) (mcur : Int) (mst : Int) (mtok : Int) (mval : Int) (macts : Int) (mlev : Int) (memp : Int) (mNow : Nat → Int) (mHeard : Nat → Int) (mNum : Nat → Int) (mLU : Nat → Int) (mLD : Nat → Int) (mHU : Nat → Int) (mHD : Nat → Int) (mFirst : Nat → Int) {r : Int} {mth' : Int} {mlev' : Int} {mHeard' : Nat → Int} {mNum' : Nat → Int} {mLU' : Nat → Int} {mLD' : Nat → Int} {mHU' : Nat → Int} {mHD' : Nat → Int} {mFirst' : Nat → Int} (hf : f_X7_count p1 mmany macts mlev mNow mHeard mNum mLU mLD mHU mHD mFirst = some (r, mth', mlev', mHeard', mNum', mLU', mLD', mHU', mHD', mFirst')) : zMi l yX7_count wsX7_count ({ frames := 4, cells := 0, slots := 0, locals := 93 }) D cy sz [.ref mO, .int (zI p1)] [eO mO 6 [.int (zI mth), .ref mQtext, .int (zI mmany), .int (zI mcur), .int (zI mst), .int (zI mtok), .int (zI mval), .ref mQnow, .ref mQfresh, .ref mQwas, .int (zI macts), .ref mQisKept, .ref mQkept, .ref mQheard, .ref mQnumber, .ref mQlowUp, .ref mQlowDown, .ref mQhighUp, .ref mQhighDown, .int (zI mlev), .ref mQseen, .int (zI memp), .ref mQfirst], eA mQnow (cy 0) 11 mNow, eA mQheard (cy 0) 11 mHeard, eA mQnumber (cy 0) 7 mNum, eA mQlowUp (cy 0) 7 mLU, eA mQlowDown (cy 0) 7 mLD, eA mQhighUp (cy 0) 7 mHU, eA mQhighDown (cy 0) 7 mHD, eA mQfirst (cy 0) 7 mFirst] [eO mO 6 [.int (zI mth'), .ref mQtext, .int (zI mmany), .int (zI mcur), .int (zI mst), .int (zI mtok), .int (zI mval), .ref mQnow, .ref mQfresh, .ref mQwas, .int (zI macts), .ref mQisKept, .ref mQkept, .ref mQheard, .ref mQnumber, .ref mQlowUp, .ref mQlowDown, .ref mQhighUp, .ref mQhighDown, .int (zI mlev'), .ref mQseen, .int (zI memp), .ref mQfirst], eA mQnow (cy 0) 11 mNow, eA mQheard (cy 0) 11 mHeard', eA mQnumber (cy 0) 7 mNum', eA mQlowUp (cy 0) 7 mLU', eA mQlowDown (cy 0) 7 mLD', eA mQhighUp (cy 0) 7 mHU', eA mQhighDown (cy 0) 7 mHD', eA mQfirst (cy 0) 7 mFirst'] (zI r) := by
  refine Met.ofW (cc := cX7_count) (maxL := 2) (ret := (some .int)) (by decide) rfl ?_
  intro p e s m args below meth c s₁ B hml hv
  obtain ⟨rfl, hsz, hP, hK, hD0⟩ := hv
  have hx := B.exec
  have hb := B.bytes
  have hr := B.returns
  have hts := atoms_spec (ws := wsX7_count) B.pre
  have hown : s.vm.findClass RX7 = some m.cls := findClass_of_methodNamed B.named
  have hlocks := B.notSynchronized
  subst hsz
  have hD := hD0.self (sz := s.heap.size)
  generalize hAe : va_A [eO mO 6 [.int (zI mth), .ref mQtext, .int (zI mmany), .int (zI mcur), .int (zI mst), .int (zI mtok), .int (zI mval), .ref mQnow, .ref mQfresh, .ref mQwas, .int (zI macts), .ref mQisKept, .ref mQkept, .ref mQheard, .ref mQnumber, .ref mQlowUp, .ref mQlowDown, .ref mQhighUp, .ref mQhighDown, .int (zI mlev), .ref mQseen, .int (zI memp), .ref mQfirst], eA mQnow (cy 0) 11 mNow, eA mQheard (cy 0) 11 mHeard, eA mQnumber (cy 0) 7 mNum, eA mQlowUp (cy 0) 7 mLU, eA mQlowDown (cy 0) 7 mLD, eA mQhighUp (cy 0) 7 mHU, eA mQhighDown (cy 0) 7 mHD, eA mQfirst (cy 0) 7 mFirst] s.heap.size = A at hD ⊢
  have hA : ∀ q : Nat, s.heap.size ≤ q → A q := fun q h => by rw [← hAe]; exact Or.inr h
  have hS : va_S A s.heap s.heap [] := va_S.rf
  have hl := lv_entry ([.ref mO, .int (zI p1)]) (n := 2) (Nat.le_of_ble_eq_true rfl)
  rw [lg_entry_eq]
  generalize (lg_sl ([.ref mO, .int (zI p1)]) ++ List.replicate (2 - (lg_sl ([.ref mO, .int (zI p1)])).length) Slot.unset).toArray = ls at hl ⊢
  have hl : lv_has ls 2 [(0, .ref mO), (1, .int (zI p1))] := hl
  have hf := zq_of hf
  unfold f_X7_count at hf
  refine lv_aload_n hx hb dX7_count_0 rfl (lv_at hl 0 rfl) ?_
  refine lv_iconst (v := zI 0) hx hb dX7_count_1 rfl ?_
  refine va_put (D := D) (ci := 6) (v := .int (zI 0)) (ty := .int) (C := RX7) (T := TX7) (N := 23) hx hb hts u_X7_count_X7 tyX7 tyX7_ok nmX7 hown hK.1 hP hD hS 0 rfl rfl 0 (by decide) (hts _ m_X7_count_1) (fun _ h9 => h9) rfl (tyX7_ok 0 (by decide)) rfl rfl (Nat.le_of_ble_eq_true rfl) dX7_count_2 (fun H locs hP hD hS => ?_)
  have hP : va_P D vwCl [eO mO 6 [.int (zI 0), .ref mQtext, .int (zI mmany), .int (zI mcur), .int (zI mst), .int (zI mtok), .int (zI mval), .ref mQnow, .ref mQfresh, .ref mQwas, .int (zI macts), .ref mQisKept, .ref mQkept, .ref mQheard, .ref mQnumber, .ref mQlowUp, .ref mQlowDown, .ref mQhighUp, .ref mQhighDown, .int (zI mlev), .ref mQseen, .int (zI memp), .ref mQfirst], eA mQnow (cy 0) 11 mNow, eA mQheard (cy 0) 11 mHeard, eA mQnumber (cy 0) 7 mNum, eA mQlowUp (cy 0) 7 mLU, eA mQlowDown (cy 0) 7 mLD, eA mQhighUp (cy 0) 7 mHU, eA mQhighDown (cy 0) 7 mHD, eA mQfirst (cy 0) 7 mFirst] H := hP
  have hD : va_D A [eO mO 6 [.int (zI 0), .ref mQtext, .int (zI mmany), .int (zI mcur), .int (zI mst), .int (zI mtok), .int (zI mval), .ref mQnow, .ref mQfresh, .ref mQwas, .int (zI macts), .ref mQisKept, .ref mQkept, .ref mQheard, .ref mQnumber, .ref mQlowUp, .ref mQlowDown, .ref mQhighUp, .ref mQhighDown, .int (zI mlev), .ref mQseen, .int (zI memp), .ref mQfirst], eA mQnow (cy 0) 11 mNow, eA mQheard (cy 0) 11 mHeard, eA mQnumber (cy 0) 7 mNum, eA mQlowUp (cy 0) 7 mLU, eA mQlowDown (cy 0) 7 mLD, eA mQhighUp (cy 0) 7 mHU, eA mQhighDown (cy 0) 7 mHD, eA mQfirst (cy 0) 7 mFirst] := hD
  refine lv_iload_n hx hb dX7_count_5 rfl (lv_at hl 1 rfl) ?_
  obtain ⟨hg, hf⟩ := zq_gd hf
  by_cases hc0 : p1 = 0
  · rw [if_pos hc0] at hf
    refine zz_swIn (v := 0) (tgt := 52) hx hb dX7_count_6 hc0 (by decide) rfl (by decide) ?_
    refine lv_aload_n hx hb dX7_count_52 rfl (lv_at hl 0 rfl) ?_
    refine va_get (D := D) (ci := 6) (v := .ref mQnow) (C := RX7) (T := TX7) (N := 23) hx hb hts u_X7_count_X7 hown hK.1 hP 0 rfl rfl 7 (by decide) (hts _ m_X7_count_2) (fun _ h9 => h9) rfl dX7_count_53 ?_
    refine lv_iload_n hx hb dX7_count_56 rfl (lv_at hl 1 rfl) ?_
    obtain ⟨hg, hf⟩ := zq_gd hf
    refine zz_iald (i := p1) hx hb hK hP 1 rfl (Nat.le_of_ble_eq_true rfl) hg dX7_count_57 ?_
    have hf := zq_some hf
    cases hf
    exact W.iret hx hb hr (fun t ht hW => ⟨⟨_, (), rfl, rfl, by rw [ht]; exact hP, hD⟩, hS.F ht⟩) hS.2.2 dX7_count_58
  rw [if_neg hc0] at hf
  by_cases hc1 : p1 = 1
  · rw [if_pos hc1] at hf
    refine zz_swIn (v := 1) (tgt := 52) hx hb dX7_count_6 hc1 (by decide) rfl (by decide) ?_
    refine lv_aload_n hx hb dX7_count_52 rfl (lv_at hl 0 rfl) ?_
    refine va_get (D := D) (ci := 6) (v := .ref mQnow) (C := RX7) (T := TX7) (N := 23) hx hb hts u_X7_count_X7 hown hK.1 hP 0 rfl rfl 7 (by decide) (hts _ m_X7_count_2) (fun _ h9 => h9) rfl dX7_count_53 ?_
    refine lv_iload_n hx hb dX7_count_56 rfl (lv_at hl 1 rfl) ?_
    obtain ⟨hg, hf⟩ := zq_gd hf
    refine zz_iald (i := p1) hx hb hK hP 1 rfl (Nat.le_of_ble_eq_true rfl) hg dX7_count_57 ?_
    have hf := zq_some hf
    cases hf
    exact W.iret hx hb hr (fun t ht hW => ⟨⟨_, (), rfl, rfl, by rw [ht]; exact hP, hD⟩, hS.F ht⟩) hS.2.2 dX7_count_58
  rw [if_neg hc1] at hf
  by_cases hc2 : p1 = 2
  · rw [if_pos hc2] at hf
    refine zz_swIn (v := 2) (tgt := 52) hx hb dX7_count_6 hc2 (by decide) rfl (by decide) ?_
    refine lv_aload_n hx hb dX7_count_52 rfl (lv_at hl 0 rfl) ?_
    refine va_get (D := D) (ci := 6) (v := .ref mQnow) (C := RX7) (T := TX7) (N := 23) hx hb hts u_X7_count_X7 hown hK.1 hP 0 rfl rfl 7 (by decide) (hts _ m_X7_count_2) (fun _ h9 => h9) rfl dX7_count_53 ?_
    refine lv_iload_n hx hb dX7_count_56 rfl (lv_at hl 1 rfl) ?_
    obtain ⟨hg, hf⟩ := zq_gd hf
    refine zz_iald (i := p1) hx hb hK hP 1 rfl (Nat.le_of_ble_eq_true rfl) hg dX7_count_57 ?_
    have hf := zq_some hf
    cases hf
    exact W.iret hx hb hr (fun t ht hW => ⟨⟨_, (), rfl, rfl, by rw [ht]; exact hP, hD⟩, hS.F ht⟩) hS.2.2 dX7_count_58
  rw [if_neg hc2] at hf
  by_cases hc3 : p1 = 3
  · rw [if_pos hc3] at hf
    refine zz_swIn (v := 3) (tgt := 52) hx hb dX7_count_6 hc3 (by decide) rfl (by decide) ?_
    refine lv_aload_n hx hb dX7_count_52 rfl (lv_at hl 0 rfl) ?_
    refine va_get (D := D) (ci := 6) (v := .ref mQnow) (C := RX7) (T := TX7) (N := 23) hx hb hts u_X7_count_X7 hown hK.1 hP 0 rfl rfl 7 (by decide) (hts _ m_X7_count_2) (fun _ h9 => h9) rfl dX7_count_53 ?_
    refine lv_iload_n hx hb dX7_count_56 rfl (lv_at hl 1 rfl) ?_
    obtain ⟨hg, hf⟩ := zq_gd hf
    refine zz_iald (i := p1) hx hb hK hP 1 rfl (Nat.le_of_ble_eq_true rfl) hg dX7_count_57 ?_
    have hf := zq_some hf
    cases hf
    exact W.iret hx hb hr (fun t ht hW => ⟨⟨_, (), rfl, rfl, by rw [ht]; exact hP, hD⟩, hS.F ht⟩) hS.2.2 dX7_count_58
  rw [if_neg hc3] at hf
  by_cases hc4 : p1 = 4
  · rw [if_pos hc4] at hf
    refine zz_swIn (v := 4) (tgt := 59) hx hb dX7_count_6 hc4 (by decide) rfl (by decide) ?_
    refine lv_aload_n hx hb dX7_count_59 rfl (lv_at hl 0 rfl) ?_
    refine lv_aload_n hx hb dX7_count_60 rfl (lv_at hl 0 rfl) ?_
    refine va_get (D := D) (ci := 6) (v := .ref mQnow) (C := RX7) (T := TX7) (N := 23) hx hb hts u_X7_count_X7 hown hK.1 hP 0 rfl rfl 7 (by decide) (hts _ m_X7_count_2) (fun _ h9 => h9) rfl dX7_count_61 ?_
    obtain ⟨⟨r64, mlev_64, mHeard_64, mNum_64, mLU_64, mLD_64, mHU_64, mHD_64⟩, hc64, hf⟩ := zq_bind hf
    refine zcallVi (wr := [eA mQfirst (cy 0) 7 mFirst]) (rest := []) ⟨hx, hb, hml, hown, hts⟩ (c_X7_standing_n l D cy mO mQtext mQnow mQfresh mQwas mQisKept mQkept mQheard mQnumber mQlowUp mQlowDown mQhighUp mQhighDown mQseen mQfirst H.size 0 mmany mcur mst mtok mval macts mlev memp mNow mHeard mNum mLU mLD mHU mHD hc64) (cwV 1 hts gX7_count_X7_standing rfl rfl rfl (by decide +kernel) ⟨Nat.le_of_ble_eq_true rfl, Nat.le_of_ble_eq_true rfl⟩) hK hP hD hS hA [0, 1, 2, 3, 4, 5, 6, 7] [8] rfl rfl rfl rfl (by decide) (va_recv hK.1 hP (ci := 6) (q0 := 0) rfl rfl) rfl hl.1 rfl (Nat.le_of_ble_eq_true rfl) dX7_count_64 ⟨Nat.zero_le _, Nat.zero_le _⟩ (fun H locs hP hD hS => ?_)
    have hP : va_P D vwCl [eO mO 6 [.int (zI 0), .ref mQtext, .int (zI mmany), .int (zI mcur), .int (zI mst), .int (zI mtok), .int (zI mval), .ref mQnow, .ref mQfresh, .ref mQwas, .int (zI macts), .ref mQisKept, .ref mQkept, .ref mQheard, .ref mQnumber, .ref mQlowUp, .ref mQlowDown, .ref mQhighUp, .ref mQhighDown, .int (zI mlev_64), .ref mQseen, .int (zI memp), .ref mQfirst], eA mQnow (cy 0) 11 mNow, eA mQheard (cy 0) 11 mHeard_64, eA mQnumber (cy 0) 7 mNum_64, eA mQlowUp (cy 0) 7 mLU_64, eA mQlowDown (cy 0) 7 mLD_64, eA mQhighUp (cy 0) 7 mHU_64, eA mQhighDown (cy 0) 7 mHD_64, eA mQfirst (cy 0) 7 mFirst] H := hP.sub [1, 2, 3, 4, 5, 6, 7, 8, 0] rfl
    have hD : va_D A [eO mO 6 [.int (zI 0), .ref mQtext, .int (zI mmany), .int (zI mcur), .int (zI mst), .int (zI mtok), .int (zI mval), .ref mQnow, .ref mQfresh, .ref mQwas, .int (zI macts), .ref mQisKept, .ref mQkept, .ref mQheard, .ref mQnumber, .ref mQlowUp, .ref mQlowDown, .ref mQhighUp, .ref mQhighDown, .int (zI mlev_64), .ref mQseen, .int (zI memp), .ref mQfirst], eA mQnow (cy 0) 11 mNow, eA mQheard (cy 0) 11 mHeard_64, eA mQnumber (cy 0) 7 mNum_64, eA mQlowUp (cy 0) 7 mLU_64, eA mQlowDown (cy 0) 7 mLD_64, eA mQhighUp (cy 0) 7 mHU_64, eA mQhighDown (cy 0) 7 mHD_64, eA mQfirst (cy 0) 7 mFirst] := hD.sub [1, 2, 3, 4, 5, 6, 7, 8, 0] rfl rfl
    have hf := zq_some hf
    cases hf
    exact W.iret hx hb hr (fun t ht hW => ⟨⟨_, (), rfl, rfl, by rw [ht]; exact hP, hD⟩, hS.F ht⟩) hS.2.2 dX7_count_67
  rw [if_neg hc4] at hf
  by_cases hc5 : p1 = 5
  · rw [if_pos hc5] at hf
    refine zz_swIn (v := 5) (tgt := 68) hx hb dX7_count_6 hc5 (by decide) rfl (by decide) ?_
    refine lv_aload_n hx hb dX7_count_68 rfl (lv_at hl 0 rfl) ?_
    obtain ⟨⟨r69, mlev_69, mHeard_69, mNum_69, mLU_69, mLD_69, mHU_69, mHD_69, mFirst_69⟩, hc69, hf⟩ := zq_bind hf
    refine zcallVi (wr := []) (rest := []) ⟨hx, hb, hml, hown, hts⟩ (c_X7_certain l D cy mO mQtext mQnow mQfresh mQwas mQisKept mQkept mQheard mQnumber mQlowUp mQlowDown mQhighUp mQhighDown mQseen mQfirst H.size 0 mmany mcur mst mtok mval macts mlev memp mNow mHeard mNum mLU mLD mHU mHD mFirst hc69) (cwV 0 hts gX7_count_X7_certain rfl rfl rfl (by decide +kernel) ⟨Nat.le_of_ble_eq_true rfl, Nat.le_of_ble_eq_true rfl⟩) hK hP hD hS hA [0, 1, 2, 3, 4, 5, 6, 7, 8] [] rfl rfl rfl rfl (by decide) (va_recv hK.1 hP (ci := 6) (q0 := 0) rfl rfl) rfl hl.1 rfl (Nat.le_of_ble_eq_true rfl) dX7_count_69 ⟨Nat.zero_le _, Nat.zero_le _⟩ (fun H locs hP hD hS => ?_)
    have hP : va_P D vwCl [eO mO 6 [.int (zI 0), .ref mQtext, .int (zI mmany), .int (zI mcur), .int (zI mst), .int (zI mtok), .int (zI mval), .ref mQnow, .ref mQfresh, .ref mQwas, .int (zI macts), .ref mQisKept, .ref mQkept, .ref mQheard, .ref mQnumber, .ref mQlowUp, .ref mQlowDown, .ref mQhighUp, .ref mQhighDown, .int (zI mlev_69), .ref mQseen, .int (zI memp), .ref mQfirst], eA mQnow (cy 0) 11 mNow, eA mQheard (cy 0) 11 mHeard_69, eA mQnumber (cy 0) 7 mNum_69, eA mQlowUp (cy 0) 7 mLU_69, eA mQlowDown (cy 0) 7 mLD_69, eA mQhighUp (cy 0) 7 mHU_69, eA mQhighDown (cy 0) 7 mHD_69, eA mQfirst (cy 0) 7 mFirst_69] H := hP.sub [0, 1, 2, 3, 4, 5, 6, 7, 8] rfl
    have hD : va_D A [eO mO 6 [.int (zI 0), .ref mQtext, .int (zI mmany), .int (zI mcur), .int (zI mst), .int (zI mtok), .int (zI mval), .ref mQnow, .ref mQfresh, .ref mQwas, .int (zI macts), .ref mQisKept, .ref mQkept, .ref mQheard, .ref mQnumber, .ref mQlowUp, .ref mQlowDown, .ref mQhighUp, .ref mQhighDown, .int (zI mlev_69), .ref mQseen, .int (zI memp), .ref mQfirst], eA mQnow (cy 0) 11 mNow, eA mQheard (cy 0) 11 mHeard_69, eA mQnumber (cy 0) 7 mNum_69, eA mQlowUp (cy 0) 7 mLU_69, eA mQlowDown (cy 0) 7 mLD_69, eA mQhighUp (cy 0) 7 mHU_69, eA mQhighDown (cy 0) 7 mHD_69, eA mQfirst (cy 0) 7 mFirst_69] := hD.sub [0, 1, 2, 3, 4, 5, 6, 7, 8] rfl rfl
    have hf := zq_some hf
    cases hf
    exact W.iret hx hb hr (fun t ht hW => ⟨⟨_, (), rfl, rfl, by rw [ht]; exact hP, hD⟩, hS.F ht⟩) hS.2.2 dX7_count_72
  rw [if_neg hc5] at hf
  by_cases hc6 : p1 = 6
  · rw [if_pos hc6] at hf
    refine zz_swIn (v := 6) (tgt := 73) hx hb dX7_count_6 hc6 (by decide) rfl (by decide) ?_
    refine lv_aload_n hx hb dX7_count_73 rfl (lv_at hl 0 rfl) ?_
    refine va_get (D := D) (ci := 6) (v := .int (zI mmany)) (C := RX7) (T := TX7) (N := 23) hx hb hts u_X7_count_X7 hown hK.1 hP 0 rfl rfl 2 (by decide) (hts _ m_X7_count_3) (fun _ h9 => h9) rfl dX7_count_74 ?_
    have hf := zq_some hf
    cases hf
    exact W.iret hx hb hr (fun t ht hW => ⟨⟨_, (), rfl, rfl, by rw [ht]; exact hP, hD⟩, hS.F ht⟩) hS.2.2 dX7_count_77
  rw [if_neg hc6] at hf
  by_cases hc7 : p1 = 7
  · rw [if_pos hc7] at hf
    refine zz_swIn (v := 7) (tgt := 78) hx hb dX7_count_6 hc7 (by decide) rfl (by decide) ?_
    refine lv_aload_n hx hb dX7_count_78 rfl (lv_at hl 0 rfl) ?_
    refine va_get (D := D) (ci := 6) (v := .int (zI macts)) (C := RX7) (T := TX7) (N := 23) hx hb hts u_X7_count_X7 hown hK.1 hP 0 rfl rfl 10 (by decide) (hts _ m_X7_count_4) (fun _ h9 => h9) rfl dX7_count_79 ?_
    have hf := zq_some hf
    cases hf
    exact W.iret hx hb hr (fun t ht hW => ⟨⟨_, (), rfl, rfl, by rw [ht]; exact hP, hD⟩, hS.F ht⟩) hS.2.2 dX7_count_82
  rw [if_neg hc7] at hf
  refine zz_swOut (tgt := 83) hx hb dX7_count_6 hg (by omega) (by decide) ?_
  refine lv_iconst (v := zI (-1)) hx hb dX7_count_83 rfl ?_
  have hf := zq_some hf
  cases hf
  exact W.iret hx hb hr (fun t ht hW => ⟨⟨_, (), rfl, rfl, by rw [ht]; exact hP, hD⟩, hS.F ht⟩) hS.2.2 dX7_count_84
