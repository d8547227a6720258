noncomputable def st_X0_commonDivisor : (Int × Int × Int) → Option ((Int × Int × Int) ⊕ (Int)) := fun (x2, x3, x4) =>
  gd (zR x4 ∧ zR 1000000) <|
  if x4 < 1000000 then
    gd (zR x3) <|
    if x3 = 0 then
      some (.inr x2)
    else
      gd (zR x2 ∧ zR x3 ∧ x3 ≠ 0) <|
      zlt (x2.tmod x3) fun v21 =>
      some (.inl (x3, v21, (x4 + 1)))
  else
    some (.inr x2)
noncomputable def f_X0_commonDivisor (p0 : Int) (p1 : Int) : Option (Int) :=
  zev (st_X0_commonDivisor) (p0, p1, 0)
theorem m_X0_commonDivisor_1 : (.constant RX0 21 (1000000) : Cond) ∈ wsX0_commonDivisor := List.mem_of_getElem? (i := 1) rfl
set_option maxRecDepth 100000 in
set_option maxHeartbeats 4000000 in
theorem c_X0_commonDivisor (l : Launch) (D : va_G) (cy : Nat → ClassId) (sz : Nat) (p0 : Int) (p1 : Int) {r : Int} (hf : f_X0_commonDivisor p0 p1 = some r) : zMi l yX0_commonDivisor wsX0_commonDivisor ({ frames := 0, cells := 0, slots := 0, locals := 0 }) D cy sz [.int (zI p0), .int (zI p1)] [] [] (zI r) := by
  refine Met.ofW (cc := cX0_commonDivisor) (maxL := 6) (ret := (some .int)) (by decide) rfl ?_
  intro p e s m args below meth c s₁ B hml hv
  obtain ⟨rfl, hsz, hP, hK, hD0⟩ := hv
  have hx := B.exec
  have hb := B.bytes
  have hr := B.returns
  have hts := atoms_spec (ws := wsX0_commonDivisor) B.pre
  have hown : s.vm.findClass RX0 = some m.cls := findClass_of_methodNamed B.named
  have hlocks := B.notSynchronized
  subst hsz
  have hD := hD0.self (sz := s.heap.size)
  generalize hAe : va_A [] s.heap.size = A at hD ⊢
  have hA : ∀ q : Nat, s.heap.size ≤ q → A q := fun q h => by rw [← hAe]; exact Or.inr h
  have hS : va_S A s.heap s.heap [] := va_S.rf
  have hl := lv_entry ([.int (zI p0), .int (zI p1)]) (n := 6) (Nat.le_of_ble_eq_true rfl)
  rw [lg_entry_eq]
  generalize (lg_sl ([.int (zI p0), .int (zI p1)]) ++ List.replicate (6 - (lg_sl ([.int (zI p0), .int (zI p1)])).length) Slot.unset).toArray = ls at hl ⊢
  have hl : lv_has ls 6 [(0, .int (zI p0)), (1, .int (zI p1))] := hl
  have hf := zq_of hf
  have key := zloop (st := st_X0_commonDivisor) (res := r) (K := fun (x2, x3, x4) => ∀ (H : Heap) (locs : List Loc) (ls : Array Slot), va_P D vwCl [] H → va_D A [] → va_S A s.heap H locs → lv_has ls 6 [(0, .int (zI p0)), (1, .int (zI p1)), (2, .int (zI x2)), (3, .int (zI x3)), (4, .int (zI x4))] → zGi p l e wsX0_commonDivisor ({ frames := 0, cells := 0, slots := 0, locals := 0 }) s m [.int (zI p0), .int (zI p1)] below meth c A D [] (zI r) H locs (F0 m 7 ls [])) (by
    rintro ⟨x2, x3, x4⟩ hf
    intro H locs ls hP hD hS hl
    unfold st_X0_commonDivisor at hf
    try dsimp only at hf
    refine lv_iload hx hb dX0_commonDivisor_7 (lv_at hl 4 rfl) ?_
    refine lv_ldc (v := zI 1000000) hx hb hown (hts _ m_X0_commonDivisor_1) dX0_commonDivisor_9 ?_
    refine zz_icmp_ge (tgt := 34) hx hb dX0_commonDivisor_11 (by decide) hf (fun hc hf => ?_) (fun hc hf => ?_)
    · refine lv_iload_n hx hb dX0_commonDivisor_14 rfl (lv_at hl 3 rfl) ?_
      refine zz_if_eq (tgt := 34) hx hb dX0_commonDivisor_15 (by decide) hf (fun hc hf => ?_) (fun hc hf => ?_)
      · refine lv_iload_n hx hb dX0_commonDivisor_34 rfl (lv_at hl 2 rfl) ?_
        have hf := zq_some hf
        cases hf
        exact W.iret hx hb hr (fun t ht hW => ⟨⟨_, (), rfl, rfl, by rw [ht]; exact hP, hD⟩, hS.F ht⟩) hS.2.2 dX0_commonDivisor_35
      · refine lv_iload_n hx hb dX0_commonDivisor_18 rfl (lv_at hl 2 rfl) ?_
        refine lv_iload_n hx hb dX0_commonDivisor_19 rfl (lv_at hl 3 rfl) ?_
        obtain ⟨hg, hf⟩ := zq_gd hf
        refine zz_irem hx hb hg dX0_commonDivisor_20 ?_
        obtain ⟨v21, e21, hf⟩ := zq_lt hf
        refine zz_top e21 ?_
        refine lv_istore (lv' := [(5, .int (zI v21)), (0, .int (zI p0)), (1, .int (zI p1)), (2, .int (zI x2)), (3, .int (zI x3)), (4, .int (zI x4))]) hx hb dX0_commonDivisor_21 hl (by decide) rfl (fun ls hl => ?_)
        refine lv_iload_n hx hb dX0_commonDivisor_23 rfl (lv_at hl 4 rfl) ?_
        refine lv_istore_n (lv' := [(2, .int (zI x3)), (5, .int (zI v21)), (0, .int (zI p0)), (1, .int (zI p1)), (3, .int (zI x3)), (4, .int (zI x4))]) hx hb dX0_commonDivisor_24 rfl hl (by decide) rfl (fun ls hl => ?_)
        refine lv_iload hx hb dX0_commonDivisor_25 (lv_at hl 1 rfl) ?_
        refine lv_istore_n (lv' := [(3, .int (zI v21)), (2, .int (zI x3)), (5, .int (zI v21)), (0, .int (zI p0)), (1, .int (zI p1)), (4, .int (zI x4))]) hx hb dX0_commonDivisor_27 rfl hl (by decide) rfl (fun ls hl => ?_)
        refine lv_iinc (v := zI (x4 + 1)) (lv' := [(4, .int (zI (x4 + 1))), (3, .int (zI v21)), (2, .int (zI x3)), (5, .int (zI v21)), (0, .int (zI p0)), (1, .int (zI p1))]) hx hb dX0_commonDivisor_28 hl (k := 5) rfl (zI_add _ _) (by decide) rfl (fun ls hl => ?_)
        refine lv_goto (tgt := 7) hx hb dX0_commonDivisor_31 (by decide) ?_
        have hf := zq_some hf
        exact hf _ _ _ hP hD hS (lv_sub hl [4, 5, 2, 1, 0] rfl)
    · refine lv_iload_n hx hb dX0_commonDivisor_34 rfl (lv_at hl 2 rfl) ?_
      have hf := zq_some hf
      cases hf
      exact W.iret hx hb hr (fun t ht hW => ⟨⟨_, (), rfl, rfl, by rw [ht]; exact hP, hD⟩, hS.F ht⟩) hS.2.2 dX0_commonDivisor_35
    )
  unfold f_X0_commonDivisor at hf
  refine lv_iload_n hx hb dX0_commonDivisor_0 rfl (lv_at hl 0 rfl) ?_
  refine lv_istore_n (lv' := [(2, .int (zI p0)), (0, .int (zI p0)), (1, .int (zI p1))]) hx hb dX0_commonDivisor_1 rfl hl (by decide) rfl (fun ls hl => ?_)
  refine lv_iload_n hx hb dX0_commonDivisor_2 rfl (lv_at hl 2 rfl) ?_
  refine lv_istore_n (lv' := [(3, .int (zI p1)), (2, .int (zI p0)), (0, .int (zI p0)), (1, .int (zI p1))]) hx hb dX0_commonDivisor_3 rfl hl (by decide) rfl (fun ls hl => ?_)
  refine lv_iconst (v := zI 0) hx hb dX0_commonDivisor_4 rfl ?_
  refine lv_istore (lv' := [(4, .int (zI 0)), (3, .int (zI p1)), (2, .int (zI p0)), (0, .int (zI p0)), (1, .int (zI p1))]) hx hb dX0_commonDivisor_5 hl (by decide) rfl (fun ls hl => ?_)
  exact key _ (zq_eq hf) _ _ _ hP hD hS (lv_sub hl [3, 4, 2, 1, 0] rfl)

noncomputable def f_X0_part (p0 : Int) (p1 : Int) (p2 : Int) : Option (Int) :=
  gd (zR p0) <|
  (f_X0_commonDivisor (zAbs p0) p1).bind fun r5 =>
  gd (zR r5) <|
  if r5 ≤ 0 then
    some 0
  else
    gd (zR p2) <|
    if p2 = 0 then
      gd (zR p0 ∧ zR r5 ∧ r5 ≠ 0) <|
      some (p0.tdiv r5)
    else
      gd (zR p1 ∧ zR r5 ∧ r5 ≠ 0) <|
      some (p1.tdiv r5)
theorem m_X0_part_1 : (.methodLink RX0 9 Lib.Math.abs.name : Cond) ∈ wsX0_part := List.mem_of_getElem? (i := 1) rfl
theorem m_X0_part_2 : (.static Lib.Math.abs.name : Cond) ∈ wsX0_part := List.mem_of_getElem? (i := 2) rfl
theorem m_X0_part_3 : (.initialized "java/lang/Math" : Cond) ∈ wsX0_part := List.mem_of_getElem? (i := 3) rfl
theorem m_X0_part_4 : (.code Lib.Math.abs.name Lib.Math.abs.code 1 (some .int) : Cond) ∈ wsX0_part := List.mem_of_getElem? (i := 4) rfl
set_option maxRecDepth 100000 in
set_option maxHeartbeats 4000000 in
theorem c_X0_part (l : Launch) (D : va_G) (cy : Nat → ClassId) (sz : Nat) (p0 : Int) (p1 : Int) (p2 : Int) {r : Int} (hf : f_X0_part p0 p1 p2 = some r) : zMi l yX0_part wsX0_part ({ frames := 1, cells := 0, slots := 0, locals := 25 }) D cy sz [.int (zI p0), .int (zI p1), .int (zI p2)] [] [] (zI r) := by
  refine Met.ofW (cc := cX0_part) (maxL := 4) (ret := (some .int)) (by decide) rfl ?_
  intro p e s m args below meth c s₁ B hml hv
  obtain ⟨rfl, hsz, hP, hK, hD0⟩ := hv
  have hx := B.exec
  have hb := B.bytes
  have hr := B.returns
  have hts := atoms_spec (ws := wsX0_part) B.pre
  have hown : s.vm.findClass RX0 = some m.cls := findClass_of_methodNamed B.named
  have hlocks := B.notSynchronized
  subst hsz
  have hD := hD0.self (sz := s.heap.size)
  generalize hAe : va_A [] s.heap.size = A at hD ⊢
  have hA : ∀ q : Nat, s.heap.size ≤ q → A q := fun q h => by rw [← hAe]; exact Or.inr h
  have hS : va_S A s.heap s.heap [] := va_S.rf
  have hl := lv_entry ([.int (zI p0), .int (zI p1), .int (zI p2)]) (n := 4) (Nat.le_of_ble_eq_true rfl)
  rw [lg_entry_eq]
  generalize (lg_sl ([.int (zI p0), .int (zI p1), .int (zI p2)]) ++ List.replicate (4 - (lg_sl ([.int (zI p0), .int (zI p1), .int (zI p2)])).length) Slot.unset).toArray = ls at hl ⊢
  have hl : lv_has ls 4 [(0, .int (zI p0)), (1, .int (zI p1)), (2, .int (zI p2))] := hl
  have hf := zq_of hf
  unfold f_X0_part at hf
  refine lv_iload_n hx hb dX0_part_0 rfl (lv_at hl 0 rfl) ?_
  obtain ⟨hg, hf⟩ := zq_gd hf
  refine zz_abs hx hb (hml.trans hl.1.symm) hown (hts _ m_X0_part_1) (hts _ m_X0_part_2) (hts _ m_X0_part_3) (hts _ m_X0_part_4) (Nat.le_of_ble_eq_true rfl) (Nat.le_of_ble_eq_true rfl) (Nat.le_of_ble_eq_true rfl) (Nat.le_of_ble_eq_true rfl) hg dX0_part_1 ?_
  refine lv_iload_n hx hb dX0_part_4 rfl (lv_at hl 1 rfl) ?_
  obtain ⟨r5, hc5, hf⟩ := zq_bind hf
  refine zcallSi (wr := []) (rest := []) ⟨hx, hb, hml, hown, hts⟩ (c_X0_commonDivisor l D cy s.heap.size (zAbs p0) p1 hc5) (va_cwS 2 hts gX0_part_X0_commonDivisor rfl rfl rfl (by decide +kernel) ⟨Nat.le_of_ble_eq_true rfl, Nat.le_of_ble_eq_true rfl⟩) hK hP hD hS hA [] [] rfl rfl rfl rfl (by decide) rfl hl.1 rfl (Nat.le_of_ble_eq_true rfl) dX0_part_5 ⟨Nat.zero_le _, Nat.zero_le _⟩ (fun H locs hP hD hS => ?_)
  have hP : va_P D vwCl [] H := hP.sub [] rfl
  have hD : va_D A [] := hD.sub [] rfl rfl
  refine lv_istore_n (lv' := [(3, .int (zI r5)), (0, .int (zI p0)), (1, .int (zI p1)), (2, .int (zI p2))]) hx hb dX0_part_8 rfl hl (by decide) rfl (fun ls hl => ?_)
  refine lv_iload_n hx hb dX0_part_9 rfl (lv_at hl 0 rfl) ?_
  refine zz_if_gt (tgt := 15) hx hb dX0_part_10 (by decide) hf (fun hc hf => ?_) (fun hc hf => ?_)
  · refine lv_iconst (v := zI 0) hx hb dX0_part_13 rfl ?_
    have hf := zq_some hf
    cases hf
    exact W.iret hx hb hr (fun t ht hW => ⟨⟨_, (), rfl, rfl, by rw [ht]; exact hP, hD⟩, hS.F ht⟩) hS.2.2 dX0_part_14
  · refine lv_iload_n hx hb dX0_part_15 rfl (lv_at hl 3 rfl) ?_
    refine zz_if_ne (tgt := 25) hx hb dX0_part_16 (by decide) hf (fun hc hf => ?_) (fun hc hf => ?_)
    · refine lv_iload_n hx hb dX0_part_19 rfl (lv_at hl 1 rfl) ?_
      refine lv_iload_n hx hb dX0_part_20 rfl (lv_at hl 0 rfl) ?_
      obtain ⟨hg, hf⟩ := zq_gd hf
      refine zz_idiv hx hb hg dX0_part_21 ?_
      refine lv_goto (tgt := 28) hx hb dX0_part_22 (by decide) ?_
      have hf := zq_some hf
      cases hf
      exact W.iret hx hb hr (fun t ht hW => ⟨⟨_, (), rfl, rfl, by rw [ht]; exact hP, hD⟩, hS.F ht⟩) hS.2.2 dX0_part_28
    · refine lv_iload_n hx hb dX0_part_25 rfl (lv_at hl 2 rfl) ?_
      refine lv_iload_n hx hb dX0_part_26 rfl (lv_at hl 0 rfl) ?_
      obtain ⟨hg, hf⟩ := zq_gd hf
      refine zz_idiv hx hb hg dX0_part_27 ?_
      have hf := zq_some hf
      cases hf
      exact W.iret hx hb hr (fun t ht hW => ⟨⟨_, (), rfl, rfl, by rw [ht]; exact hP, hD⟩, hS.F ht⟩) hS.2.2 dX0_part_28

noncomputable def f_X1_reset : Option (Int × Int × Int × Int) :=
  some (0, 100, 200, 2)
theorem m_X1_reset_1 : (.fieldLink RX1 18 "PulseTurns$Hearing" "size" "I" : Cond) ∈ wsX1_reset := List.mem_of_getElem? (i := 1) rfl
theorem m_X1_reset_2 : (.fieldLink RX1 22 "PulseTurns$Hearing" "low" "I" : Cond) ∈ wsX1_reset := List.mem_of_getElem? (i := 2) rfl
theorem m_X1_reset_3 : (.fieldLink RX1 25 "PulseTurns$Hearing" "high" "I" : Cond) ∈ wsX1_reset := List.mem_of_getElem? (i := 3) rfl
theorem m_X1_reset_4 : (.fieldLink RX1 28 "PulseTurns$Hearing" "slack" "I" : Cond) ∈ wsX1_reset := List.mem_of_getElem? (i := 4) rfl
theorem u_X1_reset_X1 : ∀ w ∈ wsX10, w ∈ wsX1_reset := fun w h => List.mem_cons_of_mem _ (List.mem_append_right _ h)
set_option maxRecDepth 100000 in
set_option maxHeartbeats 4000000 in
theorem c_X1_reset (l : Launch) (D : va_G) (cy : Nat → ClassId) (aO aQ : Nat) (sz : Nat) (az : Int) (alo : Int) (ahi : Int) (asl : Int) {az' : Int} {alo' : Int} {ahi' : Int} {asl' : Int} (hf : f_X1_reset = some (az', alo', ahi', asl')) : zMv l yX1_reset wsX1_reset ({ frames := 0, cells := 0, slots := 0, locals := 0 }) D cy sz [.ref aO] [eO aO 0 [.ref aQ, .int (zI az), .int (zI alo), .int (zI ahi), .int (zI asl)]] [eO aO 0 [.ref aQ, .int (zI az'), .int (zI alo'), .int (zI ahi'), .int (zI asl')]] := by
  refine Met.ofW (cc := cX1_reset) (maxL := 1) (ret := none) (by decide) rfl ?_
  intro p e s m args below meth c s₁ B hml hv
  obtain ⟨rfl, hsz, hP, hK, hD0⟩ := hv
  have hx := B.exec
  have hb := B.bytes
  have hr := B.returns
  have hts := atoms_spec (ws := wsX1_reset) B.pre
  have hown : s.vm.findClass RX1 = some m.cls := findClass_of_methodNamed B.named
  have hlocks := B.notSynchronized
  subst hsz
  have hD := hD0.self (sz := s.heap.size)
  generalize hAe : va_A [eO aO 0 [.ref aQ, .int (zI az), .int (zI alo), .int (zI ahi), .int (zI asl)]] s.heap.size = A at hD ⊢
  have hA : ∀ q : Nat, s.heap.size ≤ q → A q := fun q h => by rw [← hAe]; exact Or.inr h
  have hS : va_S A s.heap s.heap [] := va_S.rf
  have hl := lv_entry ([.ref aO]) (n := 1) (Nat.le_of_ble_eq_true rfl)
  rw [lg_entry_eq]
  generalize (lg_sl ([.ref aO]) ++ List.replicate (1 - (lg_sl ([.ref aO])).length) Slot.unset).toArray = ls at hl ⊢
  have hl : lv_has ls 1 [(0, .ref aO)] := hl
  have hf := zq_of hf
  unfold f_X1_reset at hf
  refine lv_aload_n hx hb dX1_reset_0 rfl (lv_at hl 0 rfl) ?_
  refine lv_iconst (v := zI 0) hx hb dX1_reset_1 rfl ?_
  refine va_put (D := D) (ci := 0) (v := .int (zI 0)) (ty := .int) (C := RX1) (T := TX1) (N := 5) hx hb hts u_X1_reset_X1 tyX1 tyX1_ok nmX1 hown hK.1 hP hD hS 0 rfl rfl 1 (by decide) (hts _ m_X1_reset_1) (fun _ h9 => h9) rfl (tyX1_ok 1 (by decide)) rfl rfl (Nat.le_of_ble_eq_true rfl) dX1_reset_2 (fun H locs hP hD hS => ?_)
  have hP : va_P D vwCl [eO aO 0 [.ref aQ, .int (zI 0), .int (zI alo), .int (zI ahi), .int (zI asl)]] H := hP
  have hD : va_D A [eO aO 0 [.ref aQ, .int (zI 0), .int (zI alo), .int (zI ahi), .int (zI asl)]] := hD
  refine lv_aload_n hx hb dX1_reset_5 rfl (lv_at hl 0 rfl) ?_
  refine lv_bipush (v := zI 100) hx hb dX1_reset_6 (by decide) ?_
  refine va_put (D := D) (ci := 0) (v := .int (zI 100)) (ty := .int) (C := RX1) (T := TX1) (N := 5) hx hb hts u_X1_reset_X1 tyX1 tyX1_ok nmX1 hown hK.1 hP hD hS 0 rfl rfl 2 (by decide) (hts _ m_X1_reset_2) (fun _ h9 => h9) rfl (tyX1_ok 2 (by decide)) rfl rfl (Nat.le_of_ble_eq_true rfl) dX1_reset_8 (fun H locs hP hD hS => ?_)
  have hP : va_P D vwCl [eO aO 0 [.ref aQ, .int (zI 0), .int (zI 100), .int (zI ahi), .int (zI asl)]] H := hP
  have hD : va_D A [eO aO 0 [.ref aQ, .int (zI 0), .int (zI 100), .int (zI ahi), .int (zI asl)]] := hD
  refine lv_aload_n hx hb dX1_reset_11 rfl (lv_at hl 0 rfl) ?_
  refine lv_sipush (v := zI 200) hx hb dX1_reset_12 (by decide) ?_
  refine va_put (D := D) (ci := 0) (v := .int (zI 200)) (ty := .int) (C := RX1) (T := TX1) (N := 5) hx hb hts u_X1_reset_X1 tyX1 tyX1_ok nmX1 hown hK.1 hP hD hS 0 rfl rfl 3 (by decide) (hts _ m_X1_reset_3) (fun _ h9 => h9) rfl (tyX1_ok 3 (by decide)) rfl rfl (Nat.le_of_ble_eq_true rfl) dX1_reset_15 (fun H locs hP hD hS => ?_)
  have hP : va_P D vwCl [eO aO 0 [.ref aQ, .int (zI 0), .int (zI 100), .int (zI 200), .int (zI asl)]] H := hP
  have hD : va_D A [eO aO 0 [.ref aQ, .int (zI 0), .int (zI 100), .int (zI 200), .int (zI asl)]] := hD
  refine lv_aload_n hx hb dX1_reset_18 rfl (lv_at hl 0 rfl) ?_
  refine lv_iconst (v := zI 2) hx hb dX1_reset_19 rfl ?_
  refine va_put (D := D) (ci := 0) (v := .int (zI 2)) (ty := .int) (C := RX1) (T := TX1) (N := 5) hx hb hts u_X1_reset_X1 tyX1 tyX1_ok nmX1 hown hK.1 hP hD hS 0 rfl rfl 4 (by decide) (hts _ m_X1_reset_4) (fun _ h9 => h9) rfl (tyX1_ok 4 (by decide)) rfl rfl (Nat.le_of_ble_eq_true rfl) dX1_reset_20 (fun H locs hP hD hS => ?_)
  have hP : va_P D vwCl [eO aO 0 [.ref aQ, .int (zI 0), .int (zI 100), .int (zI 200), .int (zI 2)]] H := hP
  have hD : va_D A [eO aO 0 [.ref aQ, .int (zI 0), .int (zI 100), .int (zI 200), .int (zI 2)]] := hD
  have hf := zq_some hf
  cases hf
  exact W.vret hx hb hr (fun t ht hW => ⟨⟨(), rfl, trivial, by rw [ht]; exact hP, hD⟩, hS.F ht⟩) hS.2.2 dX1_reset_23

noncomputable def st_X1_take (bz : Int) (blo : Int) (bhi : Int) (bsl : Int) (bT : Nat → Int) : (Int × Int × Int × Int × Int × (Nat → Int)) → Option ((Int × Int × Int × Int × Int × (Nat → Int)) ⊕ (Int × Int × Int × Int × (Nat → Int))) := fun (x2, az, alo, ahi, asl, aT) =>
  gd (zR x2 ∧ zR 7) <|
  if x2 < 7 then
    gd (zin x2 7) <|
    gd (zin x2 7) <|
    some (.inl ((x2 + 1), az, alo, ahi, asl, (zup aT x2 (bT x2.toNat))))
  else
    some (.inr (bz, blo, bhi, bsl, aT))
noncomputable def f_X1_take (az : Int) (alo : Int) (ahi : Int) (asl : Int) (aT : Nat → Int) (bz : Int) (blo : Int) (bhi : Int) (bsl : Int) (bT : Nat → Int) : Option (Int × Int × Int × Int × (Nat → Int)) :=
  zev (st_X1_take bz blo bhi bsl bT) (0, az, alo, ahi, asl, aT)
theorem m_X1_take_1 : (.fieldLink RX1 9 "PulseTurns$Hearing" "times" "[I" : Cond) ∈ wsX1_take := List.mem_of_getElem? (i := 1) rfl
theorem m_X1_take_2 : (.fieldLink RX1 18 "PulseTurns$Hearing" "size" "I" : Cond) ∈ wsX1_take := List.mem_of_getElem? (i := 2) rfl
theorem m_X1_take_3 : (.fieldLink RX1 22 "PulseTurns$Hearing" "low" "I" : Cond) ∈ wsX1_take := List.mem_of_getElem? (i := 3) rfl
theorem m_X1_take_4 : (.fieldLink RX1 25 "PulseTurns$Hearing" "high" "I" : Cond) ∈ wsX1_take := List.mem_of_getElem? (i := 4) rfl
theorem m_X1_take_5 : (.fieldLink RX1 28 "PulseTurns$Hearing" "slack" "I" : Cond) ∈ wsX1_take := List.mem_of_getElem? (i := 5) rfl
theorem u_X1_take_X1 : ∀ w ∈ wsX10, w ∈ wsX1_take := fun w h => List.mem_cons_of_mem _ (List.mem_append_right _ h)
set_option maxRecDepth 100000 in
set_option maxHeartbeats 4000000 in
theorem c_X1_take (l : Launch) (D : va_G) (cy : Nat → ClassId) (aO aQ bO bQ : Nat) (sz : Nat) (az : Int) (alo : Int) (ahi : Int) (asl : Int) (aT : Nat → Int) (bz : Int) (blo : Int) (bhi : Int) (bsl : Int) (bT : Nat → Int) {az' : Int} {alo' : Int} {ahi' : Int} {asl' : Int} {aT' : Nat → Int} (hf : f_X1_take az alo ahi asl aT bz blo bhi bsl bT = some (az', alo', ahi', asl', aT')) : zMv l yX1_take wsX1_take ({ frames := 0, cells := 0, slots := 0, locals := 0 }) D cy sz [.ref aO, .ref bO] [eO aO 0 [.ref aQ, .int (zI az), .int (zI alo), .int (zI ahi), .int (zI asl)], eA aQ (cy 0) 7 aT, eO bO 0 [.ref bQ, .int (zI bz), .int (zI blo), .int (zI bhi), .int (zI bsl)], eA bQ (cy 0) 7 bT] [eO aO 0 [.ref aQ, .int (zI az'), .int (zI alo'), .int (zI ahi'), .int (zI asl')], eA aQ (cy 0) 7 aT', eO bO 0 [.ref bQ, .int (zI bz), .int (zI blo), .int (zI bhi), .int (zI bsl)], eA bQ (cy 0) 7 bT] := by
  refine Met.ofW (cc := cX1_take) (maxL := 3) (ret := none) (by decide) rfl ?_
  intro p e s m args below meth c s₁ B hml hv
  obtain ⟨rfl, hsz, hP, hK, hD0⟩ := hv
  have hx := B.exec
  have hb := B.bytes
  have hr := B.returns
  have hts := atoms_spec (ws := wsX1_take) B.pre
  have hown : s.vm.findClass RX1 = some m.cls := findClass_of_methodNamed B.named
  have hlocks := B.notSynchronized
  subst hsz
  have hD := hD0.self (sz := s.heap.size)
  generalize hAe : va_A [eO aO 0 [.ref aQ, .int (zI az), .int (zI alo), .int (zI ahi), .int (zI asl)], eA aQ (cy 0) 7 aT, eO bO 0 [.ref bQ, .int (zI bz), .int (zI blo), .int (zI bhi), .int (zI bsl)], eA bQ (cy 0) 7 bT] s.heap.size = A at hD ⊢
  have hA : ∀ q : Nat, s.heap.size ≤ q → A q := fun q h => by rw [← hAe]; exact Or.inr h
  have hS : va_S A s.heap s.heap [] := va_S.rf
  have hl := lv_entry ([.ref aO, .ref bO]) (n := 3) (Nat.le_of_ble_eq_true rfl)
  rw [lg_entry_eq]
  generalize (lg_sl ([.ref aO, .ref bO]) ++ List.replicate (3 - (lg_sl ([.ref aO, .ref bO])).length) Slot.unset).toArray = ls at hl ⊢
  have hl : lv_has ls 3 [(0, .ref aO), (1, .ref bO)] := hl
  have hf := zq_of hf
  have key := zloop (st := st_X1_take bz blo bhi bsl bT) (res := (az', alo', ahi', asl', aT')) (K := fun (x2, az, alo, ahi, asl, aT) => ∀ (H : Heap) (locs : List Loc) (ls : Array Slot), va_P D vwCl [eO aO 0 [.ref aQ, .int (zI az), .int (zI alo), .int (zI ahi), .int (zI asl)], eA aQ (cy 0) 7 aT, eO bO 0 [.ref bQ, .int (zI bz), .int (zI blo), .int (zI bhi), .int (zI bsl)], eA bQ (cy 0) 7 bT] H → va_D A [eO aO 0 [.ref aQ, .int (zI az), .int (zI alo), .int (zI ahi), .int (zI asl)], eA aQ (cy 0) 7 aT, eO bO 0 [.ref bQ, .int (zI bz), .int (zI blo), .int (zI bhi), .int (zI bsl)], eA bQ (cy 0) 7 bT] → va_S A s.heap H locs → lv_has ls 3 [(0, .ref aO), (1, .ref bO), (2, .int (zI x2))] → zGv p l e wsX1_take ({ frames := 0, cells := 0, slots := 0, locals := 0 }) s m [.ref aO, .ref bO] below meth c A D [eO aO 0 [.ref aQ, .int (zI az'), .int (zI alo'), .int (zI ahi'), .int (zI asl')], eA aQ (cy 0) 7 aT', eO bO 0 [.ref bQ, .int (zI bz), .int (zI blo), .int (zI bhi), .int (zI bsl)], eA bQ (cy 0) 7 bT] H locs (F0 m 2 ls [])) (by
    rintro ⟨x2, az, alo, ahi, asl, aT⟩ hf
    intro H locs ls hP hD hS hl
    unfold st_X1_take at hf
    try dsimp only at hf
    refine lv_iload_n hx hb dX1_take_2 rfl (lv_at hl 2 rfl) ?_
    refine lv_bipush (v := zI 7) hx hb dX1_take_3 (by decide) ?_
    refine zz_icmp_ge (tgt := 26) hx hb dX1_take_5 (by decide) hf (fun hc hf => ?_) (fun hc hf => ?_)
    · refine lv_aload_n hx hb dX1_take_8 rfl (lv_at hl 0 rfl) ?_
      refine va_get (D := D) (ci := 0) (v := .ref aQ) (C := RX1) (T := TX1) (N := 5) hx hb hts u_X1_take_X1 hown hK.1 hP 0 rfl rfl 0 (by decide) (hts _ m_X1_take_1) (fun _ h9 => h9) rfl dX1_take_9 ?_
      refine lv_iload_n hx hb dX1_take_12 rfl (lv_at hl 2 rfl) ?_
      refine lv_aload_n hx hb dX1_take_13 rfl (lv_at hl 1 rfl) ?_
      refine va_get (D := D) (ci := 0) (v := .ref bQ) (C := RX1) (T := TX1) (N := 5) hx hb hts u_X1_take_X1 hown hK.1 hP 2 rfl rfl 0 (by decide) (hts _ m_X1_take_1) (fun _ h9 => h9) rfl dX1_take_14 ?_
      refine lv_iload_n hx hb dX1_take_17 rfl (lv_at hl 2 rfl) ?_
      obtain ⟨hg, hf⟩ := zq_gd hf
      refine zz_iald (i := x2) hx hb hK hP 3 rfl (Nat.le_of_ble_eq_true rfl) hg dX1_take_18 ?_
      obtain ⟨hg, hf⟩ := zq_gd hf
      refine zz_iast (i := x2) hx hb hK hP hD hS 1 rfl (Nat.le_of_ble_eq_true rfl) hg dX1_take_19 (fun H locs hP hD hS => ?_)
      have hP : va_P D vwCl [eO aO 0 [.ref aQ, .int (zI az), .int (zI alo), .int (zI ahi), .int (zI asl)], eA aQ (cy 0) 7 (zup aT x2 (bT x2.toNat)), eO bO 0 [.ref bQ, .int (zI bz), .int (zI blo), .int (zI bhi), .int (zI bsl)], eA bQ (cy 0) 7 bT] H := hP
      have hD : va_D A [eO aO 0 [.ref aQ, .int (zI az), .int (zI alo), .int (zI ahi), .int (zI asl)], eA aQ (cy 0) 7 (zup aT x2 (bT x2.toNat)), eO bO 0 [.ref bQ, .int (zI bz), .int (zI blo), .int (zI bhi), .int (zI bsl)], eA bQ (cy 0) 7 bT] := hD
      refine lv_iinc (v := zI (x2 + 1)) (lv' := [(2, .int (zI (x2 + 1))), (0, .ref aO), (1, .ref bO)]) hx hb dX1_take_20 hl (k := 2) rfl (zI_add _ _) (by decide) rfl (fun ls hl => ?_)
      refine lv_goto (tgt := 2) hx hb dX1_take_23 (by decide) ?_
      have hf := zq_some hf
      exact hf _ _ _ hP hD hS (lv_sub hl [1, 2, 0] rfl)
    · refine lv_aload_n hx hb dX1_take_26 rfl (lv_at hl 0 rfl) ?_
      refine lv_aload_n hx hb dX1_take_27 rfl (lv_at hl 1 rfl) ?_
      refine va_get (D := D) (ci := 0) (v := .int (zI bz)) (C := RX1) (T := TX1) (N := 5) hx hb hts u_X1_take_X1 hown hK.1 hP 2 rfl rfl 1 (by decide) (hts _ m_X1_take_2) (fun _ h9 => h9) rfl dX1_take_28 ?_
      refine va_put (D := D) (ci := 0) (v := .int (zI bz)) (ty := .int) (C := RX1) (T := TX1) (N := 5) hx hb hts u_X1_take_X1 tyX1 tyX1_ok nmX1 hown hK.1 hP hD hS 0 rfl rfl 1 (by decide) (hts _ m_X1_take_2) (fun _ h9 => h9) rfl (tyX1_ok 1 (by decide)) rfl rfl (Nat.le_of_ble_eq_true rfl) dX1_take_31 (fun H locs hP hD hS => ?_)
      have hP : va_P D vwCl [eO aO 0 [.ref aQ, .int (zI bz), .int (zI alo), .int (zI ahi), .int (zI asl)], eA aQ (cy 0) 7 aT, eO bO 0 [.ref bQ, .int (zI bz), .int (zI blo), .int (zI bhi), .int (zI bsl)], eA bQ (cy 0) 7 bT] H := hP
      have hD : va_D A [eO aO 0 [.ref aQ, .int (zI bz), .int (zI alo), .int (zI ahi), .int (zI asl)], eA aQ (cy 0) 7 aT, eO bO 0 [.ref bQ, .int (zI bz), .int (zI blo), .int (zI bhi), .int (zI bsl)], eA bQ (cy 0) 7 bT] := hD
      refine lv_aload_n hx hb dX1_take_34 rfl (lv_at hl 0 rfl) ?_
      refine lv_aload_n hx hb dX1_take_35 rfl (lv_at hl 1 rfl) ?_
      refine va_get (D := D) (ci := 0) (v := .int (zI blo)) (C := RX1) (T := TX1) (N := 5) hx hb hts u_X1_take_X1 hown hK.1 hP 2 rfl rfl 2 (by decide) (hts _ m_X1_take_3) (fun _ h9 => h9) rfl dX1_take_36 ?_
      refine va_put (D := D) (ci := 0) (v := .int (zI blo)) (ty := .int) (C := RX1) (T := TX1) (N := 5) hx hb hts u_X1_take_X1 tyX1 tyX1_ok nmX1 hown hK.1 hP hD hS 0 rfl rfl 2 (by decide) (hts _ m_X1_take_3) (fun _ h9 => h9) rfl (tyX1_ok 2 (by decide)) rfl rfl (Nat.le_of_ble_eq_true rfl) dX1_take_39 (fun H locs hP hD hS => ?_)
      have hP : va_P D vwCl [eO aO 0 [.ref aQ, .int (zI bz), .int (zI blo), .int (zI ahi), .int (zI asl)], eA aQ (cy 0) 7 aT, eO bO 0 [.ref bQ, .int (zI bz), .int (zI blo), .int (zI bhi), .int (zI bsl)], eA bQ (cy 0) 7 bT] H := hP
      have hD : va_D A [eO aO 0 [.ref aQ, .int (zI bz), .int (zI blo), .int (zI ahi), .int (zI asl)], eA aQ (cy 0) 7 aT, eO bO 0 [.ref bQ, .int (zI bz), .int (zI blo), .int (zI bhi), .int (zI bsl)], eA bQ (cy 0) 7 bT] := hD
      refine lv_aload_n hx hb dX1_take_42 rfl (lv_at hl 0 rfl) ?_
      refine lv_aload_n hx hb dX1_take_43 rfl (lv_at hl 1 rfl) ?_
      refine va_get (D := D) (ci := 0) (v := .int (zI bhi)) (C := RX1) (T := TX1) (N := 5) hx hb hts u_X1_take_X1 hown hK.1 hP 2 rfl rfl 3 (by decide) (hts _ m_X1_take_4) (fun _ h9 => h9) rfl dX1_take_44 ?_
      refine va_put (D := D) (ci := 0) (v := .int (zI bhi)) (ty := .int) (C := RX1) (T := TX1) (N := 5) hx hb hts u_X1_take_X1 tyX1 tyX1_ok nmX1 hown hK.1 hP hD hS 0 rfl rfl 3 (by decide) (hts _ m_X1_take_4) (fun _ h9 => h9) rfl (tyX1_ok 3 (by decide)) rfl rfl (Nat.le_of_ble_eq_true rfl) dX1_take_47 (fun H locs hP hD hS => ?_)
      have hP : va_P D vwCl [eO aO 0 [.ref aQ, .int (zI bz), .int (zI blo), .int (zI bhi), .int (zI asl)], eA aQ (cy 0) 7 aT, eO bO 0 [.ref bQ, .int (zI bz), .int (zI blo), .int (zI bhi), .int (zI bsl)], eA bQ (cy 0) 7 bT] H := hP
      have hD : va_D A [eO aO 0 [.ref aQ, .int (zI bz), .int (zI blo), .int (zI bhi), .int (zI asl)], eA aQ (cy 0) 7 aT, eO bO 0 [.ref bQ, .int (zI bz), .int (zI blo), .int (zI bhi), .int (zI bsl)], eA bQ (cy 0) 7 bT] := hD
      refine lv_aload_n hx hb dX1_take_50 rfl (lv_at hl 0 rfl) ?_
      refine lv_aload_n hx hb dX1_take_51 rfl (lv_at hl 1 rfl) ?_
      refine va_get (D := D) (ci := 0) (v := .int (zI bsl)) (C := RX1) (T := TX1) (N := 5) hx hb hts u_X1_take_X1 hown hK.1 hP 2 rfl rfl 4 (by decide) (hts _ m_X1_take_5) (fun _ h9 => h9) rfl dX1_take_52 ?_
      refine va_put (D := D) (ci := 0) (v := .int (zI bsl)) (ty := .int) (C := RX1) (T := TX1) (N := 5) hx hb hts u_X1_take_X1 tyX1 tyX1_ok nmX1 hown hK.1 hP hD hS 0 rfl rfl 4 (by decide) (hts _ m_X1_take_5) (fun _ h9 => h9) rfl (tyX1_ok 4 (by decide)) rfl rfl (Nat.le_of_ble_eq_true rfl) dX1_take_55 (fun H locs hP hD hS => ?_)
      have hP : va_P D vwCl [eO aO 0 [.ref aQ, .int (zI bz), .int (zI blo), .int (zI bhi), .int (zI bsl)], eA aQ (cy 0) 7 aT, eO bO 0 [.ref bQ, .int (zI bz), .int (zI blo), .int (zI bhi), .int (zI bsl)], eA bQ (cy 0) 7 bT] H := hP
      have hD : va_D A [eO aO 0 [.ref aQ, .int (zI bz), .int (zI blo), .int (zI bhi), .int (zI bsl)], eA aQ (cy 0) 7 aT, eO bO 0 [.ref bQ, .int (zI bz), .int (zI blo), .int (zI bhi), .int (zI bsl)], eA bQ (cy 0) 7 bT] := hD
      have hf := zq_some hf
      cases hf
      exact W.vret hx hb hr (fun t ht hW => ⟨⟨(), rfl, trivial, by rw [ht]; exact hP, hD⟩, hS.F ht⟩) hS.2.2 dX1_take_58
    )
  unfold f_X1_take at hf
  refine lv_iconst (v := zI 0) hx hb dX1_take_0 rfl ?_
  refine lv_istore_n (lv' := [(2, .int (zI 0)), (0, .ref aO), (1, .ref bO)]) hx hb dX1_take_1 rfl hl (by decide) rfl (fun ls hl => ?_)
  exact key _ (zq_eq hf) _ _ _ hP hD hS (lv_sub hl [1, 2, 0] rfl)

noncomputable def f_X1_hasArrival (p1 : Int) (az : Int) : Option (Int) :=
  gd (zR p1) <|
  if p1 < 0 then
    some 0
  else
    gd (zR p1 ∧ zR az) <|
    if p1 < az then
      gd (zR p1 ∧ zR 7) <|
      if p1 < 7 then
        some 1
      else
        some 0
    else
      some 0
theorem m_X1_hasArrival_1 : (.fieldLink RX1 18 "PulseTurns$Hearing" "size" "I" : Cond) ∈ wsX1_hasArrival := List.mem_of_getElem? (i := 1) rfl
theorem u_X1_hasArrival_X1 : ∀ w ∈ wsX10, w ∈ wsX1_hasArrival := fun w h => List.mem_cons_of_mem _ (List.mem_append_right _ h)
set_option maxRecDepth 100000 in
set_option maxHeartbeats 4000000 in
theorem c_X1_hasArrival (l : Launch) (D : va_G) (cy : Nat → ClassId) (aO aQ : Nat) (sz : Nat) (p1 : Int) (az : Int) (alo : Int) (ahi : Int) (asl : Int) {r : Int} (hf : f_X1_hasArrival p1 az = some r) : zMi l yX1_hasArrival wsX1_hasArrival ({ frames := 0, cells := 0, slots := 0, locals := 0 }) D cy sz [.ref aO, .int (zI p1)] [eO aO 0 [.ref aQ, .int (zI az), .int (zI alo), .int (zI ahi), .int (zI asl)]] [eO aO 0 [.ref aQ, .int (zI az), .int (zI alo), .int (zI ahi), .int (zI asl)]] (zI r) := by
  refine Met.ofW (cc := cX1_hasArrival) (maxL := 2) (ret := (some .boolean)) (by decide) rfl ?_
  intro p e s m args below meth c s₁ B hml hv
  obtain ⟨rfl, hsz, hP, hK, hD0⟩ := hv
  have hx := B.exec
  have hb := B.bytes
  have hr := B.returns
  have hts := atoms_spec (ws := wsX1_hasArrival) B.pre
  have hown : s.vm.findClass RX1 = some m.cls := findClass_of_methodNamed B.named
  have hlocks := B.notSynchronized
  subst hsz
  have hD := hD0.self (sz := s.heap.size)
  generalize hAe : va_A [eO aO 0 [.ref aQ, .int (zI az), .int (zI alo), .int (zI ahi), .int (zI asl)]] s.heap.size = A at hD ⊢
  have hA : ∀ q : Nat, s.heap.size ≤ q → A q := fun q h => by rw [← hAe]; exact Or.inr h
  have hS : va_S A s.heap s.heap [] := va_S.rf
  have hl := lv_entry ([.ref aO, .int (zI p1)]) (n := 2) (Nat.le_of_ble_eq_true rfl)
  rw [lg_entry_eq]
  generalize (lg_sl ([.ref aO, .int (zI p1)]) ++ List.replicate (2 - (lg_sl ([.ref aO, .int (zI p1)])).length) Slot.unset).toArray = ls at hl ⊢
  have hl : lv_has ls 2 [(0, .ref aO), (1, .int (zI p1))] := hl
  have hf := zq_of hf
  unfold f_X1_hasArrival at hf
  refine lv_iload_n hx hb dX1_hasArrival_0 rfl (lv_at hl 1 rfl) ?_
  refine zz_if_lt (tgt := 22) hx hb dX1_hasArrival_1 (by decide) hf (fun hc hf => ?_) (fun hc hf => ?_)
  · refine lv_iconst (v := zI 0) hx hb dX1_hasArrival_22 rfl ?_
    have hf := zq_some hf
    cases hf
    exact W.zret hx hb hr rfl (fun t ht hW => ⟨⟨_, (), rfl, rfl, by rw [ht]; exact hP, hD⟩, hS.F ht⟩) hS.2.2 dX1_hasArrival_23
  · refine lv_iload_n hx hb dX1_hasArrival_4 rfl (lv_at hl 1 rfl) ?_
    refine lv_aload_n hx hb dX1_hasArrival_5 rfl (lv_at hl 0 rfl) ?_
    refine va_get (D := D) (ci := 0) (v := .int (zI az)) (C := RX1) (T := TX1) (N := 5) hx hb hts u_X1_hasArrival_X1 hown hK.1 hP 0 rfl rfl 1 (by decide) (hts _ m_X1_hasArrival_1) (fun _ h9 => h9) rfl dX1_hasArrival_6 ?_
    refine zz_icmp_ge (tgt := 22) hx hb dX1_hasArrival_9 (by decide) hf (fun hc hf => ?_) (fun hc hf => ?_)
    · refine lv_iload_n hx hb dX1_hasArrival_12 rfl (lv_at hl 1 rfl) ?_
      refine lv_bipush (v := zI 7) hx hb dX1_hasArrival_13 (by decide) ?_
      refine zz_icmp_ge (tgt := 22) hx hb dX1_hasArrival_15 (by decide) hf (fun hc hf => ?_) (fun hc hf => ?_)
      · refine lv_iconst (v := zI 1) hx hb dX1_hasArrival_18 rfl ?_
        refine lv_goto (tgt := 23) hx hb dX1_hasArrival_19 (by decide) ?_
        have hf := zq_some hf
        cases hf
        exact W.zret hx hb hr rfl (fun t ht hW => ⟨⟨_, (), rfl, rfl, by rw [ht]; exact hP, hD⟩, hS.F ht⟩) hS.2.2 dX1_hasArrival_23
      · refine lv_iconst (v := zI 0) hx hb dX1_hasArrival_22 rfl ?_
        have hf := zq_some hf
        cases hf
        exact W.zret hx hb hr rfl (fun t ht hW => ⟨⟨_, (), rfl, rfl, by rw [ht]; exact hP, hD⟩, hS.F ht⟩) hS.2.2 dX1_hasArrival_23
    · refine lv_iconst (v := zI 0) hx hb dX1_hasArrival_22 rfl ?_
      have hf := zq_some hf
      cases hf
      exact W.zret hx hb hr rfl (fun t ht hW => ⟨⟨_, (), rfl, rfl, by rw [ht]; exact hP, hD⟩, hS.F ht⟩) hS.2.2 dX1_hasArrival_23

noncomputable def st_X1_hears (p1 : Int) (az : Int) (aT : Nat → Int) : (Int) → Option ((Int) ⊕ (Int)) := fun x2 =>
  gd (zR x2 ∧ zR az) <|
  if x2 < az then
    gd (zin x2 7) <|
    gd (zR (aT x2.toNat) ∧ zR p1) <|
    if (aT x2.toNat) = p1 then
      some (.inr 1)
    else
      some (.inl (x2 + 1))
  else
    some (.inr 0)
noncomputable def f_X1_hears (p1 : Int) (az : Int) (aT : Nat → Int) : Option (Int) :=
  zev (st_X1_hears p1 az aT) 0
theorem m_X1_hears_1 : (.fieldLink RX1 18 "PulseTurns$Hearing" "size" "I" : Cond) ∈ wsX1_hears := List.mem_of_getElem? (i := 1) rfl
theorem m_X1_hears_2 : (.fieldLink RX1 9 "PulseTurns$Hearing" "times" "[I" : Cond) ∈ wsX1_hears := List.mem_of_getElem? (i := 2) rfl
theorem u_X1_hears_X1 : ∀ w ∈ wsX10, w ∈ wsX1_hears := fun w h => List.mem_cons_of_mem _ (List.mem_append_right _ h)
set_option maxRecDepth 100000 in
set_option maxHeartbeats 4000000 in
theorem c_X1_hears (l : Launch) (D : va_G) (cy : Nat → ClassId) (aO aQ : Nat) (sz : Nat) (p1 : Int) (az : Int) (alo : Int) (ahi : Int) (asl : Int) (aT : Nat → Int) {r : Int} (hf : f_X1_hears p1 az aT = some r) : zMi l yX1_hears wsX1_hears ({ frames := 0, cells := 0, slots := 0, locals := 0 }) D cy sz [.ref aO, .int (zI p1)] [eO aO 0 [.ref aQ, .int (zI az), .int (zI alo), .int (zI ahi), .int (zI asl)], eA aQ (cy 0) 7 aT] [eO aO 0 [.ref aQ, .int (zI az), .int (zI alo), .int (zI ahi), .int (zI asl)], eA aQ (cy 0) 7 aT] (zI r) := by
  refine Met.ofW (cc := cX1_hears) (maxL := 3) (ret := (some .boolean)) (by decide) rfl ?_
  intro p e s m args below meth c s₁ B hml hv
  obtain ⟨rfl, hsz, hP, hK, hD0⟩ := hv
  have hx := B.exec
  have hb := B.bytes
  have hr := B.returns
  have hts := atoms_spec (ws := wsX1_hears) B.pre
  have hown : s.vm.findClass RX1 = some m.cls := findClass_of_methodNamed B.named
  have hlocks := B.notSynchronized
  subst hsz
  have hD := hD0.self (sz := s.heap.size)
  generalize hAe : va_A [eO aO 0 [.ref aQ, .int (zI az), .int (zI alo), .int (zI ahi), .int (zI asl)], eA aQ (cy 0) 7 aT] s.heap.size = A at hD ⊢
  have hA : ∀ q : Nat, s.heap.size ≤ q → A q := fun q h => by rw [← hAe]; exact Or.inr h
  have hS : va_S A s.heap s.heap [] := va_S.rf
  have hl := lv_entry ([.ref aO, .int (zI p1)]) (n := 3) (Nat.le_of_ble_eq_true rfl)
  rw [lg_entry_eq]
  generalize (lg_sl ([.ref aO, .int (zI p1)]) ++ List.replicate (3 - (lg_sl ([.ref aO, .int (zI p1)])).length) Slot.unset).toArray = ls at hl ⊢
  have hl : lv_has ls 3 [(0, .ref aO), (1, .int (zI p1))] := hl
  have hf := zq_of hf
  have key := zloop (st := st_X1_hears p1 az aT) (res := r) (K := fun x2 => ∀ (H : Heap) (locs : List Loc) (ls : Array Slot), va_P D vwCl [eO aO 0 [.ref aQ, .int (zI az), .int (zI alo), .int (zI ahi), .int (zI asl)], eA aQ (cy 0) 7 aT] H → va_D A [eO aO 0 [.ref aQ, .int (zI az), .int (zI alo), .int (zI ahi), .int (zI asl)], eA aQ (cy 0) 7 aT] → va_S A s.heap H locs → lv_has ls 3 [(0, .ref aO), (1, .int (zI p1)), (2, .int (zI x2))] → zGi p l e wsX1_hears ({ frames := 0, cells := 0, slots := 0, locals := 0 }) s m [.ref aO, .int (zI p1)] below meth c A D [eO aO 0 [.ref aQ, .int (zI az), .int (zI alo), .int (zI ahi), .int (zI asl)], eA aQ (cy 0) 7 aT] (zI r) H locs (F0 m 2 ls [])) (by
    intro x2 hf
    intro H locs ls hP hD hS hl
    unfold st_X1_hears at hf
    try dsimp only at hf
    refine lv_iload_n hx hb dX1_hears_2 rfl (lv_at hl 2 rfl) ?_
    refine lv_aload_n hx hb dX1_hears_3 rfl (lv_at hl 0 rfl) ?_
    refine va_get (D := D) (ci := 0) (v := .int (zI az)) (C := RX1) (T := TX1) (N := 5) hx hb hts u_X1_hears_X1 hown hK.1 hP 0 rfl rfl 1 (by decide) (hts _ m_X1_hears_1) (fun _ h9 => h9) rfl dX1_hears_4 ?_
    refine zz_icmp_ge (tgt := 28) hx hb dX1_hears_7 (by decide) hf (fun hc hf => ?_) (fun hc hf => ?_)
    · refine lv_aload_n hx hb dX1_hears_10 rfl (lv_at hl 0 rfl) ?_
      refine va_get (D := D) (ci := 0) (v := .ref aQ) (C := RX1) (T := TX1) (N := 5) hx hb hts u_X1_hears_X1 hown hK.1 hP 0 rfl rfl 0 (by decide) (hts _ m_X1_hears_2) (fun _ h9 => h9) rfl dX1_hears_11 ?_
      refine lv_iload_n hx hb dX1_hears_14 rfl (lv_at hl 2 rfl) ?_
      obtain ⟨hg, hf⟩ := zq_gd hf
      refine zz_iald (i := x2) hx hb hK hP 1 rfl (Nat.le_of_ble_eq_true rfl) hg dX1_hears_15 ?_
      refine lv_iload_n hx hb dX1_hears_16 rfl (lv_at hl 1 rfl) ?_
      refine zz_icmp_ne (tgt := 22) hx hb dX1_hears_17 (by decide) hf (fun hc hf => ?_) (fun hc hf => ?_)
      · refine lv_iconst (v := zI 1) hx hb dX1_hears_20 rfl ?_
        have hf := zq_some hf
        cases hf
        exact W.zret hx hb hr rfl (fun t ht hW => ⟨⟨_, (), rfl, rfl, by rw [ht]; exact hP, hD⟩, hS.F ht⟩) hS.2.2 dX1_hears_21
      · refine lv_iinc (v := zI (x2 + 1)) (lv' := [(2, .int (zI (x2 + 1))), (0, .ref aO), (1, .int (zI p1))]) hx hb dX1_hears_22 hl (k := 2) rfl (zI_add _ _) (by decide) rfl (fun ls hl => ?_)
        refine lv_goto (tgt := 2) hx hb dX1_hears_25 (by decide) ?_
        have hf := zq_some hf
        exact hf _ _ _ hP hD hS (lv_sub hl [1, 2, 0] rfl)
    · refine lv_iconst (v := zI 0) hx hb dX1_hears_28 rfl ?_
      have hf := zq_some hf
      cases hf
      exact W.zret hx hb hr rfl (fun t ht hW => ⟨⟨_, (), rfl, rfl, by rw [ht]; exact hP, hD⟩, hS.F ht⟩) hS.2.2 dX1_hears_29
    )
  unfold f_X1_hears at hf
  refine lv_iconst (v := zI 0) hx hb dX1_hears_0 rfl ?_
  refine lv_istore_n (lv' := [(2, .int (zI 0)), (0, .ref aO), (1, .int (zI p1))]) hx hb dX1_hears_1 rfl hl (by decide) rfl (fun ls hl => ?_)
  exact key _ (zq_eq hf) _ _ _ hP hD hS (lv_sub hl [1, 2, 0] rfl)

noncomputable def st_X1_place (p1 : Int) : (Int × Int × Int × (Nat → Int)) → Option ((Int × Int × Int × (Nat → Int)) ⊕ (Int × Int × (Nat → Int))) := fun (x2, x3, az, aT) =>
  gd (zR x3) <|
  if x3 < 0 then
    gd (zin x2 7) <|
    some (.inr (x2, (az + 1), (zup aT x2 p1)))
  else
    gd (zin x3 7) <|
    gd (zR (aT x3.toNat) ∧ zR p1) <|
    if (aT x3.toNat) ≤ p1 then
      gd (zin x2 7) <|
      some (.inr (x2, (az + 1), (zup aT x2 p1)))
    else
      gd (zin x3 7) <|
      gd (zin (x3 + 1) 7) <|
      some (.inl (x3, (x3 + (-1)), az, (zup aT (x3 + 1) (aT x3.toNat))))
noncomputable def f_X1_place (p1 : Int) (az : Int) (aT : Nat → Int) : Option (Int × Int × (Nat → Int)) :=
  gd (zR az ∧ zR 7) <|
  if az < 7 then
    zlt (az - 1) fun v23 =>
    zev (st_X1_place p1) (az, v23, az, aT)
  else
    some ((-3), az, aT)
theorem m_X1_place_1 : (.fieldLink RX1 18 "PulseTurns$Hearing" "size" "I" : Cond) ∈ wsX1_place := List.mem_of_getElem? (i := 1) rfl
theorem m_X1_place_2 : (.fieldLink RX1 9 "PulseTurns$Hearing" "times" "[I" : Cond) ∈ wsX1_place := List.mem_of_getElem? (i := 2) rfl
theorem u_X1_place_X1 : ∀ w ∈ wsX10, w ∈ wsX1_place := fun w h => List.mem_cons_of_mem _ (List.mem_append_right _ h)
set_option maxRecDepth 100000 in
set_option maxHeartbeats 4000000 in
theorem c_X1_place (l : Launch) (D : va_G) (cy : Nat → ClassId) (aO aQ : Nat) (sz : Nat) (p1 : Int) (az : Int) (alo : Int) (ahi : Int) (asl : Int) (aT : Nat → Int) {r : Int} {az' : Int} {aT' : Nat → Int} (hf : f_X1_place p1 az aT = some (r, az', aT')) : zMi l yX1_place wsX1_place ({ frames := 0, cells := 0, slots := 0, locals := 0 }) D cy sz [.ref aO, .int (zI p1)] [eO aO 0 [.ref aQ, .int (zI az), .int (zI alo), .int (zI ahi), .int (zI asl)], eA aQ (cy 0) 7 aT] [eO aO 0 [.ref aQ, .int (zI az'), .int (zI alo), .int (zI ahi), .int (zI asl)], eA aQ (cy 0) 7 aT'] (zI r) := by
  refine Met.ofW (cc := cX1_place) (maxL := 4) (ret := (some .int)) (by decide) rfl ?_
  intro p e s m args below meth c s₁ B hml hv
  obtain ⟨rfl, hsz, hP, hK, hD0⟩ := hv
  have hx := B.exec
  have hb := B.bytes
  have hr := B.returns
  have hts := atoms_spec (ws := wsX1_place) B.pre
  have hown : s.vm.findClass RX1 = some m.cls := findClass_of_methodNamed B.named
  have hlocks := B.notSynchronized
  subst hsz
  have hD := hD0.self (sz := s.heap.size)
  generalize hAe : va_A [eO aO 0 [.ref aQ, .int (zI az), .int (zI alo), .int (zI ahi), .int (zI asl)], eA aQ (cy 0) 7 aT] s.heap.size = A at hD ⊢
  have hA : ∀ q : Nat, s.heap.size ≤ q → A q := fun q h => by rw [← hAe]; exact Or.inr h
  have hS : va_S A s.heap s.heap [] := va_S.rf
  have hl := lv_entry ([.ref aO, .int (zI p1)]) (n := 4) (Nat.le_of_ble_eq_true rfl)
  rw [lg_entry_eq]
  generalize (lg_sl ([.ref aO, .int (zI p1)]) ++ List.replicate (4 - (lg_sl ([.ref aO, .int (zI p1)])).length) Slot.unset).toArray = ls at hl ⊢
  have hl : lv_has ls 4 [(0, .ref aO), (1, .int (zI p1))] := hl
  have hf := zq_of hf
  have key := zloop (st := st_X1_place p1) (res := (r, az', aT')) (K := fun (x2, x3, az, aT) => ∀ (H : Heap) (locs : List Loc) (ls : Array Slot), va_P D vwCl [eO aO 0 [.ref aQ, .int (zI az), .int (zI alo), .int (zI ahi), .int (zI asl)], eA aQ (cy 0) 7 aT] H → va_D A [eO aO 0 [.ref aQ, .int (zI az), .int (zI alo), .int (zI ahi), .int (zI asl)], eA aQ (cy 0) 7 aT] → va_S A s.heap H locs → lv_has ls 4 [(0, .ref aO), (1, .int (zI p1)), (2, .int (zI x2)), (3, .int (zI x3))] → zGi p l e wsX1_place ({ frames := 0, cells := 0, slots := 0, locals := 0 }) s m [.ref aO, .int (zI p1)] below meth c A D [eO aO 0 [.ref aQ, .int (zI az'), .int (zI alo), .int (zI ahi), .int (zI asl)], eA aQ (cy 0) 7 aT'] (zI r) H locs (F0 m 24 ls [])) (by
    rintro ⟨x2, x3, az, aT⟩ hf
    intro H locs ls hP hD hS hl
    unfold st_X1_place at hf
    try dsimp only at hf
    refine lv_iload_n hx hb dX1_place_24 rfl (lv_at hl 3 rfl) ?_
    refine zz_if_lt (tgt := 60) hx hb dX1_place_25 (by decide) hf (fun hc hf => ?_) (fun hc hf => ?_)
    · refine lv_aload_n hx hb dX1_place_60 rfl (lv_at hl 0 rfl) ?_
      refine va_get (D := D) (ci := 0) (v := .ref aQ) (C := RX1) (T := TX1) (N := 5) hx hb hts u_X1_place_X1 hown hK.1 hP 0 rfl rfl 0 (by decide) (hts _ m_X1_place_2) (fun _ h9 => h9) rfl dX1_place_61 ?_
      refine lv_iload_n hx hb dX1_place_64 rfl (lv_at hl 2 rfl) ?_
      refine lv_iload_n hx hb dX1_place_65 rfl (lv_at hl 1 rfl) ?_
      obtain ⟨hg, hf⟩ := zq_gd hf
      refine zz_iast (i := x2) hx hb hK hP hD hS 1 rfl (Nat.le_of_ble_eq_true rfl) hg dX1_place_66 (fun H locs hP hD hS => ?_)
      have hP : va_P D vwCl [eO aO 0 [.ref aQ, .int (zI az), .int (zI alo), .int (zI ahi), .int (zI asl)], eA aQ (cy 0) 7 (zup aT x2 p1)] H := hP
      have hD : va_D A [eO aO 0 [.ref aQ, .int (zI az), .int (zI alo), .int (zI ahi), .int (zI asl)], eA aQ (cy 0) 7 (zup aT x2 p1)] := hD
      refine lv_aload_n hx hb dX1_place_67 rfl (lv_at hl 0 rfl) ?_
      refine lv_dup hx hb dX1_place_68 rfl ?_
      refine va_get (D := D) (ci := 0) (v := .int (zI az)) (C := RX1) (T := TX1) (N := 5) hx hb hts u_X1_place_X1 hown hK.1 hP 0 rfl rfl 1 (by decide) (hts _ m_X1_place_1) (fun _ h9 => h9) rfl dX1_place_69 ?_
      refine lv_iconst (v := zI 1) hx hb dX1_place_72 rfl ?_
      refine zz_iadd hx hb dX1_place_73 ?_
      refine va_put (D := D) (ci := 0) (v := .int (zI (az + 1))) (ty := .int) (C := RX1) (T := TX1) (N := 5) hx hb hts u_X1_place_X1 tyX1 tyX1_ok nmX1 hown hK.1 hP hD hS 0 rfl rfl 1 (by decide) (hts _ m_X1_place_1) (fun _ h9 => h9) rfl (tyX1_ok 1 (by decide)) rfl rfl (Nat.le_of_ble_eq_true rfl) dX1_place_74 (fun H locs hP hD hS => ?_)
      have hP : va_P D vwCl [eO aO 0 [.ref aQ, .int (zI (az + 1)), .int (zI alo), .int (zI ahi), .int (zI asl)], eA aQ (cy 0) 7 (zup aT x2 p1)] H := hP
      have hD : va_D A [eO aO 0 [.ref aQ, .int (zI (az + 1)), .int (zI alo), .int (zI ahi), .int (zI asl)], eA aQ (cy 0) 7 (zup aT x2 p1)] := hD
      refine lv_iload_n hx hb dX1_place_77 rfl (lv_at hl 2 rfl) ?_
      have hf := zq_some hf
      cases hf
      exact W.iret hx hb hr (fun t ht hW => ⟨⟨_, (), rfl, rfl, by rw [ht]; exact hP, hD⟩, hS.F ht⟩) hS.2.2 dX1_place_78
    · refine lv_aload_n hx hb dX1_place_28 rfl (lv_at hl 0 rfl) ?_
      refine va_get (D := D) (ci := 0) (v := .ref aQ) (C := RX1) (T := TX1) (N := 5) hx hb hts u_X1_place_X1 hown hK.1 hP 0 rfl rfl 0 (by decide) (hts _ m_X1_place_2) (fun _ h9 => h9) rfl dX1_place_29 ?_
      refine lv_iload_n hx hb dX1_place_32 rfl (lv_at hl 3 rfl) ?_
      obtain ⟨hg, hf⟩ := zq_gd hf
      refine zz_iald (i := x3) hx hb hK hP 1 rfl (Nat.le_of_ble_eq_true rfl) hg dX1_place_33 ?_
      refine lv_iload_n hx hb dX1_place_34 rfl (lv_at hl 1 rfl) ?_
      refine zz_icmp_le (tgt := 60) hx hb dX1_place_35 (by decide) hf (fun hc hf => ?_) (fun hc hf => ?_)
      · refine lv_aload_n hx hb dX1_place_60 rfl (lv_at hl 0 rfl) ?_
        refine va_get (D := D) (ci := 0) (v := .ref aQ) (C := RX1) (T := TX1) (N := 5) hx hb hts u_X1_place_X1 hown hK.1 hP 0 rfl rfl 0 (by decide) (hts _ m_X1_place_2) (fun _ h9 => h9) rfl dX1_place_61 ?_
        refine lv_iload_n hx hb dX1_place_64 rfl (lv_at hl 2 rfl) ?_
        refine lv_iload_n hx hb dX1_place_65 rfl (lv_at hl 1 rfl) ?_
        obtain ⟨hg, hf⟩ := zq_gd hf
        refine zz_iast (i := x2) hx hb hK hP hD hS 1 rfl (Nat.le_of_ble_eq_true rfl) hg dX1_place_66 (fun H locs hP hD hS => ?_)
        have hP : va_P D vwCl [eO aO 0 [.ref aQ, .int (zI az), .int (zI alo), .int (zI ahi), .int (zI asl)], eA aQ (cy 0) 7 (zup aT x2 p1)] H := hP
        have hD : va_D A [eO aO 0 [.ref aQ, .int (zI az), .int (zI alo), .int (zI ahi), .int (zI asl)], eA aQ (cy 0) 7 (zup aT x2 p1)] := hD
        refine lv_aload_n hx hb dX1_place_67 rfl (lv_at hl 0 rfl) ?_
        refine lv_dup hx hb dX1_place_68 rfl ?_
        refine va_get (D := D) (ci := 0) (v := .int (zI az)) (C := RX1) (T := TX1) (N := 5) hx hb hts u_X1_place_X1 hown hK.1 hP 0 rfl rfl 1 (by decide) (hts _ m_X1_place_1) (fun _ h9 => h9) rfl dX1_place_69 ?_
        refine lv_iconst (v := zI 1) hx hb dX1_place_72 rfl ?_
        refine zz_iadd hx hb dX1_place_73 ?_
        refine va_put (D := D) (ci := 0) (v := .int (zI (az + 1))) (ty := .int) (C := RX1) (T := TX1) (N := 5) hx hb hts u_X1_place_X1 tyX1 tyX1_ok nmX1 hown hK.1 hP hD hS 0 rfl rfl 1 (by decide) (hts _ m_X1_place_1) (fun _ h9 => h9) rfl (tyX1_ok 1 (by decide)) rfl rfl (Nat.le_of_ble_eq_true rfl) dX1_place_74 (fun H locs hP hD hS => ?_)
        have hP : va_P D vwCl [eO aO 0 [.ref aQ, .int (zI (az + 1)), .int (zI alo), .int (zI ahi), .int (zI asl)], eA aQ (cy 0) 7 (zup aT x2 p1)] H := hP
        have hD : va_D A [eO aO 0 [.ref aQ, .int (zI (az + 1)), .int (zI alo), .int (zI ahi), .int (zI asl)], eA aQ (cy 0) 7 (zup aT x2 p1)] := hD
        refine lv_iload_n hx hb dX1_place_77 rfl (lv_at hl 2 rfl) ?_
        have hf := zq_some hf
        cases hf
        exact W.iret hx hb hr (fun t ht hW => ⟨⟨_, (), rfl, rfl, by rw [ht]; exact hP, hD⟩, hS.F ht⟩) hS.2.2 dX1_place_78
      · refine lv_aload_n hx hb dX1_place_38 rfl (lv_at hl 0 rfl) ?_
        refine va_get (D := D) (ci := 0) (v := .ref aQ) (C := RX1) (T := TX1) (N := 5) hx hb hts u_X1_place_X1 hown hK.1 hP 0 rfl rfl 0 (by decide) (hts _ m_X1_place_2) (fun _ h9 => h9) rfl dX1_place_39 ?_
        refine lv_iload_n hx hb dX1_place_42 rfl (lv_at hl 3 rfl) ?_
        refine lv_iconst (v := zI 1) hx hb dX1_place_43 rfl ?_
        refine zz_iadd hx hb dX1_place_44 ?_
        refine lv_aload_n hx hb dX1_place_45 rfl (lv_at hl 0 rfl) ?_
        refine va_get (D := D) (ci := 0) (v := .ref aQ) (C := RX1) (T := TX1) (N := 5) hx hb hts u_X1_place_X1 hown hK.1 hP 0 rfl rfl 0 (by decide) (hts _ m_X1_place_2) (fun _ h9 => h9) rfl dX1_place_46 ?_
        refine lv_iload_n hx hb dX1_place_49 rfl (lv_at hl 3 rfl) ?_
        obtain ⟨hg, hf⟩ := zq_gd hf
        refine zz_iald (i := x3) hx hb hK hP 1 rfl (Nat.le_of_ble_eq_true rfl) hg dX1_place_50 ?_
        obtain ⟨hg, hf⟩ := zq_gd hf
        refine zz_iast (i := (x3 + 1)) hx hb hK hP hD hS 1 rfl (Nat.le_of_ble_eq_true rfl) hg dX1_place_51 (fun H locs hP hD hS => ?_)
        have hP : va_P D vwCl [eO aO 0 [.ref aQ, .int (zI az), .int (zI alo), .int (zI ahi), .int (zI asl)], eA aQ (cy 0) 7 (zup aT (x3 + 1) (aT x3.toNat))] H := hP
        have hD : va_D A [eO aO 0 [.ref aQ, .int (zI az), .int (zI alo), .int (zI ahi), .int (zI asl)], eA aQ (cy 0) 7 (zup aT (x3 + 1) (aT x3.toNat))] := hD
        refine lv_iload_n hx hb dX1_place_52 rfl (lv_at hl 3 rfl) ?_
        refine lv_istore_n (lv' := [(2, .int (zI x3)), (0, .ref aO), (1, .int (zI p1)), (3, .int (zI x3))]) hx hb dX1_place_53 rfl hl (by decide) rfl (fun ls hl => ?_)
        refine lv_iinc (v := zI (x3 + (-1))) (lv' := [(3, .int (zI (x3 + (-1)))), (2, .int (zI x3)), (0, .ref aO), (1, .int (zI p1))]) hx hb dX1_place_54 hl (k := 3) rfl (zI_add _ _) (by decide) rfl (fun ls hl => ?_)
        refine lv_goto (tgt := 24) hx hb dX1_place_57 (by decide) ?_
        have hf := zq_some hf
        exact hf _ _ _ hP hD hS (lv_sub hl [2, 3, 1, 0] rfl)
    )
  unfold f_X1_place at hf
  refine lv_aload_n hx hb dX1_place_0 rfl (lv_at hl 0 rfl) ?_
  refine va_get (D := D) (ci := 0) (v := .int (zI az)) (C := RX1) (T := TX1) (N := 5) hx hb hts u_X1_place_X1 hown hK.1 hP 0 rfl rfl 1 (by decide) (hts _ m_X1_place_1) (fun _ h9 => h9) rfl dX1_place_1 ?_
  refine lv_bipush (v := zI 7) hx hb dX1_place_4 (by decide) ?_
  refine zz_icmp_lt (tgt := 12) hx hb dX1_place_6 (by decide) hf (fun hc hf => ?_) (fun hc hf => ?_)
  · refine lv_aload_n hx hb dX1_place_12 rfl (lv_at hl 0 rfl) ?_
    refine va_get (D := D) (ci := 0) (v := .int (zI az)) (C := RX1) (T := TX1) (N := 5) hx hb hts u_X1_place_X1 hown hK.1 hP 0 rfl rfl 1 (by decide) (hts _ m_X1_place_1) (fun _ h9 => h9) rfl dX1_place_13 ?_
    refine lv_istore_n (lv' := [(2, .int (zI az)), (0, .ref aO), (1, .int (zI p1))]) hx hb dX1_place_16 rfl hl (by decide) rfl (fun ls hl => ?_)
    refine lv_aload_n hx hb dX1_place_17 rfl (lv_at hl 1 rfl) ?_
    refine va_get (D := D) (ci := 0) (v := .int (zI az)) (C := RX1) (T := TX1) (N := 5) hx hb hts u_X1_place_X1 hown hK.1 hP 0 rfl rfl 1 (by decide) (hts _ m_X1_place_1) (fun _ h9 => h9) rfl dX1_place_18 ?_
    refine lv_iconst (v := zI 1) hx hb dX1_place_21 rfl ?_
    refine zz_isub hx hb dX1_place_22 ?_
    obtain ⟨v23, e23, hf⟩ := zq_lt hf
    refine zz_top e23 ?_
    refine lv_istore_n (lv' := [(3, .int (zI v23)), (2, .int (zI az)), (0, .ref aO), (1, .int (zI p1))]) hx hb dX1_place_23 rfl hl (by decide) rfl (fun ls hl => ?_)
    exact key _ (zq_eq hf) _ _ _ hP hD hS (lv_sub hl [2, 3, 1, 0] rfl)
  · refine lv_bipush (v := zI (-3)) hx hb dX1_place_9 (by decide) ?_
    have hf := zq_some hf
    cases hf
    exact W.iret hx hb hr (fun t ht hW => ⟨⟨_, (), rfl, rfl, by rw [ht]; exact hP, hD⟩, hS.F ht⟩) hS.2.2 dX1_place_11

noncomputable def st_X1_drop : (Int × Int × Int × (Nat → Int)) → Option ((Int × Int × Int × (Nat → Int)) ⊕ (Int × Int × (Nat → Int))) := fun (x2, x3, az, aT) =>
  gd (zR x3 ∧ zR (az - 1)) <|
  if x3 < (az - 1) then
    gd (zin (x3 + 1) 7) <|
    gd (zin x3 7) <|
    some (.inl (x2, (x3 + 1), az, (zup aT x3 (aT (x3 + 1).toNat))))
  else
    some (.inr (x2, (az - 1), aT))
noncomputable def f_X1_drop (p1 : Int) (az : Int) (aT : Nat → Int) : Option (Int × Int × (Nat → Int)) :=
  (f_X1_hasArrival p1 az).bind fun r2 =>
  gd (zR r2) <|
  if r2 = 0 then
    some ((-1), az, aT)
  else
    gd (zin p1 7) <|
    zlt (aT p1.toNat) fun v16 =>
    zev (st_X1_drop) (v16, p1, az, aT)
theorem m_X1_drop_1 : (.fieldLink RX1 9 "PulseTurns$Hearing" "times" "[I" : Cond) ∈ wsX1_drop := List.mem_of_getElem? (i := 1) rfl
theorem m_X1_drop_2 : (.fieldLink RX1 18 "PulseTurns$Hearing" "size" "I" : Cond) ∈ wsX1_drop := List.mem_of_getElem? (i := 2) rfl
theorem u_X1_drop_X1 : ∀ w ∈ wsX10, w ∈ wsX1_drop := fun w h => List.mem_cons_of_mem _ (List.mem_append_right _ h)
set_option maxRecDepth 100000 in
set_option maxHeartbeats 4000000 in
theorem c_X1_drop (l : Launch) (D : va_G) (cy : Nat → ClassId) (aO aQ : Nat) (sz : Nat) (p1 : Int) (az : Int) (alo : Int) (ahi : Int) (asl : Int) (aT : Nat → Int) {r : Int} {az' : Int} {aT' : Nat → Int} (hf : f_X1_drop p1 az aT = some (r, az', aT')) : zMi l yX1_drop wsX1_drop ({ frames := 1, cells := 0, slots := 0, locals := 21 }) D cy sz [.ref aO, .int (zI p1)] [eO aO 0 [.ref aQ, .int (zI az), .int (zI alo), .int (zI ahi), .int (zI asl)], eA aQ (cy 0) 7 aT] [eO aO 0 [.ref aQ, .int (zI az'), .int (zI alo), .int (zI ahi), .int (zI asl)], eA aQ (cy 0) 7 aT'] (zI r) := by
  refine Met.ofW (cc := cX1_drop) (maxL := 4) (ret := (some .int)) (by decide) rfl ?_
  intro p e s m args below meth c s₁ B hml hv
  obtain ⟨rfl, hsz, hP, hK, hD0⟩ := hv
  have hx := B.exec
  have hb := B.bytes
  have hr := B.returns
  have hts := atoms_spec (ws := wsX1_drop) B.pre
  have hown : s.vm.findClass RX1 = some m.cls := findClass_of_methodNamed B.named
  have hlocks := B.notSynchronized
  subst hsz
  have hD := hD0.self (sz := s.heap.size)
  generalize hAe : va_A [eO aO 0 [.ref aQ, .int (zI az), .int (zI alo), .int (zI ahi), .int (zI asl)], eA aQ (cy 0) 7 aT] s.heap.size = A at hD ⊢
  have hA : ∀ q : Nat, s.heap.size ≤ q → A q := fun q h => by rw [← hAe]; exact Or.inr h
  have hS : va_S A s.heap s.heap [] := va_S.rf
  have hl := lv_entry ([.ref aO, .int (zI p1)]) (n := 4) (Nat.le_of_ble_eq_true rfl)
  rw [lg_entry_eq]
  generalize (lg_sl ([.ref aO, .int (zI p1)]) ++ List.replicate (4 - (lg_sl ([.ref aO, .int (zI p1)])).length) Slot.unset).toArray = ls at hl ⊢
  have hl : lv_has ls 4 [(0, .ref aO), (1, .int (zI p1))] := hl
  have hf := zq_of hf
  have key := zloop (st := st_X1_drop) (res := (r, az', aT')) (K := fun (x2, x3, az, aT) => ∀ (H : Heap) (locs : List Loc) (ls : Array Slot), va_P D vwCl [eO aO 0 [.ref aQ, .int (zI az), .int (zI alo), .int (zI ahi), .int (zI asl)], eA aQ (cy 0) 7 aT] H → va_D A [eO aO 0 [.ref aQ, .int (zI az), .int (zI alo), .int (zI ahi), .int (zI asl)], eA aQ (cy 0) 7 aT] → va_S A s.heap H locs → lv_has ls 4 [(0, .ref aO), (1, .int (zI p1)), (2, .int (zI x2)), (3, .int (zI x3))] → zGi p l e wsX1_drop ({ frames := 1, cells := 0, slots := 0, locals := 21 }) s m [.ref aO, .int (zI p1)] below meth c A D [eO aO 0 [.ref aQ, .int (zI az'), .int (zI alo), .int (zI ahi), .int (zI asl)], eA aQ (cy 0) 7 aT'] (zI r) H locs (F0 m 19 ls [])) (by
    rintro ⟨x2, x3, az, aT⟩ hf
    intro H locs ls hP hD hS hl
    unfold st_X1_drop at hf
    try dsimp only at hf
    refine lv_iload_n hx hb dX1_drop_19 rfl (lv_at hl 3 rfl) ?_
    refine lv_aload_n hx hb dX1_drop_20 rfl (lv_at hl 0 rfl) ?_
    refine va_get (D := D) (ci := 0) (v := .int (zI az)) (C := RX1) (T := TX1) (N := 5) hx hb hts u_X1_drop_X1 hown hK.1 hP 0 rfl rfl 1 (by decide) (hts _ m_X1_drop_2) (fun _ h9 => h9) rfl dX1_drop_21 ?_
    refine lv_iconst (v := zI 1) hx hb dX1_drop_24 rfl ?_
    refine zz_isub hx hb dX1_drop_25 ?_
    refine zz_icmp_ge (tgt := 49) hx hb dX1_drop_26 (by decide) hf (fun hc hf => ?_) (fun hc hf => ?_)
    · refine lv_aload_n hx hb dX1_drop_29 rfl (lv_at hl 0 rfl) ?_
      refine va_get (D := D) (ci := 0) (v := .ref aQ) (C := RX1) (T := TX1) (N := 5) hx hb hts u_X1_drop_X1 hown hK.1 hP 0 rfl rfl 0 (by decide) (hts _ m_X1_drop_1) (fun _ h9 => h9) rfl dX1_drop_30 ?_
      refine lv_iload_n hx hb dX1_drop_33 rfl (lv_at hl 3 rfl) ?_
      refine lv_aload_n hx hb dX1_drop_34 rfl (lv_at hl 0 rfl) ?_
      refine va_get (D := D) (ci := 0) (v := .ref aQ) (C := RX1) (T := TX1) (N := 5) hx hb hts u_X1_drop_X1 hown hK.1 hP 0 rfl rfl 0 (by decide) (hts _ m_X1_drop_1) (fun _ h9 => h9) rfl dX1_drop_35 ?_
      refine lv_iload_n hx hb dX1_drop_38 rfl (lv_at hl 3 rfl) ?_
      refine lv_iconst (v := zI 1) hx hb dX1_drop_39 rfl ?_
      refine zz_iadd hx hb dX1_drop_40 ?_
      obtain ⟨hg, hf⟩ := zq_gd hf
      refine zz_iald (i := (x3 + 1)) hx hb hK hP 1 rfl (Nat.le_of_ble_eq_true rfl) hg dX1_drop_41 ?_
      obtain ⟨hg, hf⟩ := zq_gd hf
      refine zz_iast (i := x3) hx hb hK hP hD hS 1 rfl (Nat.le_of_ble_eq_true rfl) hg dX1_drop_42 (fun H locs hP hD hS => ?_)
      have hP : va_P D vwCl [eO aO 0 [.ref aQ, .int (zI az), .int (zI alo), .int (zI ahi), .int (zI asl)], eA aQ (cy 0) 7 (zup aT x3 (aT (x3 + 1).toNat))] H := hP
      have hD : va_D A [eO aO 0 [.ref aQ, .int (zI az), .int (zI alo), .int (zI ahi), .int (zI asl)], eA aQ (cy 0) 7 (zup aT x3 (aT (x3 + 1).toNat))] := hD
      refine lv_iinc (v := zI (x3 + 1)) (lv' := [(3, .int (zI (x3 + 1))), (0, .ref aO), (1, .int (zI p1)), (2, .int (zI x2))]) hx hb dX1_drop_43 hl (k := 3) rfl (zI_add _ _) (by decide) rfl (fun ls hl => ?_)
      refine lv_goto (tgt := 19) hx hb dX1_drop_46 (by decide) ?_
      have hf := zq_some hf
      exact hf _ _ _ hP hD hS (lv_sub hl [1, 2, 3, 0] rfl)
    · refine lv_aload_n hx hb dX1_drop_49 rfl (lv_at hl 0 rfl) ?_
      refine lv_dup hx hb dX1_drop_50 rfl ?_
      refine va_get (D := D) (ci := 0) (v := .int (zI az)) (C := RX1) (T := TX1) (N := 5) hx hb hts u_X1_drop_X1 hown hK.1 hP 0 rfl rfl 1 (by decide) (hts _ m_X1_drop_2) (fun _ h9 => h9) rfl dX1_drop_51 ?_
      refine lv_iconst (v := zI 1) hx hb dX1_drop_54 rfl ?_
      refine zz_isub hx hb dX1_drop_55 ?_
      refine va_put (D := D) (ci := 0) (v := .int (zI (az - 1))) (ty := .int) (C := RX1) (T := TX1) (N := 5) hx hb hts u_X1_drop_X1 tyX1 tyX1_ok nmX1 hown hK.1 hP hD hS 0 rfl rfl 1 (by decide) (hts _ m_X1_drop_2) (fun _ h9 => h9) rfl (tyX1_ok 1 (by decide)) rfl rfl (Nat.le_of_ble_eq_true rfl) dX1_drop_56 (fun H locs hP hD hS => ?_)
      have hP : va_P D vwCl [eO aO 0 [.ref aQ, .int (zI (az - 1)), .int (zI alo), .int (zI ahi), .int (zI asl)], eA aQ (cy 0) 7 aT] H := hP
      have hD : va_D A [eO aO 0 [.ref aQ, .int (zI (az - 1)), .int (zI alo), .int (zI ahi), .int (zI asl)], eA aQ (cy 0) 7 aT] := hD
      refine lv_iload_n hx hb dX1_drop_59 rfl (lv_at hl 2 rfl) ?_
      have hf := zq_some hf
      cases hf
      exact W.iret hx hb hr (fun t ht hW => ⟨⟨_, (), rfl, rfl, by rw [ht]; exact hP, hD⟩, hS.F ht⟩) hS.2.2 dX1_drop_60
    )
  unfold f_X1_drop at hf
  refine lv_aload_n hx hb dX1_drop_0 rfl (lv_at hl 0 rfl) ?_
  refine lv_iload_n hx hb dX1_drop_1 rfl (lv_at hl 1 rfl) ?_
  obtain ⟨r2, hc2, hf⟩ := zq_bind hf
  refine zcallVi (wr := [eA aQ (cy 0) 7 aT]) (rest := []) ⟨hx, hb, hml, hown, hts⟩ (c_X1_hasArrival l D cy aO aQ s.heap.size p1 az alo ahi asl hc2) (cwV 1 hts gX1_drop_X1_hasArrival rfl rfl rfl (by decide +kernel) ⟨Nat.le_of_ble_eq_true rfl, Nat.le_of_ble_eq_true rfl⟩) hK hP hD hS hA [0] [1] rfl rfl rfl rfl (by decide) (va_recv hK.1 hP (ci := 0) (q0 := 0) rfl rfl) rfl hl.1 rfl (Nat.le_of_ble_eq_true rfl) dX1_drop_2 ⟨Nat.zero_le _, Nat.zero_le _⟩ (fun H locs hP hD hS => ?_)
  have hP : va_P D vwCl [eO aO 0 [.ref aQ, .int (zI az), .int (zI alo), .int (zI ahi), .int (zI asl)], eA aQ (cy 0) 7 aT] H := hP.sub [1, 0] rfl
  have hD : va_D A [eO aO 0 [.ref aQ, .int (zI az), .int (zI alo), .int (zI ahi), .int (zI asl)], eA aQ (cy 0) 7 aT] := hD.sub [1, 0] rfl rfl
  refine zz_if_ne (tgt := 10) hx hb dX1_drop_5 (by decide) hf (fun hc hf => ?_) (fun hc hf => ?_)
  · refine lv_iconst (v := zI (-1)) hx hb dX1_drop_8 rfl ?_
    have hf := zq_some hf
    cases hf
    exact W.iret hx hb hr (fun t ht hW => ⟨⟨_, (), rfl, rfl, by rw [ht]; exact hP, hD⟩, hS.F ht⟩) hS.2.2 dX1_drop_9
  · refine lv_aload_n hx hb dX1_drop_10 rfl (lv_at hl 0 rfl) ?_
    refine va_get (D := D) (ci := 0) (v := .ref aQ) (C := RX1) (T := TX1) (N := 5) hx hb hts u_X1_drop_X1 hown hK.1 hP 0 rfl rfl 0 (by decide) (hts _ m_X1_drop_1) (fun _ h9 => h9) rfl dX1_drop_11 ?_
    refine lv_iload_n hx hb dX1_drop_14 rfl (lv_at hl 1 rfl) ?_
    obtain ⟨hg, hf⟩ := zq_gd hf
    refine zz_iald (i := p1) hx hb hK hP 1 rfl (Nat.le_of_ble_eq_true rfl) hg dX1_drop_15 ?_
    obtain ⟨v16, e16, hf⟩ := zq_lt hf
    refine zz_top e16 ?_
    refine lv_istore_n (lv' := [(2, .int (zI v16)), (0, .ref aO), (1, .int (zI p1))]) hx hb dX1_drop_16 rfl hl (by decide) rfl (fun ls hl => ?_)
    refine lv_iload_n hx hb dX1_drop_17 rfl (lv_at hl 2 rfl) ?_
    refine lv_istore_n (lv' := [(3, .int (zI p1)), (2, .int (zI v16)), (0, .ref aO), (1, .int (zI p1))]) hx hb dX1_drop_18 rfl hl (by decide) rfl (fun ls hl => ?_)
    exact key _ (zq_eq hf) _ _ _ hP hD hS (lv_sub hl [2, 3, 1, 0] rfl)
