noncomputable def st_X2_search (nz : Int) (nr : Int) (nT : Nat → Int) : (Int × Int × (Nat → Int) × (Nat → Int) × (Nat → Int) × (Nat → Int) × (Nat → Int) × (Nat → Int)) → Option ((Int × Int × (Nat → Int) × (Nat → Int) × (Nat → Int) × (Nat → Int) × (Nat → Int) × (Nat → Int)) ⊕ (Int × (Nat → Int) × (Nat → Int) × (Nat → Int) × (Nat → Int) × (Nat → Int) × (Nat → Int))) := fun (x2, x3, nN, nG, nLU, nLL, nHU, nHL) =>
  gd (zR x3 ∧ zR 1000000) <|
  if x3 < 1000000 then
    gd (zR x2 ∧ zR 1) <|
    if x2 < 1 then
      some (.inr (0, nN, nG, nLU, nLL, nHU, nHL))
    else
      gd (zin x2 7) <|
      gd (zin x2 7) <|
      gd (zR (nN (Int.toNat x2)) ∧ zR (nG (Int.toNat x2))) <|
      if (nN (Int.toNat x2)) < (nG (Int.toNat x2)) then
        gd (zin x2 7) <|
        gd (zin x2 7) <|
        (f_X2_fits x2 nr nT (zup nN x2 ((nN (Int.toNat x2)) + 1)) nLU nLL nHU nHL).bind fun (r48, nLU_48, nLL_48, nHU_48, nHL_48) =>
        gd (zR r48) <|
        if r48 = 0 then
          some (.inl (x2, (x3 + 1), (zup nN x2 ((nN (Int.toNat x2)) + 1)), nG, nLU_48, nLL_48, nHU_48, nHL_48))
        else
          gd (zR x2 ∧ zR (nz - 1)) <|
          if x2 = (nz - 1) then
            some (.inr (1, (zup nN x2 ((nN (Int.toNat x2)) + 1)), nG, nLU_48, nLL_48, nHU_48, nHL_48))
          else
            (f_X2_open (x2 + 1) nr nT (zup nN x2 ((nN (Int.toNat x2)) + 1)) nG nLU_48 nLL_48 nHU_48 nHL_48).bind fun (nN_71, nG_71) =>
            some (.inl ((x2 + 1), (x3 + 1), nN_71, nG_71, nLU_48, nLL_48, nHU_48, nHL_48))
      else
        some (.inl ((x2 + (-1)), (x3 + 1), nN, nG, nLU, nLL, nHU, nHL))
  else
    some (.inr (0, nN, nG, nLU, nLL, nHU, nHL))
noncomputable def f_X2_search (p1 : Int) (nz : Int) (nr : Int) (nT : Nat → Int) (nN : Nat → Int) (nG : Nat → Int) (nLU : Nat → Int) (nLL : Nat → Int) (nHU : Nat → Int) (nHL : Nat → Int) : Option (Int × (Nat → Int) × (Nat → Int) × (Nat → Int) × (Nat → Int) × (Nat → Int) × (Nat → Int)) :=
  zev (st_X2_search nz nr nT) (p1, 0, nN, nG, nLU, nLL, nHU, nHL)
theorem m_X2_search_1 : (.constant RX2 67 (1000000) : Cond) ∈ wsX2_search := List.mem_of_getElem? (i := 1) rfl
theorem m_X2_search_2 : (.fieldLink RX2 15 "PulseTurns$Numberings" "numbers" "[I" : Cond) ∈ wsX2_search := List.mem_of_getElem? (i := 2) rfl
theorem m_X2_search_3 : (.fieldLink RX2 18 "PulseTurns$Numberings" "greatest" "[I" : Cond) ∈ wsX2_search := List.mem_of_getElem? (i := 3) rfl
theorem m_X2_search_4 : (.fieldLink RX2 35 "PulseTurns$Numberings" "size" "I" : Cond) ∈ wsX2_search := List.mem_of_getElem? (i := 4) rfl
theorem u_X2_search_X2 : ∀ w ∈ wsX20, w ∈ wsX2_search := fun w h => List.mem_cons_of_mem _ (List.mem_append_left _ (List.mem_append_right _ h))
set_option maxRecDepth 100000 in
set_option maxHeartbeats 4000000 in
theorem c_X2_search (l : Launch) (D : va_G) (cy : Nat → ClassId) (nO nQt nQn nQg nQl nP0 nP1 nP2 nP3 nP4 nP5 nP6 : Nat) (sz : Nat) (p1 : Int) (nz : Int) (nr : Int) (nb : Int) (ne : Int) (nT : Nat → Int) (nN : Nat → Int) (nG : Nat → Int) (nLU : Nat → Int) (nLL : Nat → Int) (nHU : Nat → Int) (nHL : Nat → Int) {r : Int} {nN' : Nat → Int} {nG' : Nat → Int} {nLU' : Nat → Int} {nLL' : Nat → Int} {nHU' : Nat → Int} {nHL' : Nat → Int} (hf : f_X2_search p1 nz nr nT nN nG nLU nLL nHU nHL = some (r, nN', nG', nLU', nLL', nHU', nHL')) : zMi l yX2_search wsX2_search ({ frames := 2, cells := 0, slots := 0, locals := 47 }) D cy sz [.ref nO, .int (zI p1)] [eO nO 1 [.ref nQt, .ref nQn, .ref nQg, .ref nQl, .int (zI nz), .int (zI nr), .int (zI nb), .int (zI ne)], eA nQt (cy 0) 7 nT, eA nQn (cy 0) 7 nN, eA nQg (cy 0) 7 nG, eR nQl (cy 4) 7 [nP0, nP1, nP2, nP3, nP4, nP5, nP6], eO nP0 3 [.int (zI (nLU 0)), .int (zI (nLL 0)), .int (zI (nHU 0)), .int (zI (nHL 0))], eO nP1 3 [.int (zI (nLU 1)), .int (zI (nLL 1)), .int (zI (nHU 1)), .int (zI (nHL 1))], eO nP2 3 [.int (zI (nLU 2)), .int (zI (nLL 2)), .int (zI (nHU 2)), .int (zI (nHL 2))], eO nP3 3 [.int (zI (nLU 3)), .int (zI (nLL 3)), .int (zI (nHU 3)), .int (zI (nHL 3))], eO nP4 3 [.int (zI (nLU 4)), .int (zI (nLL 4)), .int (zI (nHU 4)), .int (zI (nHL 4))], eO nP5 3 [.int (zI (nLU 5)), .int (zI (nLL 5)), .int (zI (nHU 5)), .int (zI (nHL 5))], eO nP6 3 [.int (zI (nLU 6)), .int (zI (nLL 6)), .int (zI (nHU 6)), .int (zI (nHL 6))]] [eO nO 1 [.ref nQt, .ref nQn, .ref nQg, .ref nQl, .int (zI nz), .int (zI nr), .int (zI nb), .int (zI ne)], eA nQt (cy 0) 7 nT, eA nQn (cy 0) 7 nN', eA nQg (cy 0) 7 nG', eR nQl (cy 4) 7 [nP0, nP1, nP2, nP3, nP4, nP5, nP6], eO nP0 3 [.int (zI (nLU' 0)), .int (zI (nLL' 0)), .int (zI (nHU' 0)), .int (zI (nHL' 0))], eO nP1 3 [.int (zI (nLU' 1)), .int (zI (nLL' 1)), .int (zI (nHU' 1)), .int (zI (nHL' 1))], eO nP2 3 [.int (zI (nLU' 2)), .int (zI (nLL' 2)), .int (zI (nHU' 2)), .int (zI (nHL' 2))], eO nP3 3 [.int (zI (nLU' 3)), .int (zI (nLL' 3)), .int (zI (nHU' 3)), .int (zI (nHL' 3))], eO nP4 3 [.int (zI (nLU' 4)), .int (zI (nLL' 4)), .int (zI (nHU' 4)), .int (zI (nHL' 4))], eO nP5 3 [.int (zI (nLU' 5)), .int (zI (nLL' 5)), .int (zI (nHU' 5)), .int (zI (nHL' 5))], eO nP6 3 [.int (zI (nLU' 6)), .int (zI (nLL' 6)), .int (zI (nHU' 6)), .int (zI (nHL' 6))]] (zI r) := by
  refine Met.ofW (cc := cX2_search) (maxL := 4) (ret := (some .boolean)) (by decide) rfl ?_
  intro p e s m args below meth c s₁ B hml hv
  obtain ⟨rfl, hsz, hP, hK, hD0⟩ := hv
  have hx := B.exec
  have hb := B.bytes
  have hr := B.returns
  have hts := atoms_spec (ws := wsX2_search) B.pre
  have hown : s.vm.findClass RX2 = some m.cls := findClass_of_methodNamed B.named
  have hlocks := B.notSynchronized
  subst hsz
  have hD := hD0.self (sz := s.heap.size)
  generalize hAe : va_A [eO nO 1 [.ref nQt, .ref nQn, .ref nQg, .ref nQl, .int (zI nz), .int (zI nr), .int (zI nb), .int (zI ne)], eA nQt (cy 0) 7 nT, eA nQn (cy 0) 7 nN, eA nQg (cy 0) 7 nG, eR nQl (cy 4) 7 [nP0, nP1, nP2, nP3, nP4, nP5, nP6], eO nP0 3 [.int (zI (nLU 0)), .int (zI (nLL 0)), .int (zI (nHU 0)), .int (zI (nHL 0))], eO nP1 3 [.int (zI (nLU 1)), .int (zI (nLL 1)), .int (zI (nHU 1)), .int (zI (nHL 1))], eO nP2 3 [.int (zI (nLU 2)), .int (zI (nLL 2)), .int (zI (nHU 2)), .int (zI (nHL 2))], eO nP3 3 [.int (zI (nLU 3)), .int (zI (nLL 3)), .int (zI (nHU 3)), .int (zI (nHL 3))], eO nP4 3 [.int (zI (nLU 4)), .int (zI (nLL 4)), .int (zI (nHU 4)), .int (zI (nHL 4))], eO nP5 3 [.int (zI (nLU 5)), .int (zI (nLL 5)), .int (zI (nHU 5)), .int (zI (nHL 5))], eO nP6 3 [.int (zI (nLU 6)), .int (zI (nLL 6)), .int (zI (nHU 6)), .int (zI (nHL 6))]] s.heap.size = A at hD ⊢
  have hA : ∀ q : Nat, s.heap.size ≤ q → A q := fun q h => by rw [← hAe]; exact Or.inr h
  have hS : va_S A s.heap s.heap [] := va_S.rf
  have hl := lv_entry ([.ref nO, .int (zI p1)]) (n := 4) (Nat.le_of_ble_eq_true rfl)
  rw [lg_entry_eq]
  generalize (lg_sl ([.ref nO, .int (zI p1)]) ++ List.replicate (4 - (lg_sl ([.ref nO, .int (zI p1)])).length) Slot.unset).toArray = ls at hl ⊢
  have hl : lv_has ls 4 [(0, .ref nO), (1, .int (zI p1))] := hl
  have hf := zq_of hf
  have key := zloop (st := st_X2_search nz nr nT) (res := (r, nN', nG', nLU', nLL', nHU', nHL')) (K := fun (x2, x3, nN, nG, nLU, nLL, nHU, nHL) => ∀ (H : Heap) (locs : List Loc) (ls : Array Slot), va_P D vwCl [eO nO 1 [.ref nQt, .ref nQn, .ref nQg, .ref nQl, .int (zI nz), .int (zI nr), .int (zI nb), .int (zI ne)], eA nQt (cy 0) 7 nT, eA nQn (cy 0) 7 nN, eA nQg (cy 0) 7 nG, eR nQl (cy 4) 7 [nP0, nP1, nP2, nP3, nP4, nP5, nP6], eO nP0 3 [.int (zI (nLU 0)), .int (zI (nLL 0)), .int (zI (nHU 0)), .int (zI (nHL 0))], eO nP1 3 [.int (zI (nLU 1)), .int (zI (nLL 1)), .int (zI (nHU 1)), .int (zI (nHL 1))], eO nP2 3 [.int (zI (nLU 2)), .int (zI (nLL 2)), .int (zI (nHU 2)), .int (zI (nHL 2))], eO nP3 3 [.int (zI (nLU 3)), .int (zI (nLL 3)), .int (zI (nHU 3)), .int (zI (nHL 3))], eO nP4 3 [.int (zI (nLU 4)), .int (zI (nLL 4)), .int (zI (nHU 4)), .int (zI (nHL 4))], eO nP5 3 [.int (zI (nLU 5)), .int (zI (nLL 5)), .int (zI (nHU 5)), .int (zI (nHL 5))], eO nP6 3 [.int (zI (nLU 6)), .int (zI (nLL 6)), .int (zI (nHU 6)), .int (zI (nHL 6))]] H → va_D A [eO nO 1 [.ref nQt, .ref nQn, .ref nQg, .ref nQl, .int (zI nz), .int (zI nr), .int (zI nb), .int (zI ne)], eA nQt (cy 0) 7 nT, eA nQn (cy 0) 7 nN, eA nQg (cy 0) 7 nG, eR nQl (cy 4) 7 [nP0, nP1, nP2, nP3, nP4, nP5, nP6], eO nP0 3 [.int (zI (nLU 0)), .int (zI (nLL 0)), .int (zI (nHU 0)), .int (zI (nHL 0))], eO nP1 3 [.int (zI (nLU 1)), .int (zI (nLL 1)), .int (zI (nHU 1)), .int (zI (nHL 1))], eO nP2 3 [.int (zI (nLU 2)), .int (zI (nLL 2)), .int (zI (nHU 2)), .int (zI (nHL 2))], eO nP3 3 [.int (zI (nLU 3)), .int (zI (nLL 3)), .int (zI (nHU 3)), .int (zI (nHL 3))], eO nP4 3 [.int (zI (nLU 4)), .int (zI (nLL 4)), .int (zI (nHU 4)), .int (zI (nHL 4))], eO nP5 3 [.int (zI (nLU 5)), .int (zI (nLL 5)), .int (zI (nHU 5)), .int (zI (nHL 5))], eO nP6 3 [.int (zI (nLU 6)), .int (zI (nLL 6)), .int (zI (nHU 6)), .int (zI (nHL 6))]] → va_S A s.heap H locs → lv_has ls 4 [(0, .ref nO), (1, .int (zI p1)), (2, .int (zI x2)), (3, .int (zI x3))] → zGi p l e wsX2_search ({ frames := 2, cells := 0, slots := 0, locals := 47 }) s m [.ref nO, .int (zI p1)] below meth c A D [eO nO 1 [.ref nQt, .ref nQn, .ref nQg, .ref nQl, .int (zI nz), .int (zI nr), .int (zI nb), .int (zI ne)], eA nQt (cy 0) 7 nT, eA nQn (cy 0) 7 nN', eA nQg (cy 0) 7 nG', eR nQl (cy 4) 7 [nP0, nP1, nP2, nP3, nP4, nP5, nP6], eO nP0 3 [.int (zI (nLU' 0)), .int (zI (nLL' 0)), .int (zI (nHU' 0)), .int (zI (nHL' 0))], eO nP1 3 [.int (zI (nLU' 1)), .int (zI (nLL' 1)), .int (zI (nHU' 1)), .int (zI (nHL' 1))], eO nP2 3 [.int (zI (nLU' 2)), .int (zI (nLL' 2)), .int (zI (nHU' 2)), .int (zI (nHL' 2))], eO nP3 3 [.int (zI (nLU' 3)), .int (zI (nLL' 3)), .int (zI (nHU' 3)), .int (zI (nHL' 3))], eO nP4 3 [.int (zI (nLU' 4)), .int (zI (nLL' 4)), .int (zI (nHU' 4)), .int (zI (nHL' 4))], eO nP5 3 [.int (zI (nLU' 5)), .int (zI (nLL' 5)), .int (zI (nHU' 5)), .int (zI (nHL' 5))], eO nP6 3 [.int (zI (nLU' 6)), .int (zI (nLL' 6)), .int (zI (nHU' 6)), .int (zI (nHL' 6))]] (zI r) H locs (F0 m 4 ls [])) (by
    rintro ⟨x2, x3, nN, nG, nLU, nLL, nHU, nHL⟩ hf
    intro H locs ls hP hD hS hl
    unfold st_X2_search at hf
    try dsimp only at hf
    refine lv_iload_n hx hb dX2_search_4 rfl (lv_at hl 3 rfl) ?_
    refine lv_ldc (v := zI 1000000) hx hb hown (hts _ m_X2_search_1) dX2_search_5 ?_
    refine zz_icmp_ge (tgt := 80) hx hb dX2_search_7 (by decide) hf (fun hc hf => ?_) (fun hc hf => ?_)
    · refine lv_iload_n hx hb dX2_search_10 rfl (lv_at hl 2 rfl) ?_
      refine lv_iconst (v := zI 1) hx hb dX2_search_11 rfl ?_
      refine zz_icmp_lt (tgt := 80) hx hb dX2_search_12 (by decide) hf (fun hc hf => ?_) (fun hc hf => ?_)
      · refine lv_iconst (v := zI 0) hx hb dX2_search_80 rfl ?_
        have hf := zq_some hf
        cases hf
        exact W.zret hx hb hr rfl (fun t ht hW => ⟨⟨_, (), rfl, rfl, by rw [ht]; exact hP, hD⟩, hS.F ht⟩) hS.2.2 dX2_search_81
      · refine lv_aload_n hx hb dX2_search_15 rfl (lv_at hl 0 rfl) ?_
        refine va_get (D := D) (ci := 1) (v := .ref nQn) (C := RX2) (T := TX2) (N := 8) hx hb hts u_X2_search_X2 hown hK.1 hP 0 rfl rfl 1 (by decide) (hts _ m_X2_search_2) (fun _ h9 => h9) rfl dX2_search_16 ?_
        refine lv_iload_n hx hb dX2_search_19 rfl (lv_at hl 2 rfl) ?_
        obtain ⟨hg, hf⟩ := zq_gd hf
        refine zz_iald (i := x2) hx hb hK hP 2 rfl (Nat.le_of_ble_eq_true rfl) hg dX2_search_20 ?_
        refine lv_aload_n hx hb dX2_search_21 rfl (lv_at hl 0 rfl) ?_
        refine va_get (D := D) (ci := 1) (v := .ref nQg) (C := RX2) (T := TX2) (N := 8) hx hb hts u_X2_search_X2 hown hK.1 hP 0 rfl rfl 2 (by decide) (hts _ m_X2_search_3) (fun _ h9 => h9) rfl dX2_search_22 ?_
        refine lv_iload_n hx hb dX2_search_25 rfl (lv_at hl 2 rfl) ?_
        obtain ⟨hg, hf⟩ := zq_gd hf
        refine zz_iald (i := x2) hx hb hK hP 3 rfl (Nat.le_of_ble_eq_true rfl) hg dX2_search_26 ?_
        refine zz_icmp_lt (tgt := 36) hx hb dX2_search_27 (by decide) hf (fun hc hf => ?_) (fun hc hf => ?_)
        · refine lv_aload_n hx hb dX2_search_36 rfl (lv_at hl 0 rfl) ?_
          refine va_get (D := D) (ci := 1) (v := .ref nQn) (C := RX2) (T := TX2) (N := 8) hx hb hts u_X2_search_X2 hown hK.1 hP 0 rfl rfl 1 (by decide) (hts _ m_X2_search_2) (fun _ h9 => h9) rfl dX2_search_37 ?_
          refine lv_iload_n hx hb dX2_search_40 rfl (lv_at hl 2 rfl) ?_
          refine lv_dup2_11 hx hb dX2_search_41 rfl rfl ?_
          obtain ⟨hg, hf⟩ := zq_gd hf
          refine zz_iald (i := x2) hx hb hK hP 2 rfl (Nat.le_of_ble_eq_true rfl) hg dX2_search_42 ?_
          refine lv_iconst (v := zI 1) hx hb dX2_search_43 rfl ?_
          refine zz_iadd hx hb dX2_search_44 ?_
          obtain ⟨hg, hf⟩ := zq_gd hf
          refine zz_iast (i := x2) hx hb hK hP hD hS 2 rfl (Nat.le_of_ble_eq_true rfl) hg dX2_search_45 (fun H locs hP hD hS => ?_)
          have hP : va_P D vwCl [eO nO 1 [.ref nQt, .ref nQn, .ref nQg, .ref nQl, .int (zI nz), .int (zI nr), .int (zI nb), .int (zI ne)], eA nQt (cy 0) 7 nT, eA nQn (cy 0) 7 (zup nN x2 ((nN (Int.toNat x2)) + 1)), eA nQg (cy 0) 7 nG, eR nQl (cy 4) 7 [nP0, nP1, nP2, nP3, nP4, nP5, nP6], eO nP0 3 [.int (zI (nLU 0)), .int (zI (nLL 0)), .int (zI (nHU 0)), .int (zI (nHL 0))], eO nP1 3 [.int (zI (nLU 1)), .int (zI (nLL 1)), .int (zI (nHU 1)), .int (zI (nHL 1))], eO nP2 3 [.int (zI (nLU 2)), .int (zI (nLL 2)), .int (zI (nHU 2)), .int (zI (nHL 2))], eO nP3 3 [.int (zI (nLU 3)), .int (zI (nLL 3)), .int (zI (nHU 3)), .int (zI (nHL 3))], eO nP4 3 [.int (zI (nLU 4)), .int (zI (nLL 4)), .int (zI (nHU 4)), .int (zI (nHL 4))], eO nP5 3 [.int (zI (nLU 5)), .int (zI (nLL 5)), .int (zI (nHU 5)), .int (zI (nHL 5))], eO nP6 3 [.int (zI (nLU 6)), .int (zI (nLL 6)), .int (zI (nHU 6)), .int (zI (nHL 6))]] H := hP
          have hD : va_D A [eO nO 1 [.ref nQt, .ref nQn, .ref nQg, .ref nQl, .int (zI nz), .int (zI nr), .int (zI nb), .int (zI ne)], eA nQt (cy 0) 7 nT, eA nQn (cy 0) 7 (zup nN x2 ((nN (Int.toNat x2)) + 1)), eA nQg (cy 0) 7 nG, eR nQl (cy 4) 7 [nP0, nP1, nP2, nP3, nP4, nP5, nP6], eO nP0 3 [.int (zI (nLU 0)), .int (zI (nLL 0)), .int (zI (nHU 0)), .int (zI (nHL 0))], eO nP1 3 [.int (zI (nLU 1)), .int (zI (nLL 1)), .int (zI (nHU 1)), .int (zI (nHL 1))], eO nP2 3 [.int (zI (nLU 2)), .int (zI (nLL 2)), .int (zI (nHU 2)), .int (zI (nHL 2))], eO nP3 3 [.int (zI (nLU 3)), .int (zI (nLL 3)), .int (zI (nHU 3)), .int (zI (nHL 3))], eO nP4 3 [.int (zI (nLU 4)), .int (zI (nLL 4)), .int (zI (nHU 4)), .int (zI (nHL 4))], eO nP5 3 [.int (zI (nLU 5)), .int (zI (nLL 5)), .int (zI (nHU 5)), .int (zI (nHL 5))], eO nP6 3 [.int (zI (nLU 6)), .int (zI (nLL 6)), .int (zI (nHU 6)), .int (zI (nHL 6))]] := hD
          refine lv_aload_n hx hb dX2_search_46 rfl (lv_at hl 0 rfl) ?_
          refine lv_iload_n hx hb dX2_search_47 rfl (lv_at hl 2 rfl) ?_
          obtain ⟨⟨r48, nLU_48, nLL_48, nHU_48, nHL_48⟩, hc48, hf⟩ := zq_bind hf
          refine zcallVi (wr := [eA nQg (cy 0) 7 nG]) (rest := []) ⟨hx, hb, hml, hown, hts⟩ (c_X2_fits l D cy nO nQt nQn nQg nQl nP0 nP1 nP2 nP3 nP4 nP5 nP6 H.size x2 nz nr nb ne nT (zup nN x2 ((nN (Int.toNat x2)) + 1)) nLU nLL nHU nHL hc48) (cwV 1 hts gX2_search_X2_fits rfl rfl rfl (by decide +kernel) ⟨Nat.le_of_ble_eq_true rfl, Nat.le_of_ble_eq_true rfl⟩) hK hP hD hS hA [0, 1, 2, 4, 5, 6, 7, 8, 9, 10, 11] [3] rfl rfl rfl rfl (by decide) (va_recv hK.1 hP (ci := 1) (q0 := 0) rfl rfl) rfl hl.1 rfl (Nat.le_of_ble_eq_true rfl) dX2_search_48 ⟨Nat.zero_le _, Nat.zero_le _⟩ (fun H locs hP hD hS => ?_)
          have hP : va_P D vwCl [eO nO 1 [.ref nQt, .ref nQn, .ref nQg, .ref nQl, .int (zI nz), .int (zI nr), .int (zI nb), .int (zI ne)], eA nQt (cy 0) 7 nT, eA nQn (cy 0) 7 (zup nN x2 ((nN (Int.toNat x2)) + 1)), eA nQg (cy 0) 7 nG, eR nQl (cy 4) 7 [nP0, nP1, nP2, nP3, nP4, nP5, nP6], eO nP0 3 [.int (zI (nLU_48 0)), .int (zI (nLL_48 0)), .int (zI (nHU_48 0)), .int (zI (nHL_48 0))], eO nP1 3 [.int (zI (nLU_48 1)), .int (zI (nLL_48 1)), .int (zI (nHU_48 1)), .int (zI (nHL_48 1))], eO nP2 3 [.int (zI (nLU_48 2)), .int (zI (nLL_48 2)), .int (zI (nHU_48 2)), .int (zI (nHL_48 2))], eO nP3 3 [.int (zI (nLU_48 3)), .int (zI (nLL_48 3)), .int (zI (nHU_48 3)), .int (zI (nHL_48 3))], eO nP4 3 [.int (zI (nLU_48 4)), .int (zI (nLL_48 4)), .int (zI (nHU_48 4)), .int (zI (nHL_48 4))], eO nP5 3 [.int (zI (nLU_48 5)), .int (zI (nLL_48 5)), .int (zI (nHU_48 5)), .int (zI (nHL_48 5))], eO nP6 3 [.int (zI (nLU_48 6)), .int (zI (nLL_48 6)), .int (zI (nHU_48 6)), .int (zI (nHL_48 6))]] H := hP.sub [1, 2, 3, 0, 4, 5, 6, 7, 8, 9, 10, 11] rfl
          have hD : va_D A [eO nO 1 [.ref nQt, .ref nQn, .ref nQg, .ref nQl, .int (zI nz), .int (zI nr), .int (zI nb), .int (zI ne)], eA nQt (cy 0) 7 nT, eA nQn (cy 0) 7 (zup nN x2 ((nN (Int.toNat x2)) + 1)), eA nQg (cy 0) 7 nG, eR nQl (cy 4) 7 [nP0, nP1, nP2, nP3, nP4, nP5, nP6], eO nP0 3 [.int (zI (nLU_48 0)), .int (zI (nLL_48 0)), .int (zI (nHU_48 0)), .int (zI (nHL_48 0))], eO nP1 3 [.int (zI (nLU_48 1)), .int (zI (nLL_48 1)), .int (zI (nHU_48 1)), .int (zI (nHL_48 1))], eO nP2 3 [.int (zI (nLU_48 2)), .int (zI (nLL_48 2)), .int (zI (nHU_48 2)), .int (zI (nHL_48 2))], eO nP3 3 [.int (zI (nLU_48 3)), .int (zI (nLL_48 3)), .int (zI (nHU_48 3)), .int (zI (nHL_48 3))], eO nP4 3 [.int (zI (nLU_48 4)), .int (zI (nLL_48 4)), .int (zI (nHU_48 4)), .int (zI (nHL_48 4))], eO nP5 3 [.int (zI (nLU_48 5)), .int (zI (nLL_48 5)), .int (zI (nHU_48 5)), .int (zI (nHL_48 5))], eO nP6 3 [.int (zI (nLU_48 6)), .int (zI (nLL_48 6)), .int (zI (nHU_48 6)), .int (zI (nHL_48 6))]] := hD.sub [1, 2, 3, 0, 4, 5, 6, 7, 8, 9, 10, 11] rfl rfl
          refine zz_if_eq (tgt := 74) hx hb dX2_search_51 (by decide) hf (fun hc hf => ?_) (fun hc hf => ?_)
          · refine lv_iinc (v := zI (x3 + 1)) (lv' := [(3, .int (zI (x3 + 1))), (0, .ref nO), (1, .int (zI p1)), (2, .int (zI x2))]) hx hb dX2_search_74 hl (k := 3) rfl (zI_add _ _) (by decide) rfl (fun ls hl => ?_)
            refine lv_goto (tgt := 4) hx hb dX2_search_77 (by decide) ?_
            have hf := zq_some hf
            exact hf _ _ _ hP hD hS (lv_sub hl [1, 2, 3, 0] rfl)
          · refine lv_iload_n hx hb dX2_search_54 rfl (lv_at hl 2 rfl) ?_
            refine lv_aload_n hx hb dX2_search_55 rfl (lv_at hl 0 rfl) ?_
            refine va_get (D := D) (ci := 1) (v := .int (zI nz)) (C := RX2) (T := TX2) (N := 8) hx hb hts u_X2_search_X2 hown hK.1 hP 0 rfl rfl 4 (by decide) (hts _ m_X2_search_4) (fun _ h9 => h9) rfl dX2_search_56 ?_
            refine lv_iconst (v := zI 1) hx hb dX2_search_59 rfl ?_
            refine zz_isub hx hb dX2_search_60 ?_
            refine zz_icmp_ne (tgt := 66) hx hb dX2_search_61 (by decide) hf (fun hc hf => ?_) (fun hc hf => ?_)
            · refine lv_iconst (v := zI 1) hx hb dX2_search_64 rfl ?_
              have hf := zq_some hf
              cases hf
              exact W.zret hx hb hr rfl (fun t ht hW => ⟨⟨_, (), rfl, rfl, by rw [ht]; exact hP, hD⟩, hS.F ht⟩) hS.2.2 dX2_search_65
            · refine lv_iinc (v := zI (x2 + 1)) (lv' := [(2, .int (zI (x2 + 1))), (0, .ref nO), (1, .int (zI p1)), (3, .int (zI x3))]) hx hb dX2_search_66 hl (k := 2) rfl (zI_add _ _) (by decide) rfl (fun ls hl => ?_)
              refine lv_aload_n hx hb dX2_search_69 rfl (lv_at hl 1 rfl) ?_
              refine lv_iload_n hx hb dX2_search_70 rfl (lv_at hl 0 rfl) ?_
              obtain ⟨⟨nN_71, nG_71⟩, hc71, hf⟩ := zq_bind hf
              refine zcallVv (wr := []) (rest := []) ⟨hx, hb, hml, hown, hts⟩ (c_X2_open l D cy nO nQt nQn nQg nQl nP0 nP1 nP2 nP3 nP4 nP5 nP6 H.size (x2 + 1) nz nr nb ne nT (zup nN x2 ((nN (Int.toNat x2)) + 1)) nG nLU_48 nLL_48 nHU_48 nHL_48 hc71) (cwV 1 hts gX2_search_X2_open rfl rfl rfl (by decide +kernel) ⟨Nat.le_of_ble_eq_true rfl, Nat.le_of_ble_eq_true rfl⟩) hK hP hD hS hA [0, 1, 2, 3, 4, 5, 6, 7, 8, 9, 10, 11] [] rfl rfl rfl rfl (by decide) (va_recv hK.1 hP (ci := 1) (q0 := 0) rfl rfl) rfl hl.1 rfl (Nat.le_of_ble_eq_true rfl) dX2_search_71 ⟨Nat.zero_le _, Nat.zero_le _⟩ (fun H locs hP hD hS => ?_)
              have hP : va_P D vwCl [eO nO 1 [.ref nQt, .ref nQn, .ref nQg, .ref nQl, .int (zI nz), .int (zI nr), .int (zI nb), .int (zI ne)], eA nQt (cy 0) 7 nT, eA nQn (cy 0) 7 nN_71, eA nQg (cy 0) 7 nG_71, eR nQl (cy 4) 7 [nP0, nP1, nP2, nP3, nP4, nP5, nP6], eO nP0 3 [.int (zI (nLU_48 0)), .int (zI (nLL_48 0)), .int (zI (nHU_48 0)), .int (zI (nHL_48 0))], eO nP1 3 [.int (zI (nLU_48 1)), .int (zI (nLL_48 1)), .int (zI (nHU_48 1)), .int (zI (nHL_48 1))], eO nP2 3 [.int (zI (nLU_48 2)), .int (zI (nLL_48 2)), .int (zI (nHU_48 2)), .int (zI (nHL_48 2))], eO nP3 3 [.int (zI (nLU_48 3)), .int (zI (nLL_48 3)), .int (zI (nHU_48 3)), .int (zI (nHL_48 3))], eO nP4 3 [.int (zI (nLU_48 4)), .int (zI (nLL_48 4)), .int (zI (nHU_48 4)), .int (zI (nHL_48 4))], eO nP5 3 [.int (zI (nLU_48 5)), .int (zI (nLL_48 5)), .int (zI (nHU_48 5)), .int (zI (nHL_48 5))], eO nP6 3 [.int (zI (nLU_48 6)), .int (zI (nLL_48 6)), .int (zI (nHU_48 6)), .int (zI (nHL_48 6))]] H := hP.sub [0, 1, 2, 3, 4, 5, 6, 7, 8, 9, 10, 11] rfl
              have hD : va_D A [eO nO 1 [.ref nQt, .ref nQn, .ref nQg, .ref nQl, .int (zI nz), .int (zI nr), .int (zI nb), .int (zI ne)], eA nQt (cy 0) 7 nT, eA nQn (cy 0) 7 nN_71, eA nQg (cy 0) 7 nG_71, eR nQl (cy 4) 7 [nP0, nP1, nP2, nP3, nP4, nP5, nP6], eO nP0 3 [.int (zI (nLU_48 0)), .int (zI (nLL_48 0)), .int (zI (nHU_48 0)), .int (zI (nHL_48 0))], eO nP1 3 [.int (zI (nLU_48 1)), .int (zI (nLL_48 1)), .int (zI (nHU_48 1)), .int (zI (nHL_48 1))], eO nP2 3 [.int (zI (nLU_48 2)), .int (zI (nLL_48 2)), .int (zI (nHU_48 2)), .int (zI (nHL_48 2))], eO nP3 3 [.int (zI (nLU_48 3)), .int (zI (nLL_48 3)), .int (zI (nHU_48 3)), .int (zI (nHL_48 3))], eO nP4 3 [.int (zI (nLU_48 4)), .int (zI (nLL_48 4)), .int (zI (nHU_48 4)), .int (zI (nHL_48 4))], eO nP5 3 [.int (zI (nLU_48 5)), .int (zI (nLL_48 5)), .int (zI (nHU_48 5)), .int (zI (nHL_48 5))], eO nP6 3 [.int (zI (nLU_48 6)), .int (zI (nLL_48 6)), .int (zI (nHU_48 6)), .int (zI (nHL_48 6))]] := hD.sub [0, 1, 2, 3, 4, 5, 6, 7, 8, 9, 10, 11] rfl rfl
              refine lv_iinc (v := zI (x3 + 1)) (lv' := [(3, .int (zI (x3 + 1))), (2, .int (zI (x2 + 1))), (0, .ref nO), (1, .int (zI p1))]) hx hb dX2_search_74 hl (k := 3) rfl (zI_add _ _) (by decide) rfl (fun ls hl => ?_)
              refine lv_goto (tgt := 4) hx hb dX2_search_77 (by decide) ?_
              have hf := zq_some hf
              exact hf _ _ _ hP hD hS (lv_sub hl [2, 3, 1, 0] rfl)
        · refine lv_iinc (v := zI (x2 + (-1))) (lv' := [(2, .int (zI (x2 + (-1)))), (0, .ref nO), (1, .int (zI p1)), (3, .int (zI x3))]) hx hb dX2_search_30 hl (k := 2) rfl (zI_add _ _) (by decide) rfl (fun ls hl => ?_)
          refine lv_goto (tgt := 74) hx hb dX2_search_33 (by decide) ?_
          refine lv_iinc (v := zI (x3 + 1)) (lv' := [(3, .int (zI (x3 + 1))), (2, .int (zI (x2 + (-1)))), (0, .ref nO), (1, .int (zI p1))]) hx hb dX2_search_74 hl (k := 3) rfl (zI_add _ _) (by decide) rfl (fun ls hl => ?_)
          refine lv_goto (tgt := 4) hx hb dX2_search_77 (by decide) ?_
          have hf := zq_some hf
          exact hf _ _ _ hP hD hS (lv_sub hl [2, 3, 1, 0] rfl)
    · refine lv_iconst (v := zI 0) hx hb dX2_search_80 rfl ?_
      have hf := zq_some hf
      cases hf
      exact W.zret hx hb hr rfl (fun t ht hW => ⟨⟨_, (), rfl, rfl, by rw [ht]; exact hP, hD⟩, hS.F ht⟩) hS.2.2 dX2_search_81
    )
  unfold f_X2_search at hf
  refine lv_iload_n hx hb dX2_search_0 rfl (lv_at hl 1 rfl) ?_
  refine lv_istore_n (lv' := [(2, .int (zI p1)), (0, .ref nO), (1, .int (zI p1))]) hx hb dX2_search_1 rfl hl (by decide) rfl (fun ls hl => ?_)
  refine lv_iconst (v := zI 0) hx hb dX2_search_2 rfl ?_
  refine lv_istore_n (lv' := [(3, .int (zI 0)), (2, .int (zI p1)), (0, .ref nO), (1, .int (zI p1))]) hx hb dX2_search_3 rfl hl (by decide) rfl (fun ls hl => ?_)
  exact key _ (zq_eq hf) _ _ _ hP hD hS (lv_sub hl [2, 3, 1, 0] rfl)

noncomputable def f_X2_next (nz : Int) (nr : Int) (nb : Int) (ne : Int) (nT : Nat → Int) (nN : Nat → Int) (nG : Nat → Int) (nLU : Nat → Int) (nLL : Nat → Int) (nHU : Nat → Int) (nHL : Nat → Int) : Option (Int × Int × Int × (Nat → Int) × (Nat → Int) × (Nat → Int) × (Nat → Int) × (Nat → Int) × (Nat → Int)) :=
  gd (zR ne) <|
  if ne = 0 then
    zlt (nz - 1) fun v15 =>
    gd (zR nb) <|
    if nb = 0 then
      gd (zR nz ∧ zR 1) <|
      if nz = 1 then
        some (1, 1, ne, nN, nG, nLU, nLL, nHU, nHL)
      else
        (f_X2_open 1 nr nT nN nG nLU nLL nHU nHL).bind fun (nN_40, nG_40) =>
        (f_X2_search 1 nz nr nT nN_40 nG_40 nLU nLL nHU nHL).bind fun (r48, nN_48, nG_48, nLU_48, nLL_48, nHU_48, nHL_48) =>
        gd (zR r48) <|
        if r48 = 0 then
          gd (zR 1) <|
          if (1 : Int) = 0 then
            some (1, 1, 1, nN_48, nG_48, nLU_48, nLL_48, nHU_48, nHL_48)
          else
            some (0, 1, 1, nN_48, nG_48, nLU_48, nLL_48, nHU_48, nHL_48)
        else
          gd (zR 0) <|
          if (0 : Int) = 0 then
            some (1, 1, 0, nN_48, nG_48, nLU_48, nLL_48, nHU_48, nHL_48)
          else
            some (0, 1, 0, nN_48, nG_48, nLU_48, nLL_48, nHU_48, nHL_48)
    else
      (f_X2_search v15 nz nr nT nN nG nLU nLL nHU nHL).bind fun (r48, nN_48, nG_48, nLU_48, nLL_48, nHU_48, nHL_48) =>
      gd (zR r48) <|
      if r48 = 0 then
        gd (zR 1) <|
        if (1 : Int) = 0 then
          some (1, nb, 1, nN_48, nG_48, nLU_48, nLL_48, nHU_48, nHL_48)
        else
          some (0, nb, 1, nN_48, nG_48, nLU_48, nLL_48, nHU_48, nHL_48)
      else
        gd (zR 0) <|
        if (0 : Int) = 0 then
          some (1, nb, 0, nN_48, nG_48, nLU_48, nLL_48, nHU_48, nHL_48)
        else
          some (0, nb, 0, nN_48, nG_48, nLU_48, nLL_48, nHU_48, nHL_48)
  else
    some (0, nb, ne, nN, nG, nLU, nLL, nHU, nHL)
theorem m_X2_next_1 : (.fieldLink RX2 46 "PulseTurns$Numberings" "ended" "Z" : Cond) ∈ wsX2_next := List.mem_of_getElem? (i := 1) rfl
theorem m_X2_next_2 : (.fieldLink RX2 35 "PulseTurns$Numberings" "size" "I" : Cond) ∈ wsX2_next := List.mem_of_getElem? (i := 2) rfl
theorem m_X2_next_3 : (.fieldLink RX2 42 "PulseTurns$Numberings" "begun" "Z" : Cond) ∈ wsX2_next := List.mem_of_getElem? (i := 3) rfl
theorem u_X2_next_X2 : ∀ w ∈ wsX20, w ∈ wsX2_next := fun w h => List.mem_cons_of_mem _ (List.mem_append_left _ (List.mem_append_right _ h))
set_option maxRecDepth 100000 in
set_option maxHeartbeats 4000000 in
theorem c_X2_next (l : Launch) (D : va_G) (cy : Nat → ClassId) (nO nQt nQn nQg nQl nP0 nP1 nP2 nP3 nP4 nP5 nP6 : Nat) (sz : Nat) (nz : Int) (nr : Int) (nb : Int) (ne : Int) (nT : Nat → Int) (nN : Nat → Int) (nG : Nat → Int) (nLU : Nat → Int) (nLL : Nat → Int) (nHU : Nat → Int) (nHL : Nat → Int) {r : Int} {nb' : Int} {ne' : Int} {nN' : Nat → Int} {nG' : Nat → Int} {nLU' : Nat → Int} {nLL' : Nat → Int} {nHU' : Nat → Int} {nHL' : Nat → Int} (hf : f_X2_next nz nr nb ne nT nN nG nLU nLL nHU nHL = some (r, nb', ne', nN', nG', nLU', nLL', nHU', nHL')) : zMi l yX2_next wsX2_next ({ frames := 3, cells := 0, slots := 0, locals := 70 }) D cy sz [.ref nO] [eO nO 1 [.ref nQt, .ref nQn, .ref nQg, .ref nQl, .int (zI nz), .int (zI nr), .int (zI nb), .int (zI ne)], eA nQt (cy 0) 7 nT, eA nQn (cy 0) 7 nN, eA nQg (cy 0) 7 nG, eR nQl (cy 4) 7 [nP0, nP1, nP2, nP3, nP4, nP5, nP6], eO nP0 3 [.int (zI (nLU 0)), .int (zI (nLL 0)), .int (zI (nHU 0)), .int (zI (nHL 0))], eO nP1 3 [.int (zI (nLU 1)), .int (zI (nLL 1)), .int (zI (nHU 1)), .int (zI (nHL 1))], eO nP2 3 [.int (zI (nLU 2)), .int (zI (nLL 2)), .int (zI (nHU 2)), .int (zI (nHL 2))], eO nP3 3 [.int (zI (nLU 3)), .int (zI (nLL 3)), .int (zI (nHU 3)), .int (zI (nHL 3))], eO nP4 3 [.int (zI (nLU 4)), .int (zI (nLL 4)), .int (zI (nHU 4)), .int (zI (nHL 4))], eO nP5 3 [.int (zI (nLU 5)), .int (zI (nLL 5)), .int (zI (nHU 5)), .int (zI (nHL 5))], eO nP6 3 [.int (zI (nLU 6)), .int (zI (nLL 6)), .int (zI (nHU 6)), .int (zI (nHL 6))]] [eO nO 1 [.ref nQt, .ref nQn, .ref nQg, .ref nQl, .int (zI nz), .int (zI nr), .int (zI nb'), .int (zI ne')], eA nQt (cy 0) 7 nT, eA nQn (cy 0) 7 nN', eA nQg (cy 0) 7 nG', eR nQl (cy 4) 7 [nP0, nP1, nP2, nP3, nP4, nP5, nP6], eO nP0 3 [.int (zI (nLU' 0)), .int (zI (nLL' 0)), .int (zI (nHU' 0)), .int (zI (nHL' 0))], eO nP1 3 [.int (zI (nLU' 1)), .int (zI (nLL' 1)), .int (zI (nHU' 1)), .int (zI (nHL' 1))], eO nP2 3 [.int (zI (nLU' 2)), .int (zI (nLL' 2)), .int (zI (nHU' 2)), .int (zI (nHL' 2))], eO nP3 3 [.int (zI (nLU' 3)), .int (zI (nLL' 3)), .int (zI (nHU' 3)), .int (zI (nHL' 3))], eO nP4 3 [.int (zI (nLU' 4)), .int (zI (nLL' 4)), .int (zI (nHU' 4)), .int (zI (nHL' 4))], eO nP5 3 [.int (zI (nLU' 5)), .int (zI (nLL' 5)), .int (zI (nHU' 5)), .int (zI (nHL' 5))], eO nP6 3 [.int (zI (nLU' 6)), .int (zI (nLL' 6)), .int (zI (nHU' 6)), .int (zI (nHL' 6))]] (zI r) := by
  refine Met.ofW (cc := cX2_next) (maxL := 2) (ret := (some .boolean)) (by decide) rfl ?_
  intro p e s m args below meth c s₁ B hml hv
  obtain ⟨rfl, hsz, hP, hK, hD0⟩ := hv
  have hx := B.exec
  have hb := B.bytes
  have hr := B.returns
  have hts := atoms_spec (ws := wsX2_next) B.pre
  have hown : s.vm.findClass RX2 = some m.cls := findClass_of_methodNamed B.named
  have hlocks := B.notSynchronized
  subst hsz
  have hD := hD0.self (sz := s.heap.size)
  generalize hAe : va_A [eO nO 1 [.ref nQt, .ref nQn, .ref nQg, .ref nQl, .int (zI nz), .int (zI nr), .int (zI nb), .int (zI ne)], eA nQt (cy 0) 7 nT, eA nQn (cy 0) 7 nN, eA nQg (cy 0) 7 nG, eR nQl (cy 4) 7 [nP0, nP1, nP2, nP3, nP4, nP5, nP6], eO nP0 3 [.int (zI (nLU 0)), .int (zI (nLL 0)), .int (zI (nHU 0)), .int (zI (nHL 0))], eO nP1 3 [.int (zI (nLU 1)), .int (zI (nLL 1)), .int (zI (nHU 1)), .int (zI (nHL 1))], eO nP2 3 [.int (zI (nLU 2)), .int (zI (nLL 2)), .int (zI (nHU 2)), .int (zI (nHL 2))], eO nP3 3 [.int (zI (nLU 3)), .int (zI (nLL 3)), .int (zI (nHU 3)), .int (zI (nHL 3))], eO nP4 3 [.int (zI (nLU 4)), .int (zI (nLL 4)), .int (zI (nHU 4)), .int (zI (nHL 4))], eO nP5 3 [.int (zI (nLU 5)), .int (zI (nLL 5)), .int (zI (nHU 5)), .int (zI (nHL 5))], eO nP6 3 [.int (zI (nLU 6)), .int (zI (nLL 6)), .int (zI (nHU 6)), .int (zI (nHL 6))]] s.heap.size = A at hD ⊢
  have hA : ∀ q : Nat, s.heap.size ≤ q → A q := fun q h => by rw [← hAe]; exact Or.inr h
  have hS : va_S A s.heap s.heap [] := va_S.rf
  have hl := lv_entry ([.ref nO]) (n := 2) (Nat.le_of_ble_eq_true rfl)
  rw [lg_entry_eq]
  generalize (lg_sl ([.ref nO]) ++ List.replicate (2 - (lg_sl ([.ref nO])).length) Slot.unset).toArray = ls at hl ⊢
  have hl : lv_has ls 2 [(0, .ref nO)] := hl
  have hf := zq_of hf
  unfold f_X2_next at hf
  refine lv_aload_n hx hb dX2_next_0 rfl (lv_at hl 0 rfl) ?_
  refine va_get (D := D) (ci := 1) (v := .int (zI ne)) (C := RX2) (T := TX2) (N := 8) hx hb hts u_X2_next_X2 hown hK.1 hP 0 rfl rfl 7 (by decide) (hts _ m_X2_next_1) (fun _ h9 => h9) rfl dX2_next_1 ?_
  refine zz_if_eq (tgt := 9) hx hb dX2_next_4 (by decide) hf (fun hc hf => ?_) (fun hc hf => ?_)
  · refine lv_aload_n hx hb dX2_next_9 rfl (lv_at hl 0 rfl) ?_
    refine va_get (D := D) (ci := 1) (v := .int (zI nz)) (C := RX2) (T := TX2) (N := 8) hx hb hts u_X2_next_X2 hown hK.1 hP 0 rfl rfl 4 (by decide) (hts _ m_X2_next_2) (fun _ h9 => h9) rfl dX2_next_10 ?_
    refine lv_iconst (v := zI 1) hx hb dX2_next_13 rfl ?_
    refine zz_isub hx hb dX2_next_14 ?_
    obtain ⟨v15, e15, hf⟩ := zq_lt hf
    refine zz_top e15 ?_
    refine lv_istore_n (lv' := [(1, .int (zI v15)), (0, .ref nO)]) hx hb dX2_next_15 rfl hl (by decide) rfl (fun ls hl => ?_)
    refine lv_aload_n hx hb dX2_next_16 rfl (lv_at hl 1 rfl) ?_
    refine va_get (D := D) (ci := 1) (v := .int (zI nb)) (C := RX2) (T := TX2) (N := 8) hx hb hts u_X2_next_X2 hown hK.1 hP 0 rfl rfl 6 (by decide) (hts _ m_X2_next_3) (fun _ h9 => h9) rfl dX2_next_17 ?_
    refine zz_if_ne (tgt := 45) hx hb dX2_next_20 (by decide) hf (fun hc hf => ?_) (fun hc hf => ?_)
    · refine lv_aload_n hx hb dX2_next_23 rfl (lv_at hl 1 rfl) ?_
      refine lv_iconst (v := zI 1) hx hb dX2_next_24 rfl ?_
      refine va_put (D := D) (ci := 1) (v := .int (zI 1)) (ty := .boolean) (C := RX2) (T := TX2) (N := 8) hx hb hts u_X2_next_X2 tyX2 tyX2_ok nmX2 hown hK.1 hP hD hS 0 rfl rfl 6 (by decide) (hts _ m_X2_next_3) (fun _ h9 => h9) rfl (tyX2_ok 6 (by decide)) rfl rfl (Nat.le_of_ble_eq_true rfl) dX2_next_25 (fun H locs hP hD hS => ?_)
      have hP : va_P D vwCl [eO nO 1 [.ref nQt, .ref nQn, .ref nQg, .ref nQl, .int (zI nz), .int (zI nr), .int (zI 1), .int (zI ne)], eA nQt (cy 0) 7 nT, eA nQn (cy 0) 7 nN, eA nQg (cy 0) 7 nG, eR nQl (cy 4) 7 [nP0, nP1, nP2, nP3, nP4, nP5, nP6], eO nP0 3 [.int (zI (nLU 0)), .int (zI (nLL 0)), .int (zI (nHU 0)), .int (zI (nHL 0))], eO nP1 3 [.int (zI (nLU 1)), .int (zI (nLL 1)), .int (zI (nHU 1)), .int (zI (nHL 1))], eO nP2 3 [.int (zI (nLU 2)), .int (zI (nLL 2)), .int (zI (nHU 2)), .int (zI (nHL 2))], eO nP3 3 [.int (zI (nLU 3)), .int (zI (nLL 3)), .int (zI (nHU 3)), .int (zI (nHL 3))], eO nP4 3 [.int (zI (nLU 4)), .int (zI (nLL 4)), .int (zI (nHU 4)), .int (zI (nHL 4))], eO nP5 3 [.int (zI (nLU 5)), .int (zI (nLL 5)), .int (zI (nHU 5)), .int (zI (nHL 5))], eO nP6 3 [.int (zI (nLU 6)), .int (zI (nLL 6)), .int (zI (nHU 6)), .int (zI (nHL 6))]] H := hP
      have hD : va_D A [eO nO 1 [.ref nQt, .ref nQn, .ref nQg, .ref nQl, .int (zI nz), .int (zI nr), .int (zI 1), .int (zI ne)], eA nQt (cy 0) 7 nT, eA nQn (cy 0) 7 nN, eA nQg (cy 0) 7 nG, eR nQl (cy 4) 7 [nP0, nP1, nP2, nP3, nP4, nP5, nP6], eO nP0 3 [.int (zI (nLU 0)), .int (zI (nLL 0)), .int (zI (nHU 0)), .int (zI (nHL 0))], eO nP1 3 [.int (zI (nLU 1)), .int (zI (nLL 1)), .int (zI (nHU 1)), .int (zI (nHL 1))], eO nP2 3 [.int (zI (nLU 2)), .int (zI (nLL 2)), .int (zI (nHU 2)), .int (zI (nHL 2))], eO nP3 3 [.int (zI (nLU 3)), .int (zI (nLL 3)), .int (zI (nHU 3)), .int (zI (nHL 3))], eO nP4 3 [.int (zI (nLU 4)), .int (zI (nLL 4)), .int (zI (nHU 4)), .int (zI (nHL 4))], eO nP5 3 [.int (zI (nLU 5)), .int (zI (nLL 5)), .int (zI (nHU 5)), .int (zI (nHL 5))], eO nP6 3 [.int (zI (nLU 6)), .int (zI (nLL 6)), .int (zI (nHU 6)), .int (zI (nHL 6))]] := hD
      refine lv_aload_n hx hb dX2_next_28 rfl (lv_at hl 1 rfl) ?_
      refine va_get (D := D) (ci := 1) (v := .int (zI nz)) (C := RX2) (T := TX2) (N := 8) hx hb hts u_X2_next_X2 hown hK.1 hP 0 rfl rfl 4 (by decide) (hts _ m_X2_next_2) (fun _ h9 => h9) rfl dX2_next_29 ?_
      refine lv_iconst (v := zI 1) hx hb dX2_next_32 rfl ?_
      refine zz_icmp_ne (tgt := 38) hx hb dX2_next_33 (by decide) hf (fun hc hf => ?_) (fun hc hf => ?_)
      · refine lv_iconst (v := zI 1) hx hb dX2_next_36 rfl ?_
        have hf := zq_some hf
        cases hf
        exact W.zret hx hb hr rfl (fun t ht hW => ⟨⟨_, (), rfl, rfl, by rw [ht]; exact hP, hD⟩, hS.F ht⟩) hS.2.2 dX2_next_37
      · refine lv_aload_n hx hb dX2_next_38 rfl (lv_at hl 1 rfl) ?_
        refine lv_iconst (v := zI 1) hx hb dX2_next_39 rfl ?_
        obtain ⟨⟨nN_40, nG_40⟩, hc40, hf⟩ := zq_bind hf
        refine zcallVv (wr := []) (rest := []) ⟨hx, hb, hml, hown, hts⟩ (c_X2_open l D cy nO nQt nQn nQg nQl nP0 nP1 nP2 nP3 nP4 nP5 nP6 H.size 1 nz nr 1 ne nT nN nG nLU nLL nHU nHL hc40) (cwV 1 hts gX2_next_X2_open rfl rfl rfl (by decide +kernel) ⟨Nat.le_of_ble_eq_true rfl, Nat.le_of_ble_eq_true rfl⟩) hK hP hD hS hA [0, 1, 2, 3, 4, 5, 6, 7, 8, 9, 10, 11] [] rfl rfl rfl rfl (by decide) (va_recv hK.1 hP (ci := 1) (q0 := 0) rfl rfl) rfl hl.1 rfl (Nat.le_of_ble_eq_true rfl) dX2_next_40 ⟨Nat.zero_le _, Nat.zero_le _⟩ (fun H locs hP hD hS => ?_)
        have hP : va_P D vwCl [eO nO 1 [.ref nQt, .ref nQn, .ref nQg, .ref nQl, .int (zI nz), .int (zI nr), .int (zI 1), .int (zI ne)], eA nQt (cy 0) 7 nT, eA nQn (cy 0) 7 nN_40, eA nQg (cy 0) 7 nG_40, eR nQl (cy 4) 7 [nP0, nP1, nP2, nP3, nP4, nP5, nP6], eO nP0 3 [.int (zI (nLU 0)), .int (zI (nLL 0)), .int (zI (nHU 0)), .int (zI (nHL 0))], eO nP1 3 [.int (zI (nLU 1)), .int (zI (nLL 1)), .int (zI (nHU 1)), .int (zI (nHL 1))], eO nP2 3 [.int (zI (nLU 2)), .int (zI (nLL 2)), .int (zI (nHU 2)), .int (zI (nHL 2))], eO nP3 3 [.int (zI (nLU 3)), .int (zI (nLL 3)), .int (zI (nHU 3)), .int (zI (nHL 3))], eO nP4 3 [.int (zI (nLU 4)), .int (zI (nLL 4)), .int (zI (nHU 4)), .int (zI (nHL 4))], eO nP5 3 [.int (zI (nLU 5)), .int (zI (nLL 5)), .int (zI (nHU 5)), .int (zI (nHL 5))], eO nP6 3 [.int (zI (nLU 6)), .int (zI (nLL 6)), .int (zI (nHU 6)), .int (zI (nHL 6))]] H := hP.sub [0, 1, 2, 3, 4, 5, 6, 7, 8, 9, 10, 11] rfl
        have hD : va_D A [eO nO 1 [.ref nQt, .ref nQn, .ref nQg, .ref nQl, .int (zI nz), .int (zI nr), .int (zI 1), .int (zI ne)], eA nQt (cy 0) 7 nT, eA nQn (cy 0) 7 nN_40, eA nQg (cy 0) 7 nG_40, eR nQl (cy 4) 7 [nP0, nP1, nP2, nP3, nP4, nP5, nP6], eO nP0 3 [.int (zI (nLU 0)), .int (zI (nLL 0)), .int (zI (nHU 0)), .int (zI (nHL 0))], eO nP1 3 [.int (zI (nLU 1)), .int (zI (nLL 1)), .int (zI (nHU 1)), .int (zI (nHL 1))], eO nP2 3 [.int (zI (nLU 2)), .int (zI (nLL 2)), .int (zI (nHU 2)), .int (zI (nHL 2))], eO nP3 3 [.int (zI (nLU 3)), .int (zI (nLL 3)), .int (zI (nHU 3)), .int (zI (nHL 3))], eO nP4 3 [.int (zI (nLU 4)), .int (zI (nLL 4)), .int (zI (nHU 4)), .int (zI (nHL 4))], eO nP5 3 [.int (zI (nLU 5)), .int (zI (nLL 5)), .int (zI (nHU 5)), .int (zI (nHL 5))], eO nP6 3 [.int (zI (nLU 6)), .int (zI (nLL 6)), .int (zI (nHU 6)), .int (zI (nHL 6))]] := hD.sub [0, 1, 2, 3, 4, 5, 6, 7, 8, 9, 10, 11] rfl rfl
        refine lv_iconst (v := zI 1) hx hb dX2_next_43 rfl ?_
        refine lv_istore_n (lv' := [(1, .int (zI 1)), (0, .ref nO)]) hx hb dX2_next_44 rfl hl (by decide) rfl (fun ls hl => ?_)
        refine lv_aload_n hx hb dX2_next_45 rfl (lv_at hl 1 rfl) ?_
        refine lv_aload_n hx hb dX2_next_46 rfl (lv_at hl 1 rfl) ?_
        refine lv_iload_n hx hb dX2_next_47 rfl (lv_at hl 0 rfl) ?_
        obtain ⟨⟨r48, nN_48, nG_48, nLU_48, nLL_48, nHU_48, nHL_48⟩, hc48, hf⟩ := zq_bind hf
        refine zcallVi (wr := []) (rest := [.ref nO]) ⟨hx, hb, hml, hown, hts⟩ (c_X2_search l D cy nO nQt nQn nQg nQl nP0 nP1 nP2 nP3 nP4 nP5 nP6 H.size 1 nz nr 1 ne nT nN_40 nG_40 nLU nLL nHU nHL hc48) (cwV 1 hts gX2_next_X2_search rfl rfl rfl (by decide +kernel) ⟨Nat.le_of_ble_eq_true rfl, Nat.le_of_ble_eq_true rfl⟩) hK hP hD hS hA [0, 1, 2, 3, 4, 5, 6, 7, 8, 9, 10, 11] [] rfl rfl rfl rfl (by decide) (va_recv hK.1 hP (ci := 1) (q0 := 0) rfl rfl) rfl hl.1 rfl (Nat.le_of_ble_eq_true rfl) dX2_next_48 ⟨Nat.zero_le _, Nat.zero_le _⟩ (fun H locs hP hD hS => ?_)
        have hP : va_P D vwCl [eO nO 1 [.ref nQt, .ref nQn, .ref nQg, .ref nQl, .int (zI nz), .int (zI nr), .int (zI 1), .int (zI ne)], eA nQt (cy 0) 7 nT, eA nQn (cy 0) 7 nN_48, eA nQg (cy 0) 7 nG_48, eR nQl (cy 4) 7 [nP0, nP1, nP2, nP3, nP4, nP5, nP6], eO nP0 3 [.int (zI (nLU_48 0)), .int (zI (nLL_48 0)), .int (zI (nHU_48 0)), .int (zI (nHL_48 0))], eO nP1 3 [.int (zI (nLU_48 1)), .int (zI (nLL_48 1)), .int (zI (nHU_48 1)), .int (zI (nHL_48 1))], eO nP2 3 [.int (zI (nLU_48 2)), .int (zI (nLL_48 2)), .int (zI (nHU_48 2)), .int (zI (nHL_48 2))], eO nP3 3 [.int (zI (nLU_48 3)), .int (zI (nLL_48 3)), .int (zI (nHU_48 3)), .int (zI (nHL_48 3))], eO nP4 3 [.int (zI (nLU_48 4)), .int (zI (nLL_48 4)), .int (zI (nHU_48 4)), .int (zI (nHL_48 4))], eO nP5 3 [.int (zI (nLU_48 5)), .int (zI (nLL_48 5)), .int (zI (nHU_48 5)), .int (zI (nHL_48 5))], eO nP6 3 [.int (zI (nLU_48 6)), .int (zI (nLL_48 6)), .int (zI (nHU_48 6)), .int (zI (nHL_48 6))]] H := hP.sub [0, 1, 2, 3, 4, 5, 6, 7, 8, 9, 10, 11] rfl
        have hD : va_D A [eO nO 1 [.ref nQt, .ref nQn, .ref nQg, .ref nQl, .int (zI nz), .int (zI nr), .int (zI 1), .int (zI ne)], eA nQt (cy 0) 7 nT, eA nQn (cy 0) 7 nN_48, eA nQg (cy 0) 7 nG_48, eR nQl (cy 4) 7 [nP0, nP1, nP2, nP3, nP4, nP5, nP6], eO nP0 3 [.int (zI (nLU_48 0)), .int (zI (nLL_48 0)), .int (zI (nHU_48 0)), .int (zI (nHL_48 0))], eO nP1 3 [.int (zI (nLU_48 1)), .int (zI (nLL_48 1)), .int (zI (nHU_48 1)), .int (zI (nHL_48 1))], eO nP2 3 [.int (zI (nLU_48 2)), .int (zI (nLL_48 2)), .int (zI (nHU_48 2)), .int (zI (nHL_48 2))], eO nP3 3 [.int (zI (nLU_48 3)), .int (zI (nLL_48 3)), .int (zI (nHU_48 3)), .int (zI (nHL_48 3))], eO nP4 3 [.int (zI (nLU_48 4)), .int (zI (nLL_48 4)), .int (zI (nHU_48 4)), .int (zI (nHL_48 4))], eO nP5 3 [.int (zI (nLU_48 5)), .int (zI (nLL_48 5)), .int (zI (nHU_48 5)), .int (zI (nHL_48 5))], eO nP6 3 [.int (zI (nLU_48 6)), .int (zI (nLL_48 6)), .int (zI (nHU_48 6)), .int (zI (nHL_48 6))]] := hD.sub [0, 1, 2, 3, 4, 5, 6, 7, 8, 9, 10, 11] rfl rfl
        refine zz_if_ne (tgt := 58) hx hb dX2_next_51 (by decide) hf (fun hc hf => ?_) (fun hc hf => ?_)
        · refine lv_iconst (v := zI 1) hx hb dX2_next_54 rfl ?_
          refine lv_goto (tgt := 59) hx hb dX2_next_55 (by decide) ?_
          refine va_put (D := D) (ci := 1) (v := .int (zI 1)) (ty := .boolean) (C := RX2) (T := TX2) (N := 8) hx hb hts u_X2_next_X2 tyX2 tyX2_ok nmX2 hown hK.1 hP hD hS 0 rfl rfl 7 (by decide) (hts _ m_X2_next_1) (fun _ h9 => h9) rfl (tyX2_ok 7 (by decide)) rfl rfl (Nat.le_of_ble_eq_true rfl) dX2_next_59 (fun H locs hP hD hS => ?_)
          have hP : va_P D vwCl [eO nO 1 [.ref nQt, .ref nQn, .ref nQg, .ref nQl, .int (zI nz), .int (zI nr), .int (zI 1), .int (zI 1)], eA nQt (cy 0) 7 nT, eA nQn (cy 0) 7 nN_48, eA nQg (cy 0) 7 nG_48, eR nQl (cy 4) 7 [nP0, nP1, nP2, nP3, nP4, nP5, nP6], eO nP0 3 [.int (zI (nLU_48 0)), .int (zI (nLL_48 0)), .int (zI (nHU_48 0)), .int (zI (nHL_48 0))], eO nP1 3 [.int (zI (nLU_48 1)), .int (zI (nLL_48 1)), .int (zI (nHU_48 1)), .int (zI (nHL_48 1))], eO nP2 3 [.int (zI (nLU_48 2)), .int (zI (nLL_48 2)), .int (zI (nHU_48 2)), .int (zI (nHL_48 2))], eO nP3 3 [.int (zI (nLU_48 3)), .int (zI (nLL_48 3)), .int (zI (nHU_48 3)), .int (zI (nHL_48 3))], eO nP4 3 [.int (zI (nLU_48 4)), .int (zI (nLL_48 4)), .int (zI (nHU_48 4)), .int (zI (nHL_48 4))], eO nP5 3 [.int (zI (nLU_48 5)), .int (zI (nLL_48 5)), .int (zI (nHU_48 5)), .int (zI (nHL_48 5))], eO nP6 3 [.int (zI (nLU_48 6)), .int (zI (nLL_48 6)), .int (zI (nHU_48 6)), .int (zI (nHL_48 6))]] H := hP
          have hD : va_D A [eO nO 1 [.ref nQt, .ref nQn, .ref nQg, .ref nQl, .int (zI nz), .int (zI nr), .int (zI 1), .int (zI 1)], eA nQt (cy 0) 7 nT, eA nQn (cy 0) 7 nN_48, eA nQg (cy 0) 7 nG_48, eR nQl (cy 4) 7 [nP0, nP1, nP2, nP3, nP4, nP5, nP6], eO nP0 3 [.int (zI (nLU_48 0)), .int (zI (nLL_48 0)), .int (zI (nHU_48 0)), .int (zI (nHL_48 0))], eO nP1 3 [.int (zI (nLU_48 1)), .int (zI (nLL_48 1)), .int (zI (nHU_48 1)), .int (zI (nHL_48 1))], eO nP2 3 [.int (zI (nLU_48 2)), .int (zI (nLL_48 2)), .int (zI (nHU_48 2)), .int (zI (nHL_48 2))], eO nP3 3 [.int (zI (nLU_48 3)), .int (zI (nLL_48 3)), .int (zI (nHU_48 3)), .int (zI (nHL_48 3))], eO nP4 3 [.int (zI (nLU_48 4)), .int (zI (nLL_48 4)), .int (zI (nHU_48 4)), .int (zI (nHL_48 4))], eO nP5 3 [.int (zI (nLU_48 5)), .int (zI (nLL_48 5)), .int (zI (nHU_48 5)), .int (zI (nHL_48 5))], eO nP6 3 [.int (zI (nLU_48 6)), .int (zI (nLL_48 6)), .int (zI (nHU_48 6)), .int (zI (nHL_48 6))]] := hD
          refine lv_aload_n hx hb dX2_next_62 rfl (lv_at hl 1 rfl) ?_
          refine va_get (D := D) (ci := 1) (v := .int (zI 1)) (C := RX2) (T := TX2) (N := 8) hx hb hts u_X2_next_X2 hown hK.1 hP 0 rfl rfl 7 (by decide) (hts _ m_X2_next_1) (fun _ h9 => h9) rfl dX2_next_63 ?_
          refine zz_if_ne (tgt := 73) hx hb dX2_next_66 (by decide) hf (fun hc hf => ?_) (fun hc hf => ?_)
          · refine lv_iconst (v := zI 1) hx hb dX2_next_69 rfl ?_
            refine lv_goto (tgt := 74) hx hb dX2_next_70 (by decide) ?_
            have hf := zq_some hf
            cases hf
            exact W.zret hx hb hr rfl (fun t ht hW => ⟨⟨_, (), rfl, rfl, by rw [ht]; exact hP, hD⟩, hS.F ht⟩) hS.2.2 dX2_next_74
          · refine lv_iconst (v := zI 0) hx hb dX2_next_73 rfl ?_
            have hf := zq_some hf
            cases hf
            exact W.zret hx hb hr rfl (fun t ht hW => ⟨⟨_, (), rfl, rfl, by rw [ht]; exact hP, hD⟩, hS.F ht⟩) hS.2.2 dX2_next_74
        · refine lv_iconst (v := zI 0) hx hb dX2_next_58 rfl ?_
          refine va_put (D := D) (ci := 1) (v := .int (zI 0)) (ty := .boolean) (C := RX2) (T := TX2) (N := 8) hx hb hts u_X2_next_X2 tyX2 tyX2_ok nmX2 hown hK.1 hP hD hS 0 rfl rfl 7 (by decide) (hts _ m_X2_next_1) (fun _ h9 => h9) rfl (tyX2_ok 7 (by decide)) rfl rfl (Nat.le_of_ble_eq_true rfl) dX2_next_59 (fun H locs hP hD hS => ?_)
          have hP : va_P D vwCl [eO nO 1 [.ref nQt, .ref nQn, .ref nQg, .ref nQl, .int (zI nz), .int (zI nr), .int (zI 1), .int (zI 0)], eA nQt (cy 0) 7 nT, eA nQn (cy 0) 7 nN_48, eA nQg (cy 0) 7 nG_48, eR nQl (cy 4) 7 [nP0, nP1, nP2, nP3, nP4, nP5, nP6], eO nP0 3 [.int (zI (nLU_48 0)), .int (zI (nLL_48 0)), .int (zI (nHU_48 0)), .int (zI (nHL_48 0))], eO nP1 3 [.int (zI (nLU_48 1)), .int (zI (nLL_48 1)), .int (zI (nHU_48 1)), .int (zI (nHL_48 1))], eO nP2 3 [.int (zI (nLU_48 2)), .int (zI (nLL_48 2)), .int (zI (nHU_48 2)), .int (zI (nHL_48 2))], eO nP3 3 [.int (zI (nLU_48 3)), .int (zI (nLL_48 3)), .int (zI (nHU_48 3)), .int (zI (nHL_48 3))], eO nP4 3 [.int (zI (nLU_48 4)), .int (zI (nLL_48 4)), .int (zI (nHU_48 4)), .int (zI (nHL_48 4))], eO nP5 3 [.int (zI (nLU_48 5)), .int (zI (nLL_48 5)), .int (zI (nHU_48 5)), .int (zI (nHL_48 5))], eO nP6 3 [.int (zI (nLU_48 6)), .int (zI (nLL_48 6)), .int (zI (nHU_48 6)), .int (zI (nHL_48 6))]] H := hP
          have hD : va_D A [eO nO 1 [.ref nQt, .ref nQn, .ref nQg, .ref nQl, .int (zI nz), .int (zI nr), .int (zI 1), .int (zI 0)], eA nQt (cy 0) 7 nT, eA nQn (cy 0) 7 nN_48, eA nQg (cy 0) 7 nG_48, eR nQl (cy 4) 7 [nP0, nP1, nP2, nP3, nP4, nP5, nP6], eO nP0 3 [.int (zI (nLU_48 0)), .int (zI (nLL_48 0)), .int (zI (nHU_48 0)), .int (zI (nHL_48 0))], eO nP1 3 [.int (zI (nLU_48 1)), .int (zI (nLL_48 1)), .int (zI (nHU_48 1)), .int (zI (nHL_48 1))], eO nP2 3 [.int (zI (nLU_48 2)), .int (zI (nLL_48 2)), .int (zI (nHU_48 2)), .int (zI (nHL_48 2))], eO nP3 3 [.int (zI (nLU_48 3)), .int (zI (nLL_48 3)), .int (zI (nHU_48 3)), .int (zI (nHL_48 3))], eO nP4 3 [.int (zI (nLU_48 4)), .int (zI (nLL_48 4)), .int (zI (nHU_48 4)), .int (zI (nHL_48 4))], eO nP5 3 [.int (zI (nLU_48 5)), .int (zI (nLL_48 5)), .int (zI (nHU_48 5)), .int (zI (nHL_48 5))], eO nP6 3 [.int (zI (nLU_48 6)), .int (zI (nLL_48 6)), .int (zI (nHU_48 6)), .int (zI (nHL_48 6))]] := hD
          refine lv_aload_n hx hb dX2_next_62 rfl (lv_at hl 1 rfl) ?_
          refine va_get (D := D) (ci := 1) (v := .int (zI 0)) (C := RX2) (T := TX2) (N := 8) hx hb hts u_X2_next_X2 hown hK.1 hP 0 rfl rfl 7 (by decide) (hts _ m_X2_next_1) (fun _ h9 => h9) rfl dX2_next_63 ?_
          refine zz_if_ne (tgt := 73) hx hb dX2_next_66 (by decide) hf (fun hc hf => ?_) (fun hc hf => ?_)
          · refine lv_iconst (v := zI 1) hx hb dX2_next_69 rfl ?_
            refine lv_goto (tgt := 74) hx hb dX2_next_70 (by decide) ?_
            have hf := zq_some hf
            cases hf
            exact W.zret hx hb hr rfl (fun t ht hW => ⟨⟨_, (), rfl, rfl, by rw [ht]; exact hP, hD⟩, hS.F ht⟩) hS.2.2 dX2_next_74
          · refine lv_iconst (v := zI 0) hx hb dX2_next_73 rfl ?_
            have hf := zq_some hf
            cases hf
            exact W.zret hx hb hr rfl (fun t ht hW => ⟨⟨_, (), rfl, rfl, by rw [ht]; exact hP, hD⟩, hS.F ht⟩) hS.2.2 dX2_next_74
    · refine lv_aload_n hx hb dX2_next_45 rfl (lv_at hl 1 rfl) ?_
      refine lv_aload_n hx hb dX2_next_46 rfl (lv_at hl 1 rfl) ?_
      refine lv_iload_n hx hb dX2_next_47 rfl (lv_at hl 0 rfl) ?_
      obtain ⟨⟨r48, nN_48, nG_48, nLU_48, nLL_48, nHU_48, nHL_48⟩, hc48, hf⟩ := zq_bind hf
      refine zcallVi (wr := []) (rest := [.ref nO]) ⟨hx, hb, hml, hown, hts⟩ (c_X2_search l D cy nO nQt nQn nQg nQl nP0 nP1 nP2 nP3 nP4 nP5 nP6 s.heap.size v15 nz nr nb ne nT nN nG nLU nLL nHU nHL hc48) (cwV 1 hts gX2_next_X2_search rfl rfl rfl (by decide +kernel) ⟨Nat.le_of_ble_eq_true rfl, Nat.le_of_ble_eq_true rfl⟩) hK hP hD hS hA [0, 1, 2, 3, 4, 5, 6, 7, 8, 9, 10, 11] [] rfl rfl rfl rfl (by decide) (va_recv hK.1 hP (ci := 1) (q0 := 0) rfl rfl) rfl hl.1 rfl (Nat.le_of_ble_eq_true rfl) dX2_next_48 ⟨Nat.zero_le _, Nat.zero_le _⟩ (fun H locs hP hD hS => ?_)
      have hP : va_P D vwCl [eO nO 1 [.ref nQt, .ref nQn, .ref nQg, .ref nQl, .int (zI nz), .int (zI nr), .int (zI nb), .int (zI ne)], eA nQt (cy 0) 7 nT, eA nQn (cy 0) 7 nN_48, eA nQg (cy 0) 7 nG_48, eR nQl (cy 4) 7 [nP0, nP1, nP2, nP3, nP4, nP5, nP6], eO nP0 3 [.int (zI (nLU_48 0)), .int (zI (nLL_48 0)), .int (zI (nHU_48 0)), .int (zI (nHL_48 0))], eO nP1 3 [.int (zI (nLU_48 1)), .int (zI (nLL_48 1)), .int (zI (nHU_48 1)), .int (zI (nHL_48 1))], eO nP2 3 [.int (zI (nLU_48 2)), .int (zI (nLL_48 2)), .int (zI (nHU_48 2)), .int (zI (nHL_48 2))], eO nP3 3 [.int (zI (nLU_48 3)), .int (zI (nLL_48 3)), .int (zI (nHU_48 3)), .int (zI (nHL_48 3))], eO nP4 3 [.int (zI (nLU_48 4)), .int (zI (nLL_48 4)), .int (zI (nHU_48 4)), .int (zI (nHL_48 4))], eO nP5 3 [.int (zI (nLU_48 5)), .int (zI (nLL_48 5)), .int (zI (nHU_48 5)), .int (zI (nHL_48 5))], eO nP6 3 [.int (zI (nLU_48 6)), .int (zI (nLL_48 6)), .int (zI (nHU_48 6)), .int (zI (nHL_48 6))]] H := hP.sub [0, 1, 2, 3, 4, 5, 6, 7, 8, 9, 10, 11] rfl
      have hD : va_D A [eO nO 1 [.ref nQt, .ref nQn, .ref nQg, .ref nQl, .int (zI nz), .int (zI nr), .int (zI nb), .int (zI ne)], eA nQt (cy 0) 7 nT, eA nQn (cy 0) 7 nN_48, eA nQg (cy 0) 7 nG_48, eR nQl (cy 4) 7 [nP0, nP1, nP2, nP3, nP4, nP5, nP6], eO nP0 3 [.int (zI (nLU_48 0)), .int (zI (nLL_48 0)), .int (zI (nHU_48 0)), .int (zI (nHL_48 0))], eO nP1 3 [.int (zI (nLU_48 1)), .int (zI (nLL_48 1)), .int (zI (nHU_48 1)), .int (zI (nHL_48 1))], eO nP2 3 [.int (zI (nLU_48 2)), .int (zI (nLL_48 2)), .int (zI (nHU_48 2)), .int (zI (nHL_48 2))], eO nP3 3 [.int (zI (nLU_48 3)), .int (zI (nLL_48 3)), .int (zI (nHU_48 3)), .int (zI (nHL_48 3))], eO nP4 3 [.int (zI (nLU_48 4)), .int (zI (nLL_48 4)), .int (zI (nHU_48 4)), .int (zI (nHL_48 4))], eO nP5 3 [.int (zI (nLU_48 5)), .int (zI (nLL_48 5)), .int (zI (nHU_48 5)), .int (zI (nHL_48 5))], eO nP6 3 [.int (zI (nLU_48 6)), .int (zI (nLL_48 6)), .int (zI (nHU_48 6)), .int (zI (nHL_48 6))]] := hD.sub [0, 1, 2, 3, 4, 5, 6, 7, 8, 9, 10, 11] rfl rfl
      refine zz_if_ne (tgt := 58) hx hb dX2_next_51 (by decide) hf (fun hc hf => ?_) (fun hc hf => ?_)
      · refine lv_iconst (v := zI 1) hx hb dX2_next_54 rfl ?_
        refine lv_goto (tgt := 59) hx hb dX2_next_55 (by decide) ?_
        refine va_put (D := D) (ci := 1) (v := .int (zI 1)) (ty := .boolean) (C := RX2) (T := TX2) (N := 8) hx hb hts u_X2_next_X2 tyX2 tyX2_ok nmX2 hown hK.1 hP hD hS 0 rfl rfl 7 (by decide) (hts _ m_X2_next_1) (fun _ h9 => h9) rfl (tyX2_ok 7 (by decide)) rfl rfl (Nat.le_of_ble_eq_true rfl) dX2_next_59 (fun H locs hP hD hS => ?_)
        have hP : va_P D vwCl [eO nO 1 [.ref nQt, .ref nQn, .ref nQg, .ref nQl, .int (zI nz), .int (zI nr), .int (zI nb), .int (zI 1)], eA nQt (cy 0) 7 nT, eA nQn (cy 0) 7 nN_48, eA nQg (cy 0) 7 nG_48, eR nQl (cy 4) 7 [nP0, nP1, nP2, nP3, nP4, nP5, nP6], eO nP0 3 [.int (zI (nLU_48 0)), .int (zI (nLL_48 0)), .int (zI (nHU_48 0)), .int (zI (nHL_48 0))], eO nP1 3 [.int (zI (nLU_48 1)), .int (zI (nLL_48 1)), .int (zI (nHU_48 1)), .int (zI (nHL_48 1))], eO nP2 3 [.int (zI (nLU_48 2)), .int (zI (nLL_48 2)), .int (zI (nHU_48 2)), .int (zI (nHL_48 2))], eO nP3 3 [.int (zI (nLU_48 3)), .int (zI (nLL_48 3)), .int (zI (nHU_48 3)), .int (zI (nHL_48 3))], eO nP4 3 [.int (zI (nLU_48 4)), .int (zI (nLL_48 4)), .int (zI (nHU_48 4)), .int (zI (nHL_48 4))], eO nP5 3 [.int (zI (nLU_48 5)), .int (zI (nLL_48 5)), .int (zI (nHU_48 5)), .int (zI (nHL_48 5))], eO nP6 3 [.int (zI (nLU_48 6)), .int (zI (nLL_48 6)), .int (zI (nHU_48 6)), .int (zI (nHL_48 6))]] H := hP
        have hD : va_D A [eO nO 1 [.ref nQt, .ref nQn, .ref nQg, .ref nQl, .int (zI nz), .int (zI nr), .int (zI nb), .int (zI 1)], eA nQt (cy 0) 7 nT, eA nQn (cy 0) 7 nN_48, eA nQg (cy 0) 7 nG_48, eR nQl (cy 4) 7 [nP0, nP1, nP2, nP3, nP4, nP5, nP6], eO nP0 3 [.int (zI (nLU_48 0)), .int (zI (nLL_48 0)), .int (zI (nHU_48 0)), .int (zI (nHL_48 0))], eO nP1 3 [.int (zI (nLU_48 1)), .int (zI (nLL_48 1)), .int (zI (nHU_48 1)), .int (zI (nHL_48 1))], eO nP2 3 [.int (zI (nLU_48 2)), .int (zI (nLL_48 2)), .int (zI (nHU_48 2)), .int (zI (nHL_48 2))], eO nP3 3 [.int (zI (nLU_48 3)), .int (zI (nLL_48 3)), .int (zI (nHU_48 3)), .int (zI (nHL_48 3))], eO nP4 3 [.int (zI (nLU_48 4)), .int (zI (nLL_48 4)), .int (zI (nHU_48 4)), .int (zI (nHL_48 4))], eO nP5 3 [.int (zI (nLU_48 5)), .int (zI (nLL_48 5)), .int (zI (nHU_48 5)), .int (zI (nHL_48 5))], eO nP6 3 [.int (zI (nLU_48 6)), .int (zI (nLL_48 6)), .int (zI (nHU_48 6)), .int (zI (nHL_48 6))]] := hD
        refine lv_aload_n hx hb dX2_next_62 rfl (lv_at hl 1 rfl) ?_
        refine va_get (D := D) (ci := 1) (v := .int (zI 1)) (C := RX2) (T := TX2) (N := 8) hx hb hts u_X2_next_X2 hown hK.1 hP 0 rfl rfl 7 (by decide) (hts _ m_X2_next_1) (fun _ h9 => h9) rfl dX2_next_63 ?_
        refine zz_if_ne (tgt := 73) hx hb dX2_next_66 (by decide) hf (fun hc hf => ?_) (fun hc hf => ?_)
        · refine lv_iconst (v := zI 1) hx hb dX2_next_69 rfl ?_
          refine lv_goto (tgt := 74) hx hb dX2_next_70 (by decide) ?_
          have hf := zq_some hf
          cases hf
          exact W.zret hx hb hr rfl (fun t ht hW => ⟨⟨_, (), rfl, rfl, by rw [ht]; exact hP, hD⟩, hS.F ht⟩) hS.2.2 dX2_next_74
        · refine lv_iconst (v := zI 0) hx hb dX2_next_73 rfl ?_
          have hf := zq_some hf
          cases hf
          exact W.zret hx hb hr rfl (fun t ht hW => ⟨⟨_, (), rfl, rfl, by rw [ht]; exact hP, hD⟩, hS.F ht⟩) hS.2.2 dX2_next_74
      · refine lv_iconst (v := zI 0) hx hb dX2_next_58 rfl ?_
        refine va_put (D := D) (ci := 1) (v := .int (zI 0)) (ty := .boolean) (C := RX2) (T := TX2) (N := 8) hx hb hts u_X2_next_X2 tyX2 tyX2_ok nmX2 hown hK.1 hP hD hS 0 rfl rfl 7 (by decide) (hts _ m_X2_next_1) (fun _ h9 => h9) rfl (tyX2_ok 7 (by decide)) rfl rfl (Nat.le_of_ble_eq_true rfl) dX2_next_59 (fun H locs hP hD hS => ?_)
        have hP : va_P D vwCl [eO nO 1 [.ref nQt, .ref nQn, .ref nQg, .ref nQl, .int (zI nz), .int (zI nr), .int (zI nb), .int (zI 0)], eA nQt (cy 0) 7 nT, eA nQn (cy 0) 7 nN_48, eA nQg (cy 0) 7 nG_48, eR nQl (cy 4) 7 [nP0, nP1, nP2, nP3, nP4, nP5, nP6], eO nP0 3 [.int (zI (nLU_48 0)), .int (zI (nLL_48 0)), .int (zI (nHU_48 0)), .int (zI (nHL_48 0))], eO nP1 3 [.int (zI (nLU_48 1)), .int (zI (nLL_48 1)), .int (zI (nHU_48 1)), .int (zI (nHL_48 1))], eO nP2 3 [.int (zI (nLU_48 2)), .int (zI (nLL_48 2)), .int (zI (nHU_48 2)), .int (zI (nHL_48 2))], eO nP3 3 [.int (zI (nLU_48 3)), .int (zI (nLL_48 3)), .int (zI (nHU_48 3)), .int (zI (nHL_48 3))], eO nP4 3 [.int (zI (nLU_48 4)), .int (zI (nLL_48 4)), .int (zI (nHU_48 4)), .int (zI (nHL_48 4))], eO nP5 3 [.int (zI (nLU_48 5)), .int (zI (nLL_48 5)), .int (zI (nHU_48 5)), .int (zI (nHL_48 5))], eO nP6 3 [.int (zI (nLU_48 6)), .int (zI (nLL_48 6)), .int (zI (nHU_48 6)), .int (zI (nHL_48 6))]] H := hP
        have hD : va_D A [eO nO 1 [.ref nQt, .ref nQn, .ref nQg, .ref nQl, .int (zI nz), .int (zI nr), .int (zI nb), .int (zI 0)], eA nQt (cy 0) 7 nT, eA nQn (cy 0) 7 nN_48, eA nQg (cy 0) 7 nG_48, eR nQl (cy 4) 7 [nP0, nP1, nP2, nP3, nP4, nP5, nP6], eO nP0 3 [.int (zI (nLU_48 0)), .int (zI (nLL_48 0)), .int (zI (nHU_48 0)), .int (zI (nHL_48 0))], eO nP1 3 [.int (zI (nLU_48 1)), .int (zI (nLL_48 1)), .int (zI (nHU_48 1)), .int (zI (nHL_48 1))], eO nP2 3 [.int (zI (nLU_48 2)), .int (zI (nLL_48 2)), .int (zI (nHU_48 2)), .int (zI (nHL_48 2))], eO nP3 3 [.int (zI (nLU_48 3)), .int (zI (nLL_48 3)), .int (zI (nHU_48 3)), .int (zI (nHL_48 3))], eO nP4 3 [.int (zI (nLU_48 4)), .int (zI (nLL_48 4)), .int (zI (nHU_48 4)), .int (zI (nHL_48 4))], eO nP5 3 [.int (zI (nLU_48 5)), .int (zI (nLL_48 5)), .int (zI (nHU_48 5)), .int (zI (nHL_48 5))], eO nP6 3 [.int (zI (nLU_48 6)), .int (zI (nLL_48 6)), .int (zI (nHU_48 6)), .int (zI (nHL_48 6))]] := hD
        refine lv_aload_n hx hb dX2_next_62 rfl (lv_at hl 1 rfl) ?_
        refine va_get (D := D) (ci := 1) (v := .int (zI 0)) (C := RX2) (T := TX2) (N := 8) hx hb hts u_X2_next_X2 hown hK.1 hP 0 rfl rfl 7 (by decide) (hts _ m_X2_next_1) (fun _ h9 => h9) rfl dX2_next_63 ?_
        refine zz_if_ne (tgt := 73) hx hb dX2_next_66 (by decide) hf (fun hc hf => ?_) (fun hc hf => ?_)
        · refine lv_iconst (v := zI 1) hx hb dX2_next_69 rfl ?_
          refine lv_goto (tgt := 74) hx hb dX2_next_70 (by decide) ?_
          have hf := zq_some hf
          cases hf
          exact W.zret hx hb hr rfl (fun t ht hW => ⟨⟨_, (), rfl, rfl, by rw [ht]; exact hP, hD⟩, hS.F ht⟩) hS.2.2 dX2_next_74
        · refine lv_iconst (v := zI 0) hx hb dX2_next_73 rfl ?_
          have hf := zq_some hf
          cases hf
          exact W.zret hx hb hr rfl (fun t ht hW => ⟨⟨_, (), rfl, rfl, by rw [ht]; exact hP, hD⟩, hS.F ht⟩) hS.2.2 dX2_next_74
  · refine lv_iconst (v := zI 0) hx hb dX2_next_7 rfl ?_
    have hf := zq_some hf
    cases hf
    exact W.zret hx hb hr rfl (fun t ht hW => ⟨⟨_, (), rfl, rfl, by rw [ht]; exact hP, hD⟩, hS.F ht⟩) hS.2.2 dX2_next_8

noncomputable def st_X2_tally (p1 : Int) (nz : Int) (nr : Int) (nT : Nat → Int) : (Int × Int × Int × (Nat → Int) × (Nat → Int) × (Nat → Int) × (Nat → Int) × (Nat → Int) × (Nat → Int)) → Option ((Int × Int × Int × (Nat → Int) × (Nat → Int) × (Nat → Int) × (Nat → Int) × (Nat → Int) × (Nat → Int)) ⊕ (Int × Int × Int × (Nat → Int) × (Nat → Int) × (Nat → Int) × (Nat → Int) × (Nat → Int) × (Nat → Int))) := fun (x2, nb, ne, nN, nG, nLU, nLL, nHU, nHL) =>
  gd (zR x2 ∧ zR p1) <|
  if x2 < p1 then
    (f_X2_next nz nr nb ne nT nN nG nLU nLL nHU nHL).bind fun (r8, nb_8, ne_8, nN_8, nG_8, nLU_8, nLL_8, nHU_8, nHL_8) =>
    gd (zR r8) <|
    if r8 = 0 then
      some (.inr (x2, nb_8, ne_8, nN_8, nG_8, nLU_8, nLL_8, nHU_8, nHL_8))
    else
      some (.inl ((x2 + 1), nb_8, ne_8, nN_8, nG_8, nLU_8, nLL_8, nHU_8, nHL_8))
  else
    some (.inr (x2, nb, ne, nN, nG, nLU, nLL, nHU, nHL))
noncomputable def f_X2_tally (p1 : Int) (nz : Int) (nr : Int) (nb : Int) (ne : Int) (nT : Nat → Int) (nN : Nat → Int) (nG : Nat → Int) (nLU : Nat → Int) (nLL : Nat → Int) (nHU : Nat → Int) (nHL : Nat → Int) : Option (Int × Int × Int × (Nat → Int) × (Nat → Int) × (Nat → Int) × (Nat → Int) × (Nat → Int) × (Nat → Int)) :=
  zev (st_X2_tally p1 nz nr nT) (0, nb, ne, nN, nG, nLU, nLL, nHU, nHL)

set_option maxRecDepth 100000 in
set_option maxHeartbeats 4000000 in
theorem c_X2_tally (l : Launch) (D : va_G) (cy : Nat → ClassId) (nO nQt nQn nQg nQl nP0 nP1 nP2 nP3 nP4 nP5 nP6 : Nat) (sz : Nat) (p1 : Int) (nz : Int) (nr : Int) (nb : Int) (ne : Int) (nT : Nat → Int) (nN : Nat → Int) (nG : Nat → Int) (nLU : Nat → Int) (nLL : Nat → Int) (nHU : Nat → Int) (nHL : Nat → Int) {r : Int} {nb' : Int} {ne' : Int} {nN' : Nat → Int} {nG' : Nat → Int} {nLU' : Nat → Int} {nLL' : Nat → Int} {nHU' : Nat → Int} {nHL' : Nat → Int} (hf : f_X2_tally p1 nz nr nb ne nT nN nG nLU nLL nHU nHL = some (r, nb', ne', nN', nG', nLU', nLL', nHU', nHL')) : zMi l yX2_tally wsX2_tally ({ frames := 4, cells := 0, slots := 0, locals := 91 }) D cy sz [.ref nO, .int (zI p1)] [eO nO 1 [.ref nQt, .ref nQn, .ref nQg, .ref nQl, .int (zI nz), .int (zI nr), .int (zI nb), .int (zI ne)], eA nQt (cy 0) 7 nT, eA nQn (cy 0) 7 nN, eA nQg (cy 0) 7 nG, eR nQl (cy 4) 7 [nP0, nP1, nP2, nP3, nP4, nP5, nP6], eO nP0 3 [.int (zI (nLU 0)), .int (zI (nLL 0)), .int (zI (nHU 0)), .int (zI (nHL 0))], eO nP1 3 [.int (zI (nLU 1)), .int (zI (nLL 1)), .int (zI (nHU 1)), .int (zI (nHL 1))], eO nP2 3 [.int (zI (nLU 2)), .int (zI (nLL 2)), .int (zI (nHU 2)), .int (zI (nHL 2))], eO nP3 3 [.int (zI (nLU 3)), .int (zI (nLL 3)), .int (zI (nHU 3)), .int (zI (nHL 3))], eO nP4 3 [.int (zI (nLU 4)), .int (zI (nLL 4)), .int (zI (nHU 4)), .int (zI (nHL 4))], eO nP5 3 [.int (zI (nLU 5)), .int (zI (nLL 5)), .int (zI (nHU 5)), .int (zI (nHL 5))], eO nP6 3 [.int (zI (nLU 6)), .int (zI (nLL 6)), .int (zI (nHU 6)), .int (zI (nHL 6))]] [eO nO 1 [.ref nQt, .ref nQn, .ref nQg, .ref nQl, .int (zI nz), .int (zI nr), .int (zI nb'), .int (zI ne')], eA nQt (cy 0) 7 nT, eA nQn (cy 0) 7 nN', eA nQg (cy 0) 7 nG', eR nQl (cy 4) 7 [nP0, nP1, nP2, nP3, nP4, nP5, nP6], eO nP0 3 [.int (zI (nLU' 0)), .int (zI (nLL' 0)), .int (zI (nHU' 0)), .int (zI (nHL' 0))], eO nP1 3 [.int (zI (nLU' 1)), .int (zI (nLL' 1)), .int (zI (nHU' 1)), .int (zI (nHL' 1))], eO nP2 3 [.int (zI (nLU' 2)), .int (zI (nLL' 2)), .int (zI (nHU' 2)), .int (zI (nHL' 2))], eO nP3 3 [.int (zI (nLU' 3)), .int (zI (nLL' 3)), .int (zI (nHU' 3)), .int (zI (nHL' 3))], eO nP4 3 [.int (zI (nLU' 4)), .int (zI (nLL' 4)), .int (zI (nHU' 4)), .int (zI (nHL' 4))], eO nP5 3 [.int (zI (nLU' 5)), .int (zI (nLL' 5)), .int (zI (nHU' 5)), .int (zI (nHL' 5))], eO nP6 3 [.int (zI (nLU' 6)), .int (zI (nLL' 6)), .int (zI (nHU' 6)), .int (zI (nHL' 6))]] (zI r) := by
  refine Met.ofW (cc := cX2_tally) (maxL := 3) (ret := (some .int)) (by decide) rfl ?_
  intro p e s m args below meth c s₁ B hml hv
  obtain ⟨rfl, hsz, hP, hK, hD0⟩ := hv
  have hx := B.exec
  have hb := B.bytes
  have hr := B.returns
  have hts := atoms_spec (ws := wsX2_tally) B.pre
  have hown : s.vm.findClass RX2 = some m.cls := findClass_of_methodNamed B.named
  have hlocks := B.notSynchronized
  subst hsz
  have hD := hD0.self (sz := s.heap.size)
  generalize hAe : va_A [eO nO 1 [.ref nQt, .ref nQn, .ref nQg, .ref nQl, .int (zI nz), .int (zI nr), .int (zI nb), .int (zI ne)], eA nQt (cy 0) 7 nT, eA nQn (cy 0) 7 nN, eA nQg (cy 0) 7 nG, eR nQl (cy 4) 7 [nP0, nP1, nP2, nP3, nP4, nP5, nP6], eO nP0 3 [.int (zI (nLU 0)), .int (zI (nLL 0)), .int (zI (nHU 0)), .int (zI (nHL 0))], eO nP1 3 [.int (zI (nLU 1)), .int (zI (nLL 1)), .int (zI (nHU 1)), .int (zI (nHL 1))], eO nP2 3 [.int (zI (nLU 2)), .int (zI (nLL 2)), .int (zI (nHU 2)), .int (zI (nHL 2))], eO nP3 3 [.int (zI (nLU 3)), .int (zI (nLL 3)), .int (zI (nHU 3)), .int (zI (nHL 3))], eO nP4 3 [.int (zI (nLU 4)), .int (zI (nLL 4)), .int (zI (nHU 4)), .int (zI (nHL 4))], eO nP5 3 [.int (zI (nLU 5)), .int (zI (nLL 5)), .int (zI (nHU 5)), .int (zI (nHL 5))], eO nP6 3 [.int (zI (nLU 6)), .int (zI (nLL 6)), .int (zI (nHU 6)), .int (zI (nHL 6))]] s.heap.size = A at hD ⊢
  have hA : ∀ q : Nat, s.heap.size ≤ q → A q := fun q h => by rw [← hAe]; exact Or.inr h
  have hS : va_S A s.heap s.heap [] := va_S.rf
  have hl := lv_entry ([.ref nO, .int (zI p1)]) (n := 3) (Nat.le_of_ble_eq_true rfl)
  rw [lg_entry_eq]
  generalize (lg_sl ([.ref nO, .int (zI p1)]) ++ List.replicate (3 - (lg_sl ([.ref nO, .int (zI p1)])).length) Slot.unset).toArray = ls at hl ⊢
  have hl : lv_has ls 3 [(0, .ref nO), (1, .int (zI p1))] := hl
  have hf := zq_of hf
  have key := zloop (st := st_X2_tally p1 nz nr nT) (res := (r, nb', ne', nN', nG', nLU', nLL', nHU', nHL')) (K := fun (x2, nb, ne, nN, nG, nLU, nLL, nHU, nHL) => ∀ (H : Heap) (locs : List Loc) (ls : Array Slot), va_P D vwCl [eO nO 1 [.ref nQt, .ref nQn, .ref nQg, .ref nQl, .int (zI nz), .int (zI nr), .int (zI nb), .int (zI ne)], eA nQt (cy 0) 7 nT, eA nQn (cy 0) 7 nN, eA nQg (cy 0) 7 nG, eR nQl (cy 4) 7 [nP0, nP1, nP2, nP3, nP4, nP5, nP6], eO nP0 3 [.int (zI (nLU 0)), .int (zI (nLL 0)), .int (zI (nHU 0)), .int (zI (nHL 0))], eO nP1 3 [.int (zI (nLU 1)), .int (zI (nLL 1)), .int (zI (nHU 1)), .int (zI (nHL 1))], eO nP2 3 [.int (zI (nLU 2)), .int (zI (nLL 2)), .int (zI (nHU 2)), .int (zI (nHL 2))], eO nP3 3 [.int (zI (nLU 3)), .int (zI (nLL 3)), .int (zI (nHU 3)), .int (zI (nHL 3))], eO nP4 3 [.int (zI (nLU 4)), .int (zI (nLL 4)), .int (zI (nHU 4)), .int (zI (nHL 4))], eO nP5 3 [.int (zI (nLU 5)), .int (zI (nLL 5)), .int (zI (nHU 5)), .int (zI (nHL 5))], eO nP6 3 [.int (zI (nLU 6)), .int (zI (nLL 6)), .int (zI (nHU 6)), .int (zI (nHL 6))]] H → va_D A [eO nO 1 [.ref nQt, .ref nQn, .ref nQg, .ref nQl, .int (zI nz), .int (zI nr), .int (zI nb), .int (zI ne)], eA nQt (cy 0) 7 nT, eA nQn (cy 0) 7 nN, eA nQg (cy 0) 7 nG, eR nQl (cy 4) 7 [nP0, nP1, nP2, nP3, nP4, nP5, nP6], eO nP0 3 [.int (zI (nLU 0)), .int (zI (nLL 0)), .int (zI (nHU 0)), .int (zI (nHL 0))], eO nP1 3 [.int (zI (nLU 1)), .int (zI (nLL 1)), .int (zI (nHU 1)), .int (zI (nHL 1))], eO nP2 3 [.int (zI (nLU 2)), .int (zI (nLL 2)), .int (zI (nHU 2)), .int (zI (nHL 2))], eO nP3 3 [.int (zI (nLU 3)), .int (zI (nLL 3)), .int (zI (nHU 3)), .int (zI (nHL 3))], eO nP4 3 [.int (zI (nLU 4)), .int (zI (nLL 4)), .int (zI (nHU 4)), .int (zI (nHL 4))], eO nP5 3 [.int (zI (nLU 5)), .int (zI (nLL 5)), .int (zI (nHU 5)), .int (zI (nHL 5))], eO nP6 3 [.int (zI (nLU 6)), .int (zI (nLL 6)), .int (zI (nHU 6)), .int (zI (nHL 6))]] → va_S A s.heap H locs → lv_has ls 3 [(0, .ref nO), (1, .int (zI p1)), (2, .int (zI x2))] → zGi p l e wsX2_tally ({ frames := 4, cells := 0, slots := 0, locals := 91 }) s m [.ref nO, .int (zI p1)] below meth c A D [eO nO 1 [.ref nQt, .ref nQn, .ref nQg, .ref nQl, .int (zI nz), .int (zI nr), .int (zI nb'), .int (zI ne')], eA nQt (cy 0) 7 nT, eA nQn (cy 0) 7 nN', eA nQg (cy 0) 7 nG', eR nQl (cy 4) 7 [nP0, nP1, nP2, nP3, nP4, nP5, nP6], eO nP0 3 [.int (zI (nLU' 0)), .int (zI (nLL' 0)), .int (zI (nHU' 0)), .int (zI (nHL' 0))], eO nP1 3 [.int (zI (nLU' 1)), .int (zI (nLL' 1)), .int (zI (nHU' 1)), .int (zI (nHL' 1))], eO nP2 3 [.int (zI (nLU' 2)), .int (zI (nLL' 2)), .int (zI (nHU' 2)), .int (zI (nHL' 2))], eO nP3 3 [.int (zI (nLU' 3)), .int (zI (nLL' 3)), .int (zI (nHU' 3)), .int (zI (nHL' 3))], eO nP4 3 [.int (zI (nLU' 4)), .int (zI (nLL' 4)), .int (zI (nHU' 4)), .int (zI (nHL' 4))], eO nP5 3 [.int (zI (nLU' 5)), .int (zI (nLL' 5)), .int (zI (nHU' 5)), .int (zI (nHL' 5))], eO nP6 3 [.int (zI (nLU' 6)), .int (zI (nLL' 6)), .int (zI (nHU' 6)), .int (zI (nHL' 6))]] (zI r) H locs (F0 m 2 ls [])) (by
    rintro ⟨x2, nb, ne, nN, nG, nLU, nLL, nHU, nHL⟩ hf
    intro H locs ls hP hD hS hl
    unfold st_X2_tally at hf
    try dsimp only at hf
    refine lv_iload_n hx hb dX2_tally_2 rfl (lv_at hl 2 rfl) ?_
    refine lv_iload_n hx hb dX2_tally_3 rfl (lv_at hl 1 rfl) ?_
    refine zz_icmp_ge (tgt := 20) hx hb dX2_tally_4 (by decide) hf (fun hc hf => ?_) (fun hc hf => ?_)
    · refine lv_aload_n hx hb dX2_tally_7 rfl (lv_at hl 0 rfl) ?_
      obtain ⟨⟨r8, nb_8, ne_8, nN_8, nG_8, nLU_8, nLL_8, nHU_8, nHL_8⟩, hc8, hf⟩ := zq_bind hf
      refine zcallVi (wr := []) (rest := []) ⟨hx, hb, hml, hown, hts⟩ (c_X2_next l D cy nO nQt nQn nQg nQl nP0 nP1 nP2 nP3 nP4 nP5 nP6 H.size nz nr nb ne nT nN nG nLU nLL nHU nHL hc8) (cwV 0 hts gX2_tally_X2_next rfl rfl rfl (by decide +kernel) ⟨Nat.le_of_ble_eq_true rfl, Nat.le_of_ble_eq_true rfl⟩) hK hP hD hS hA [0, 1, 2, 3, 4, 5, 6, 7, 8, 9, 10, 11] [] rfl rfl rfl rfl (by decide) (va_recv hK.1 hP (ci := 1) (q0 := 0) rfl rfl) rfl hl.1 rfl (Nat.le_of_ble_eq_true rfl) dX2_tally_8 ⟨Nat.zero_le _, Nat.zero_le _⟩ (fun H locs hP hD hS => ?_)
      have hP : va_P D vwCl [eO nO 1 [.ref nQt, .ref nQn, .ref nQg, .ref nQl, .int (zI nz), .int (zI nr), .int (zI nb_8), .int (zI ne_8)], eA nQt (cy 0) 7 nT, eA nQn (cy 0) 7 nN_8, eA nQg (cy 0) 7 nG_8, eR nQl (cy 4) 7 [nP0, nP1, nP2, nP3, nP4, nP5, nP6], eO nP0 3 [.int (zI (nLU_8 0)), .int (zI (nLL_8 0)), .int (zI (nHU_8 0)), .int (zI (nHL_8 0))], eO nP1 3 [.int (zI (nLU_8 1)), .int (zI (nLL_8 1)), .int (zI (nHU_8 1)), .int (zI (nHL_8 1))], eO nP2 3 [.int (zI (nLU_8 2)), .int (zI (nLL_8 2)), .int (zI (nHU_8 2)), .int (zI (nHL_8 2))], eO nP3 3 [.int (zI (nLU_8 3)), .int (zI (nLL_8 3)), .int (zI (nHU_8 3)), .int (zI (nHL_8 3))], eO nP4 3 [.int (zI (nLU_8 4)), .int (zI (nLL_8 4)), .int (zI (nHU_8 4)), .int (zI (nHL_8 4))], eO nP5 3 [.int (zI (nLU_8 5)), .int (zI (nLL_8 5)), .int (zI (nHU_8 5)), .int (zI (nHL_8 5))], eO nP6 3 [.int (zI (nLU_8 6)), .int (zI (nLL_8 6)), .int (zI (nHU_8 6)), .int (zI (nHL_8 6))]] H := hP.sub [0, 1, 2, 3, 4, 5, 6, 7, 8, 9, 10, 11] rfl
      have hD : va_D A [eO nO 1 [.ref nQt, .ref nQn, .ref nQg, .ref nQl, .int (zI nz), .int (zI nr), .int (zI nb_8), .int (zI ne_8)], eA nQt (cy 0) 7 nT, eA nQn (cy 0) 7 nN_8, eA nQg (cy 0) 7 nG_8, eR nQl (cy 4) 7 [nP0, nP1, nP2, nP3, nP4, nP5, nP6], eO nP0 3 [.int (zI (nLU_8 0)), .int (zI (nLL_8 0)), .int (zI (nHU_8 0)), .int (zI (nHL_8 0))], eO nP1 3 [.int (zI (nLU_8 1)), .int (zI (nLL_8 1)), .int (zI (nHU_8 1)), .int (zI (nHL_8 1))], eO nP2 3 [.int (zI (nLU_8 2)), .int (zI (nLL_8 2)), .int (zI (nHU_8 2)), .int (zI (nHL_8 2))], eO nP3 3 [.int (zI (nLU_8 3)), .int (zI (nLL_8 3)), .int (zI (nHU_8 3)), .int (zI (nHL_8 3))], eO nP4 3 [.int (zI (nLU_8 4)), .int (zI (nLL_8 4)), .int (zI (nHU_8 4)), .int (zI (nHL_8 4))], eO nP5 3 [.int (zI (nLU_8 5)), .int (zI (nLL_8 5)), .int (zI (nHU_8 5)), .int (zI (nHL_8 5))], eO nP6 3 [.int (zI (nLU_8 6)), .int (zI (nLL_8 6)), .int (zI (nHU_8 6)), .int (zI (nHL_8 6))]] := hD.sub [0, 1, 2, 3, 4, 5, 6, 7, 8, 9, 10, 11] rfl rfl
      refine zz_if_eq (tgt := 20) hx hb dX2_tally_11 (by decide) hf (fun hc hf => ?_) (fun hc hf => ?_)
      · refine lv_iload_n hx hb dX2_tally_20 rfl (lv_at hl 2 rfl) ?_
        have hf := zq_some hf
        cases hf
        exact W.iret hx hb hr (fun t ht hW => ⟨⟨_, (), rfl, rfl, by rw [ht]; exact hP, hD⟩, hS.F ht⟩) hS.2.2 dX2_tally_21
      · refine lv_iinc (v := zI (x2 + 1)) (lv' := [(2, .int (zI (x2 + 1))), (0, .ref nO), (1, .int (zI p1))]) hx hb dX2_tally_14 hl (k := 2) rfl (zI_add _ _) (by decide) rfl (fun ls hl => ?_)
        refine lv_goto (tgt := 2) hx hb dX2_tally_17 (by decide) ?_
        have hf := zq_some hf
        exact hf _ _ _ hP hD hS (lv_sub hl [1, 2, 0] rfl)
    · refine lv_iload_n hx hb dX2_tally_20 rfl (lv_at hl 2 rfl) ?_
      have hf := zq_some hf
      cases hf
      exact W.iret hx hb hr (fun t ht hW => ⟨⟨_, (), rfl, rfl, by rw [ht]; exact hP, hD⟩, hS.F ht⟩) hS.2.2 dX2_tally_21
    )
  unfold f_X2_tally at hf
  refine lv_iconst (v := zI 0) hx hb dX2_tally_0 rfl ?_
  refine lv_istore_n (lv' := [(2, .int (zI 0)), (0, .ref nO), (1, .int (zI p1))]) hx hb dX2_tally_1 rfl hl (by decide) rfl (fun ls hl => ?_)
  exact key _ (zq_eq hf) _ _ _ hP hD hS (lv_sub hl [1, 2, 0] rfl)

noncomputable def st_X2_further (nz : Int) (nr : Int) : (Int × Int × (Nat → Int) × (Nat → Int) × (Nat → Int) × (Nat → Int) × (Nat → Int) × (Nat → Int) × (Nat → Int)) → Option ((Int × Int × (Nat → Int) × (Nat → Int) × (Nat → Int) × (Nat → Int) × (Nat → Int) × (Nat → Int) × (Nat → Int)) ⊕ (Int × (Nat → Int) × (Nat → Int) × (Nat → Int) × (Nat → Int) × (Nat → Int) × (Nat → Int) × (Nat → Int))) := fun (x2, x3, nT, nN, nG, nLU, nLL, nHU, nHL) =>
  gd (zin nz 7) <|
  gd (zR x3 ∧ zR (nG (Int.toNat nz))) <|
  if x3 ≤ (nG (Int.toNat nz)) then
    gd (zin nz 7) <|
    (f_X2_fits nz nr nT (zup nN nz x3) nLU nLL nHU nHL).bind fun (r79, nLU_79, nLL_79, nHU_79, nHL_79) =>
    gd (zR r79) <|
    if r79 = 0 then
      some (.inl (x2, (x3 + 1), nT, (zup nN nz x3), nG, nLU_79, nLL_79, nHU_79, nHL_79))
    else
      some (.inl ((x2 + 1), (x3 + 1), nT, (zup nN nz x3), nG, nLU_79, nLL_79, nHU_79, nHL_79))
  else
    some (.inr (x2, nT, nN, nG, nLU, nLL, nHU, nHL))
noncomputable def f_X2_further (p1 : Int) (nz : Int) (nr : Int) (nT : Nat → Int) (nN : Nat → Int) (nG : Nat → Int) (nLU : Nat → Int) (nLL : Nat → Int) (nHU : Nat → Int) (nHL : Nat → Int) : Option (Int × (Nat → Int) × (Nat → Int) × (Nat → Int) × (Nat → Int) × (Nat → Int) × (Nat → Int) × (Nat → Int)) :=
  gd (zR nz ∧ zR 1) <|
  if nz < 1 then
    some (0, nT, nN, nG, nLU, nLL, nHU, nHL)
  else
    gd (zR nz ∧ zR 7) <|
    if nz < 7 then
      gd (zin nz 7) <|
      (f_X2_open nz nr (zup nT nz p1) nN nG nLU nLL nHU nHL).bind fun (nN_34, nG_34) =>
      gd (zin nz 7) <|
      zlt ((nN_34 (Int.toNat nz)) + 1) fun v50 =>
      zev (st_X2_further nz nr) (0, v50, (zup nT nz p1), nN_34, nG_34, nLU, nLL, nHU, nHL)
    else
      some (0, nT, nN, nG, nLU, nLL, nHU, nHL)
theorem m_X2_further_1 : (.fieldLink RX2 35 "PulseTurns$Numberings" "size" "I" : Cond) ∈ wsX2_further := List.mem_of_getElem? (i := 1) rfl
theorem m_X2_further_2 : (.fieldLink RX2 9 "PulseTurns$Numberings" "times" "[I" : Cond) ∈ wsX2_further := List.mem_of_getElem? (i := 2) rfl
theorem m_X2_further_3 : (.fieldLink RX2 15 "PulseTurns$Numberings" "numbers" "[I" : Cond) ∈ wsX2_further := List.mem_of_getElem? (i := 3) rfl
theorem m_X2_further_4 : (.fieldLink RX2 18 "PulseTurns$Numberings" "greatest" "[I" : Cond) ∈ wsX2_further := List.mem_of_getElem? (i := 4) rfl
theorem u_X2_further_X2 : ∀ w ∈ wsX20, w ∈ wsX2_further := fun w h => List.mem_cons_of_mem _ (List.mem_append_left _ (List.mem_append_right _ h))
set_option maxRecDepth 100000 in
set_option maxHeartbeats 4000000 in
theorem c_X2_further (l : Launch) (D : va_G) (cy : Nat → ClassId) (nO nQt nQn nQg nQl nP0 nP1 nP2 nP3 nP4 nP5 nP6 : Nat) (sz : Nat) (p1 : Int) (nz : Int) (nr : Int) (nb : Int) (ne : Int) (nT : Nat → Int) (nN : Nat → Int) (nG : Nat → Int) (nLU : Nat → Int) (nLL : Nat → Int) (nHU : Nat → Int) (nHL : Nat → Int) {r : Int} {nT' : Nat → Int} {nN' : Nat → Int} {nG' : Nat → Int} {nLU' : Nat → Int} {nLL' : Nat → Int} {nHU' : Nat → Int} {nHL' : Nat → Int} (hf : f_X2_further p1 nz nr nT nN nG nLU nLL nHU nHL = some (r, nT', nN', nG', nLU', nLL', nHU', nHL')) : zMi l yX2_further wsX2_further ({ frames := 2, cells := 0, slots := 0, locals := 47 }) D cy sz [.ref nO, .int (zI p1)] [eO nO 1 [.ref nQt, .ref nQn, .ref nQg, .ref nQl, .int (zI nz), .int (zI nr), .int (zI nb), .int (zI ne)], eA nQt (cy 0) 7 nT, eA nQn (cy 0) 7 nN, eA nQg (cy 0) 7 nG, eR nQl (cy 4) 7 [nP0, nP1, nP2, nP3, nP4, nP5, nP6], eO nP0 3 [.int (zI (nLU 0)), .int (zI (nLL 0)), .int (zI (nHU 0)), .int (zI (nHL 0))], eO nP1 3 [.int (zI (nLU 1)), .int (zI (nLL 1)), .int (zI (nHU 1)), .int (zI (nHL 1))], eO nP2 3 [.int (zI (nLU 2)), .int (zI (nLL 2)), .int (zI (nHU 2)), .int (zI (nHL 2))], eO nP3 3 [.int (zI (nLU 3)), .int (zI (nLL 3)), .int (zI (nHU 3)), .int (zI (nHL 3))], eO nP4 3 [.int (zI (nLU 4)), .int (zI (nLL 4)), .int (zI (nHU 4)), .int (zI (nHL 4))], eO nP5 3 [.int (zI (nLU 5)), .int (zI (nLL 5)), .int (zI (nHU 5)), .int (zI (nHL 5))], eO nP6 3 [.int (zI (nLU 6)), .int (zI (nLL 6)), .int (zI (nHU 6)), .int (zI (nHL 6))]] [eO nO 1 [.ref nQt, .ref nQn, .ref nQg, .ref nQl, .int (zI nz), .int (zI nr), .int (zI nb), .int (zI ne)], eA nQt (cy 0) 7 nT', eA nQn (cy 0) 7 nN', eA nQg (cy 0) 7 nG', eR nQl (cy 4) 7 [nP0, nP1, nP2, nP3, nP4, nP5, nP6], eO nP0 3 [.int (zI (nLU' 0)), .int (zI (nLL' 0)), .int (zI (nHU' 0)), .int (zI (nHL' 0))], eO nP1 3 [.int (zI (nLU' 1)), .int (zI (nLL' 1)), .int (zI (nHU' 1)), .int (zI (nHL' 1))], eO nP2 3 [.int (zI (nLU' 2)), .int (zI (nLL' 2)), .int (zI (nHU' 2)), .int (zI (nHL' 2))], eO nP3 3 [.int (zI (nLU' 3)), .int (zI (nLL' 3)), .int (zI (nHU' 3)), .int (zI (nHL' 3))], eO nP4 3 [.int (zI (nLU' 4)), .int (zI (nLL' 4)), .int (zI (nHU' 4)), .int (zI (nHL' 4))], eO nP5 3 [.int (zI (nLU' 5)), .int (zI (nLL' 5)), .int (zI (nHU' 5)), .int (zI (nHL' 5))], eO nP6 3 [.int (zI (nLU' 6)), .int (zI (nLL' 6)), .int (zI (nHU' 6)), .int (zI (nHL' 6))]] (zI r) := by
  refine Met.ofW (cc := cX2_further) (maxL := 4) (ret := (some .int)) (by decide) rfl ?_
  intro p e s m args below meth c s₁ B hml hv
  obtain ⟨rfl, hsz, hP, hK, hD0⟩ := hv
  have hx := B.exec
  have hb := B.bytes
  have hr := B.returns
  have hts := atoms_spec (ws := wsX2_further) B.pre
  have hown : s.vm.findClass RX2 = some m.cls := findClass_of_methodNamed B.named
  have hlocks := B.notSynchronized
  subst hsz
  have hD := hD0.self (sz := s.heap.size)
  generalize hAe : va_A [eO nO 1 [.ref nQt, .ref nQn, .ref nQg, .ref nQl, .int (zI nz), .int (zI nr), .int (zI nb), .int (zI ne)], eA nQt (cy 0) 7 nT, eA nQn (cy 0) 7 nN, eA nQg (cy 0) 7 nG, eR nQl (cy 4) 7 [nP0, nP1, nP2, nP3, nP4, nP5, nP6], eO nP0 3 [.int (zI (nLU 0)), .int (zI (nLL 0)), .int (zI (nHU 0)), .int (zI (nHL 0))], eO nP1 3 [.int (zI (nLU 1)), .int (zI (nLL 1)), .int (zI (nHU 1)), .int (zI (nHL 1))], eO nP2 3 [.int (zI (nLU 2)), .int (zI (nLL 2)), .int (zI (nHU 2)), .int (zI (nHL 2))], eO nP3 3 [.int (zI (nLU 3)), .int (zI (nLL 3)), .int (zI (nHU 3)), .int (zI (nHL 3))], eO nP4 3 [.int (zI (nLU 4)), .int (zI (nLL 4)), .int (zI (nHU 4)), .int (zI (nHL 4))], eO nP5 3 [.int (zI (nLU 5)), .int (zI (nLL 5)), .int (zI (nHU 5)), .int (zI (nHL 5))], eO nP6 3 [.int (zI (nLU 6)), .int (zI (nLL 6)), .int (zI (nHU 6)), .int (zI (nHL 6))]] s.heap.size = A at hD ⊢
  have hA : ∀ q : Nat, s.heap.size ≤ q → A q := fun q h => by rw [← hAe]; exact Or.inr h
  have hS : va_S A s.heap s.heap [] := va_S.rf
  have hl := lv_entry ([.ref nO, .int (zI p1)]) (n := 4) (Nat.le_of_ble_eq_true rfl)
  rw [lg_entry_eq]
  generalize (lg_sl ([.ref nO, .int (zI p1)]) ++ List.replicate (4 - (lg_sl ([.ref nO, .int (zI p1)])).length) Slot.unset).toArray = ls at hl ⊢
  have hl : lv_has ls 4 [(0, .ref nO), (1, .int (zI p1))] := hl
  have hf := zq_of hf
  have key := zloop (st := st_X2_further nz nr) (res := (r, nT', nN', nG', nLU', nLL', nHU', nHL')) (K := fun (x2, x3, nT, nN, nG, nLU, nLL, nHU, nHL) => ∀ (H : Heap) (locs : List Loc) (ls : Array Slot), va_P D vwCl [eO nO 1 [.ref nQt, .ref nQn, .ref nQg, .ref nQl, .int (zI nz), .int (zI nr), .int (zI nb), .int (zI ne)], eA nQt (cy 0) 7 nT, eA nQn (cy 0) 7 nN, eA nQg (cy 0) 7 nG, eR nQl (cy 4) 7 [nP0, nP1, nP2, nP3, nP4, nP5, nP6], eO nP0 3 [.int (zI (nLU 0)), .int (zI (nLL 0)), .int (zI (nHU 0)), .int (zI (nHL 0))], eO nP1 3 [.int (zI (nLU 1)), .int (zI (nLL 1)), .int (zI (nHU 1)), .int (zI (nHL 1))], eO nP2 3 [.int (zI (nLU 2)), .int (zI (nLL 2)), .int (zI (nHU 2)), .int (zI (nHL 2))], eO nP3 3 [.int (zI (nLU 3)), .int (zI (nLL 3)), .int (zI (nHU 3)), .int (zI (nHL 3))], eO nP4 3 [.int (zI (nLU 4)), .int (zI (nLL 4)), .int (zI (nHU 4)), .int (zI (nHL 4))], eO nP5 3 [.int (zI (nLU 5)), .int (zI (nLL 5)), .int (zI (nHU 5)), .int (zI (nHL 5))], eO nP6 3 [.int (zI (nLU 6)), .int (zI (nLL 6)), .int (zI (nHU 6)), .int (zI (nHL 6))]] H → va_D A [eO nO 1 [.ref nQt, .ref nQn, .ref nQg, .ref nQl, .int (zI nz), .int (zI nr), .int (zI nb), .int (zI ne)], eA nQt (cy 0) 7 nT, eA nQn (cy 0) 7 nN, eA nQg (cy 0) 7 nG, eR nQl (cy 4) 7 [nP0, nP1, nP2, nP3, nP4, nP5, nP6], eO nP0 3 [.int (zI (nLU 0)), .int (zI (nLL 0)), .int (zI (nHU 0)), .int (zI (nHL 0))], eO nP1 3 [.int (zI (nLU 1)), .int (zI (nLL 1)), .int (zI (nHU 1)), .int (zI (nHL 1))], eO nP2 3 [.int (zI (nLU 2)), .int (zI (nLL 2)), .int (zI (nHU 2)), .int (zI (nHL 2))], eO nP3 3 [.int (zI (nLU 3)), .int (zI (nLL 3)), .int (zI (nHU 3)), .int (zI (nHL 3))], eO nP4 3 [.int (zI (nLU 4)), .int (zI (nLL 4)), .int (zI (nHU 4)), .int (zI (nHL 4))], eO nP5 3 [.int (zI (nLU 5)), .int (zI (nLL 5)), .int (zI (nHU 5)), .int (zI (nHL 5))], eO nP6 3 [.int (zI (nLU 6)), .int (zI (nLL 6)), .int (zI (nHU 6)), .int (zI (nHL 6))]] → va_S A s.heap H locs → lv_has ls 4 [(0, .ref nO), (1, .int (zI p1)), (2, .int (zI x2)), (3, .int (zI x3))] → zGi p l e wsX2_further ({ frames := 2, cells := 0, slots := 0, locals := 47 }) s m [.ref nO, .int (zI p1)] below meth c A D [eO nO 1 [.ref nQt, .ref nQn, .ref nQg, .ref nQl, .int (zI nz), .int (zI nr), .int (zI nb), .int (zI ne)], eA nQt (cy 0) 7 nT', eA nQn (cy 0) 7 nN', eA nQg (cy 0) 7 nG', eR nQl (cy 4) 7 [nP0, nP1, nP2, nP3, nP4, nP5, nP6], eO nP0 3 [.int (zI (nLU' 0)), .int (zI (nLL' 0)), .int (zI (nHU' 0)), .int (zI (nHL' 0))], eO nP1 3 [.int (zI (nLU' 1)), .int (zI (nLL' 1)), .int (zI (nHU' 1)), .int (zI (nHL' 1))], eO nP2 3 [.int (zI (nLU' 2)), .int (zI (nLL' 2)), .int (zI (nHU' 2)), .int (zI (nHL' 2))], eO nP3 3 [.int (zI (nLU' 3)), .int (zI (nLL' 3)), .int (zI (nHU' 3)), .int (zI (nHL' 3))], eO nP4 3 [.int (zI (nLU' 4)), .int (zI (nLL' 4)), .int (zI (nHU' 4)), .int (zI (nHL' 4))], eO nP5 3 [.int (zI (nLU' 5)), .int (zI (nLL' 5)), .int (zI (nHU' 5)), .int (zI (nHL' 5))], eO nP6 3 [.int (zI (nLU' 6)), .int (zI (nLL' 6)), .int (zI (nHU' 6)), .int (zI (nHL' 6))]] (zI r) H locs (F0 m 51 ls [])) (by
    rintro ⟨x2, x3, nT, nN, nG, nLU, nLL, nHU, nHL⟩ hf
    intro H locs ls hP hD hS hl
    unfold st_X2_further at hf
    try dsimp only at hf
    refine lv_iload_n hx hb dX2_further_51 rfl (lv_at hl 3 rfl) ?_
    refine lv_aload_n hx hb dX2_further_52 rfl (lv_at hl 0 rfl) ?_
    refine va_get (D := D) (ci := 1) (v := .ref nQg) (C := RX2) (T := TX2) (N := 8) hx hb hts u_X2_further_X2 hown hK.1 hP 0 rfl rfl 2 (by decide) (hts _ m_X2_further_4) (fun _ h9 => h9) rfl dX2_further_53 ?_
    refine lv_aload_n hx hb dX2_further_56 rfl (lv_at hl 0 rfl) ?_
    refine va_get (D := D) (ci := 1) (v := .int (zI nz)) (C := RX2) (T := TX2) (N := 8) hx hb hts u_X2_further_X2 hown hK.1 hP 0 rfl rfl 4 (by decide) (hts _ m_X2_further_1) (fun _ h9 => h9) rfl dX2_further_57 ?_
    obtain ⟨hg, hf⟩ := zq_gd hf
    refine zz_iald (i := nz) hx hb hK hP 3 rfl (Nat.le_of_ble_eq_true rfl) hg dX2_further_60 ?_
    refine zz_icmp_gt (tgt := 94) hx hb dX2_further_61 (by decide) hf (fun hc hf => ?_) (fun hc hf => ?_)
    · refine lv_aload_n hx hb dX2_further_64 rfl (lv_at hl 0 rfl) ?_
      refine va_get (D := D) (ci := 1) (v := .ref nQn) (C := RX2) (T := TX2) (N := 8) hx hb hts u_X2_further_X2 hown hK.1 hP 0 rfl rfl 1 (by decide) (hts _ m_X2_further_3) (fun _ h9 => h9) rfl dX2_further_65 ?_
      refine lv_aload_n hx hb dX2_further_68 rfl (lv_at hl 0 rfl) ?_
      refine va_get (D := D) (ci := 1) (v := .int (zI nz)) (C := RX2) (T := TX2) (N := 8) hx hb hts u_X2_further_X2 hown hK.1 hP 0 rfl rfl 4 (by decide) (hts _ m_X2_further_1) (fun _ h9 => h9) rfl dX2_further_69 ?_
      refine lv_iload_n hx hb dX2_further_72 rfl (lv_at hl 3 rfl) ?_
      obtain ⟨hg, hf⟩ := zq_gd hf
      refine zz_iast (i := nz) hx hb hK hP hD hS 2 rfl (Nat.le_of_ble_eq_true rfl) hg dX2_further_73 (fun H locs hP hD hS => ?_)
      have hP : va_P D vwCl [eO nO 1 [.ref nQt, .ref nQn, .ref nQg, .ref nQl, .int (zI nz), .int (zI nr), .int (zI nb), .int (zI ne)], eA nQt (cy 0) 7 nT, eA nQn (cy 0) 7 (zup nN nz x3), eA nQg (cy 0) 7 nG, eR nQl (cy 4) 7 [nP0, nP1, nP2, nP3, nP4, nP5, nP6], eO nP0 3 [.int (zI (nLU 0)), .int (zI (nLL 0)), .int (zI (nHU 0)), .int (zI (nHL 0))], eO nP1 3 [.int (zI (nLU 1)), .int (zI (nLL 1)), .int (zI (nHU 1)), .int (zI (nHL 1))], eO nP2 3 [.int (zI (nLU 2)), .int (zI (nLL 2)), .int (zI (nHU 2)), .int (zI (nHL 2))], eO nP3 3 [.int (zI (nLU 3)), .int (zI (nLL 3)), .int (zI (nHU 3)), .int (zI (nHL 3))], eO nP4 3 [.int (zI (nLU 4)), .int (zI (nLL 4)), .int (zI (nHU 4)), .int (zI (nHL 4))], eO nP5 3 [.int (zI (nLU 5)), .int (zI (nLL 5)), .int (zI (nHU 5)), .int (zI (nHL 5))], eO nP6 3 [.int (zI (nLU 6)), .int (zI (nLL 6)), .int (zI (nHU 6)), .int (zI (nHL 6))]] H := hP
      have hD : va_D A [eO nO 1 [.ref nQt, .ref nQn, .ref nQg, .ref nQl, .int (zI nz), .int (zI nr), .int (zI nb), .int (zI ne)], eA nQt (cy 0) 7 nT, eA nQn (cy 0) 7 (zup nN nz x3), eA nQg (cy 0) 7 nG, eR nQl (cy 4) 7 [nP0, nP1, nP2, nP3, nP4, nP5, nP6], eO nP0 3 [.int (zI (nLU 0)), .int (zI (nLL 0)), .int (zI (nHU 0)), .int (zI (nHL 0))], eO nP1 3 [.int (zI (nLU 1)), .int (zI (nLL 1)), .int (zI (nHU 1)), .int (zI (nHL 1))], eO nP2 3 [.int (zI (nLU 2)), .int (zI (nLL 2)), .int (zI (nHU 2)), .int (zI (nHL 2))], eO nP3 3 [.int (zI (nLU 3)), .int (zI (nLL 3)), .int (zI (nHU 3)), .int (zI (nHL 3))], eO nP4 3 [.int (zI (nLU 4)), .int (zI (nLL 4)), .int (zI (nHU 4)), .int (zI (nHL 4))], eO nP5 3 [.int (zI (nLU 5)), .int (zI (nLL 5)), .int (zI (nHU 5)), .int (zI (nHL 5))], eO nP6 3 [.int (zI (nLU 6)), .int (zI (nLL 6)), .int (zI (nHU 6)), .int (zI (nHL 6))]] := hD
      refine lv_aload_n hx hb dX2_further_74 rfl (lv_at hl 0 rfl) ?_
      refine lv_aload_n hx hb dX2_further_75 rfl (lv_at hl 0 rfl) ?_
      refine va_get (D := D) (ci := 1) (v := .int (zI nz)) (C := RX2) (T := TX2) (N := 8) hx hb hts u_X2_further_X2 hown hK.1 hP 0 rfl rfl 4 (by decide) (hts _ m_X2_further_1) (fun _ h9 => h9) rfl dX2_further_76 ?_
      obtain ⟨⟨r79, nLU_79, nLL_79, nHU_79, nHL_79⟩, hc79, hf⟩ := zq_bind hf
      refine zcallVi (wr := [eA nQg (cy 0) 7 nG]) (rest := []) ⟨hx, hb, hml, hown, hts⟩ (c_X2_fits l D cy nO nQt nQn nQg nQl nP0 nP1 nP2 nP3 nP4 nP5 nP6 H.size nz nz nr nb ne nT (zup nN nz x3) nLU nLL nHU nHL hc79) (cwV 1 hts gX2_further_X2_fits rfl rfl rfl (by decide +kernel) ⟨Nat.le_of_ble_eq_true rfl, Nat.le_of_ble_eq_true rfl⟩) hK hP hD hS hA [0, 1, 2, 4, 5, 6, 7, 8, 9, 10, 11] [3] rfl rfl rfl rfl (by decide) (va_recv hK.1 hP (ci := 1) (q0 := 0) rfl rfl) rfl hl.1 rfl (Nat.le_of_ble_eq_true rfl) dX2_further_79 ⟨Nat.zero_le _, Nat.zero_le _⟩ (fun H locs hP hD hS => ?_)
      have hP : va_P D vwCl [eO nO 1 [.ref nQt, .ref nQn, .ref nQg, .ref nQl, .int (zI nz), .int (zI nr), .int (zI nb), .int (zI ne)], eA nQt (cy 0) 7 nT, eA nQn (cy 0) 7 (zup nN nz x3), eA nQg (cy 0) 7 nG, eR nQl (cy 4) 7 [nP0, nP1, nP2, nP3, nP4, nP5, nP6], eO nP0 3 [.int (zI (nLU_79 0)), .int (zI (nLL_79 0)), .int (zI (nHU_79 0)), .int (zI (nHL_79 0))], eO nP1 3 [.int (zI (nLU_79 1)), .int (zI (nLL_79 1)), .int (zI (nHU_79 1)), .int (zI (nHL_79 1))], eO nP2 3 [.int (zI (nLU_79 2)), .int (zI (nLL_79 2)), .int (zI (nHU_79 2)), .int (zI (nHL_79 2))], eO nP3 3 [.int (zI (nLU_79 3)), .int (zI (nLL_79 3)), .int (zI (nHU_79 3)), .int (zI (nHL_79 3))], eO nP4 3 [.int (zI (nLU_79 4)), .int (zI (nLL_79 4)), .int (zI (nHU_79 4)), .int (zI (nHL_79 4))], eO nP5 3 [.int (zI (nLU_79 5)), .int (zI (nLL_79 5)), .int (zI (nHU_79 5)), .int (zI (nHL_79 5))], eO nP6 3 [.int (zI (nLU_79 6)), .int (zI (nLL_79 6)), .int (zI (nHU_79 6)), .int (zI (nHL_79 6))]] H := hP.sub [1, 2, 3, 0, 4, 5, 6, 7, 8, 9, 10, 11] rfl
      have hD : va_D A [eO nO 1 [.ref nQt, .ref nQn, .ref nQg, .ref nQl, .int (zI nz), .int (zI nr), .int (zI nb), .int (zI ne)], eA nQt (cy 0) 7 nT, eA nQn (cy 0) 7 (zup nN nz x3), eA nQg (cy 0) 7 nG, eR nQl (cy 4) 7 [nP0, nP1, nP2, nP3, nP4, nP5, nP6], eO nP0 3 [.int (zI (nLU_79 0)), .int (zI (nLL_79 0)), .int (zI (nHU_79 0)), .int (zI (nHL_79 0))], eO nP1 3 [.int (zI (nLU_79 1)), .int (zI (nLL_79 1)), .int (zI (nHU_79 1)), .int (zI (nHL_79 1))], eO nP2 3 [.int (zI (nLU_79 2)), .int (zI (nLL_79 2)), .int (zI (nHU_79 2)), .int (zI (nHL_79 2))], eO nP3 3 [.int (zI (nLU_79 3)), .int (zI (nLL_79 3)), .int (zI (nHU_79 3)), .int (zI (nHL_79 3))], eO nP4 3 [.int (zI (nLU_79 4)), .int (zI (nLL_79 4)), .int (zI (nHU_79 4)), .int (zI (nHL_79 4))], eO nP5 3 [.int (zI (nLU_79 5)), .int (zI (nLL_79 5)), .int (zI (nHU_79 5)), .int (zI (nHL_79 5))], eO nP6 3 [.int (zI (nLU_79 6)), .int (zI (nLL_79 6)), .int (zI (nHU_79 6)), .int (zI (nHL_79 6))]] := hD.sub [1, 2, 3, 0, 4, 5, 6, 7, 8, 9, 10, 11] rfl rfl
      refine zz_if_eq (tgt := 88) hx hb dX2_further_82 (by decide) hf (fun hc hf => ?_) (fun hc hf => ?_)
      · refine lv_iinc (v := zI (x3 + 1)) (lv' := [(3, .int (zI (x3 + 1))), (0, .ref nO), (1, .int (zI p1)), (2, .int (zI x2))]) hx hb dX2_further_88 hl (k := 3) rfl (zI_add _ _) (by decide) rfl (fun ls hl => ?_)
        refine lv_goto (tgt := 51) hx hb dX2_further_91 (by decide) ?_
        have hf := zq_some hf
        exact hf _ _ _ hP hD hS (lv_sub hl [1, 2, 3, 0] rfl)
      · refine lv_iinc (v := zI (x2 + 1)) (lv' := [(2, .int (zI (x2 + 1))), (0, .ref nO), (1, .int (zI p1)), (3, .int (zI x3))]) hx hb dX2_further_85 hl (k := 2) rfl (zI_add _ _) (by decide) rfl (fun ls hl => ?_)
        refine lv_iinc (v := zI (x3 + 1)) (lv' := [(3, .int (zI (x3 + 1))), (2, .int (zI (x2 + 1))), (0, .ref nO), (1, .int (zI p1))]) hx hb dX2_further_88 hl (k := 3) rfl (zI_add _ _) (by decide) rfl (fun ls hl => ?_)
        refine lv_goto (tgt := 51) hx hb dX2_further_91 (by decide) ?_
        have hf := zq_some hf
        exact hf _ _ _ hP hD hS (lv_sub hl [2, 3, 1, 0] rfl)
    · refine lv_iload_n hx hb dX2_further_94 rfl (lv_at hl 2 rfl) ?_
      have hf := zq_some hf
      cases hf
      exact W.iret hx hb hr (fun t ht hW => ⟨⟨_, (), rfl, rfl, by rw [ht]; exact hP, hD⟩, hS.F ht⟩) hS.2.2 dX2_further_95
    )
  unfold f_X2_further at hf
  refine lv_aload_n hx hb dX2_further_0 rfl (lv_at hl 0 rfl) ?_
  refine va_get (D := D) (ci := 1) (v := .int (zI nz)) (C := RX2) (T := TX2) (N := 8) hx hb hts u_X2_further_X2 hown hK.1 hP 0 rfl rfl 4 (by decide) (hts _ m_X2_further_1) (fun _ h9 => h9) rfl dX2_further_1 ?_
  refine lv_iconst (v := zI 1) hx hb dX2_further_4 rfl ?_
  refine zz_icmp_lt (tgt := 17) hx hb dX2_further_5 (by decide) hf (fun hc hf => ?_) (fun hc hf => ?_)
  · refine lv_iconst (v := zI 0) hx hb dX2_further_17 rfl ?_
    have hf := zq_some hf
    cases hf
    exact W.iret hx hb hr (fun t ht hW => ⟨⟨_, (), rfl, rfl, by rw [ht]; exact hP, hD⟩, hS.F ht⟩) hS.2.2 dX2_further_18
  · refine lv_aload_n hx hb dX2_further_8 rfl (lv_at hl 0 rfl) ?_
    refine va_get (D := D) (ci := 1) (v := .int (zI nz)) (C := RX2) (T := TX2) (N := 8) hx hb hts u_X2_further_X2 hown hK.1 hP 0 rfl rfl 4 (by decide) (hts _ m_X2_further_1) (fun _ h9 => h9) rfl dX2_further_9 ?_
    refine lv_bipush (v := zI 7) hx hb dX2_further_12 (by decide) ?_
    refine zz_icmp_lt (tgt := 19) hx hb dX2_further_14 (by decide) hf (fun hc hf => ?_) (fun hc hf => ?_)
    · refine lv_aload_n hx hb dX2_further_19 rfl (lv_at hl 0 rfl) ?_
      refine va_get (D := D) (ci := 1) (v := .ref nQt) (C := RX2) (T := TX2) (N := 8) hx hb hts u_X2_further_X2 hown hK.1 hP 0 rfl rfl 0 (by decide) (hts _ m_X2_further_2) (fun _ h9 => h9) rfl dX2_further_20 ?_
      refine lv_aload_n hx hb dX2_further_23 rfl (lv_at hl 0 rfl) ?_
      refine va_get (D := D) (ci := 1) (v := .int (zI nz)) (C := RX2) (T := TX2) (N := 8) hx hb hts u_X2_further_X2 hown hK.1 hP 0 rfl rfl 4 (by decide) (hts _ m_X2_further_1) (fun _ h9 => h9) rfl dX2_further_24 ?_
      refine lv_iload_n hx hb dX2_further_27 rfl (lv_at hl 1 rfl) ?_
      obtain ⟨hg, hf⟩ := zq_gd hf
      refine zz_iast (i := nz) hx hb hK hP hD hS 1 rfl (Nat.le_of_ble_eq_true rfl) hg dX2_further_28 (fun H locs hP hD hS => ?_)
      have hP : va_P D vwCl [eO nO 1 [.ref nQt, .ref nQn, .ref nQg, .ref nQl, .int (zI nz), .int (zI nr), .int (zI nb), .int (zI ne)], eA nQt (cy 0) 7 (zup nT nz p1), eA nQn (cy 0) 7 nN, eA nQg (cy 0) 7 nG, eR nQl (cy 4) 7 [nP0, nP1, nP2, nP3, nP4, nP5, nP6], eO nP0 3 [.int (zI (nLU 0)), .int (zI (nLL 0)), .int (zI (nHU 0)), .int (zI (nHL 0))], eO nP1 3 [.int (zI (nLU 1)), .int (zI (nLL 1)), .int (zI (nHU 1)), .int (zI (nHL 1))], eO nP2 3 [.int (zI (nLU 2)), .int (zI (nLL 2)), .int (zI (nHU 2)), .int (zI (nHL 2))], eO nP3 3 [.int (zI (nLU 3)), .int (zI (nLL 3)), .int (zI (nHU 3)), .int (zI (nHL 3))], eO nP4 3 [.int (zI (nLU 4)), .int (zI (nLL 4)), .int (zI (nHU 4)), .int (zI (nHL 4))], eO nP5 3 [.int (zI (nLU 5)), .int (zI (nLL 5)), .int (zI (nHU 5)), .int (zI (nHL 5))], eO nP6 3 [.int (zI (nLU 6)), .int (zI (nLL 6)), .int (zI (nHU 6)), .int (zI (nHL 6))]] H := hP
      have hD : va_D A [eO nO 1 [.ref nQt, .ref nQn, .ref nQg, .ref nQl, .int (zI nz), .int (zI nr), .int (zI nb), .int (zI ne)], eA nQt (cy 0) 7 (zup nT nz p1), eA nQn (cy 0) 7 nN, eA nQg (cy 0) 7 nG, eR nQl (cy 4) 7 [nP0, nP1, nP2, nP3, nP4, nP5, nP6], eO nP0 3 [.int (zI (nLU 0)), .int (zI (nLL 0)), .int (zI (nHU 0)), .int (zI (nHL 0))], eO nP1 3 [.int (zI (nLU 1)), .int (zI (nLL 1)), .int (zI (nHU 1)), .int (zI (nHL 1))], eO nP2 3 [.int (zI (nLU 2)), .int (zI (nLL 2)), .int (zI (nHU 2)), .int (zI (nHL 2))], eO nP3 3 [.int (zI (nLU 3)), .int (zI (nLL 3)), .int (zI (nHU 3)), .int (zI (nHL 3))], eO nP4 3 [.int (zI (nLU 4)), .int (zI (nLL 4)), .int (zI (nHU 4)), .int (zI (nHL 4))], eO nP5 3 [.int (zI (nLU 5)), .int (zI (nLL 5)), .int (zI (nHU 5)), .int (zI (nHL 5))], eO nP6 3 [.int (zI (nLU 6)), .int (zI (nLL 6)), .int (zI (nHU 6)), .int (zI (nHL 6))]] := hD
      refine lv_aload_n hx hb dX2_further_29 rfl (lv_at hl 0 rfl) ?_
      refine lv_aload_n hx hb dX2_further_30 rfl (lv_at hl 0 rfl) ?_
      refine va_get (D := D) (ci := 1) (v := .int (zI nz)) (C := RX2) (T := TX2) (N := 8) hx hb hts u_X2_further_X2 hown hK.1 hP 0 rfl rfl 4 (by decide) (hts _ m_X2_further_1) (fun _ h9 => h9) rfl dX2_further_31 ?_
      obtain ⟨⟨nN_34, nG_34⟩, hc34, hf⟩ := zq_bind hf
      refine zcallVv (wr := []) (rest := []) ⟨hx, hb, hml, hown, hts⟩ (c_X2_open l D cy nO nQt nQn nQg nQl nP0 nP1 nP2 nP3 nP4 nP5 nP6 H.size nz nz nr nb ne (zup nT nz p1) nN nG nLU nLL nHU nHL hc34) (cwV 1 hts gX2_further_X2_open rfl rfl rfl (by decide +kernel) ⟨Nat.le_of_ble_eq_true rfl, Nat.le_of_ble_eq_true rfl⟩) hK hP hD hS hA [0, 1, 2, 3, 4, 5, 6, 7, 8, 9, 10, 11] [] rfl rfl rfl rfl (by decide) (va_recv hK.1 hP (ci := 1) (q0 := 0) rfl rfl) rfl hl.1 rfl (Nat.le_of_ble_eq_true rfl) dX2_further_34 ⟨Nat.zero_le _, Nat.zero_le _⟩ (fun H locs hP hD hS => ?_)
      have hP : va_P D vwCl [eO nO 1 [.ref nQt, .ref nQn, .ref nQg, .ref nQl, .int (zI nz), .int (zI nr), .int (zI nb), .int (zI ne)], eA nQt (cy 0) 7 (zup nT nz p1), eA nQn (cy 0) 7 nN_34, eA nQg (cy 0) 7 nG_34, eR nQl (cy 4) 7 [nP0, nP1, nP2, nP3, nP4, nP5, nP6], eO nP0 3 [.int (zI (nLU 0)), .int (zI (nLL 0)), .int (zI (nHU 0)), .int (zI (nHL 0))], eO nP1 3 [.int (zI (nLU 1)), .int (zI (nLL 1)), .int (zI (nHU 1)), .int (zI (nHL 1))], eO nP2 3 [.int (zI (nLU 2)), .int (zI (nLL 2)), .int (zI (nHU 2)), .int (zI (nHL 2))], eO nP3 3 [.int (zI (nLU 3)), .int (zI (nLL 3)), .int (zI (nHU 3)), .int (zI (nHL 3))], eO nP4 3 [.int (zI (nLU 4)), .int (zI (nLL 4)), .int (zI (nHU 4)), .int (zI (nHL 4))], eO nP5 3 [.int (zI (nLU 5)), .int (zI (nLL 5)), .int (zI (nHU 5)), .int (zI (nHL 5))], eO nP6 3 [.int (zI (nLU 6)), .int (zI (nLL 6)), .int (zI (nHU 6)), .int (zI (nHL 6))]] H := hP.sub [0, 1, 2, 3, 4, 5, 6, 7, 8, 9, 10, 11] rfl
      have hD : va_D A [eO nO 1 [.ref nQt, .ref nQn, .ref nQg, .ref nQl, .int (zI nz), .int (zI nr), .int (zI nb), .int (zI ne)], eA nQt (cy 0) 7 (zup nT nz p1), eA nQn (cy 0) 7 nN_34, eA nQg (cy 0) 7 nG_34, eR nQl (cy 4) 7 [nP0, nP1, nP2, nP3, nP4, nP5, nP6], eO nP0 3 [.int (zI (nLU 0)), .int (zI (nLL 0)), .int (zI (nHU 0)), .int (zI (nHL 0))], eO nP1 3 [.int (zI (nLU 1)), .int (zI (nLL 1)), .int (zI (nHU 1)), .int (zI (nHL 1))], eO nP2 3 [.int (zI (nLU 2)), .int (zI (nLL 2)), .int (zI (nHU 2)), .int (zI (nHL 2))], eO nP3 3 [.int (zI (nLU 3)), .int (zI (nLL 3)), .int (zI (nHU 3)), .int (zI (nHL 3))], eO nP4 3 [.int (zI (nLU 4)), .int (zI (nLL 4)), .int (zI (nHU 4)), .int (zI (nHL 4))], eO nP5 3 [.int (zI (nLU 5)), .int (zI (nLL 5)), .int (zI (nHU 5)), .int (zI (nHL 5))], eO nP6 3 [.int (zI (nLU 6)), .int (zI (nLL 6)), .int (zI (nHU 6)), .int (zI (nHL 6))]] := hD.sub [0, 1, 2, 3, 4, 5, 6, 7, 8, 9, 10, 11] rfl rfl
      refine lv_iconst (v := zI 0) hx hb dX2_further_37 rfl ?_
      refine lv_istore_n (lv' := [(2, .int (zI 0)), (0, .ref nO), (1, .int (zI p1))]) hx hb dX2_further_38 rfl hl (by decide) rfl (fun ls hl => ?_)
      refine lv_aload_n hx hb dX2_further_39 rfl (lv_at hl 1 rfl) ?_
      refine va_get (D := D) (ci := 1) (v := .ref nQn) (C := RX2) (T := TX2) (N := 8) hx hb hts u_X2_further_X2 hown hK.1 hP 0 rfl rfl 1 (by decide) (hts _ m_X2_further_3) (fun _ h9 => h9) rfl dX2_further_40 ?_
      refine lv_aload_n hx hb dX2_further_43 rfl (lv_at hl 1 rfl) ?_
      refine va_get (D := D) (ci := 1) (v := .int (zI nz)) (C := RX2) (T := TX2) (N := 8) hx hb hts u_X2_further_X2 hown hK.1 hP 0 rfl rfl 4 (by decide) (hts _ m_X2_further_1) (fun _ h9 => h9) rfl dX2_further_44 ?_
      obtain ⟨hg, hf⟩ := zq_gd hf
      refine zz_iald (i := nz) hx hb hK hP 2 rfl (Nat.le_of_ble_eq_true rfl) hg dX2_further_47 ?_
      refine lv_iconst (v := zI 1) hx hb dX2_further_48 rfl ?_
      refine zz_iadd hx hb dX2_further_49 ?_
      obtain ⟨v50, e50, hf⟩ := zq_lt hf
      refine zz_top e50 ?_
      refine lv_istore_n (lv' := [(3, .int (zI v50)), (2, .int (zI 0)), (0, .ref nO), (1, .int (zI p1))]) hx hb dX2_further_50 rfl hl (by decide) rfl (fun ls hl => ?_)
      exact key _ (zq_eq hf) _ _ _ hP hD hS (lv_sub hl [2, 3, 1, 0] rfl)
    · refine lv_iconst (v := zI 0) hx hb dX2_further_17 rfl ?_
      have hf := zq_some hf
      cases hf
      exact W.iret hx hb hr (fun t ht hW => ⟨⟨_, (), rfl, rfl, by rw [ht]; exact hP, hD⟩, hS.F ht⟩) hS.2.2 dX2_further_18

noncomputable def f_X2_boxPart (p1 : Int) (nz : Int) (nLU : Nat → Int) (nLL : Nat → Int) (nHU : Nat → Int) (nHL : Nat → Int) : Option (Int) :=
  gd (zR nz ∧ zR 1) <|
  if nz < 1 then
    some (-9)
  else
    gd (zR nz ∧ zR 7) <|
    if nz ≤ 7 then
      gd (zin (nz - 1) 7) <|
      (f_X4_part p1 (nLU (Int.toNat (nz - 1))) (nLL (Int.toNat (nz - 1))) (nHU (Int.toNat (nz - 1))) (nHL (Int.toNat (nz - 1)))).bind fun r29 =>
      some r29
    else
      some (-9)
theorem m_X2_boxPart_1 : (.fieldLink RX2 35 "PulseTurns$Numberings" "size" "I" : Cond) ∈ wsX2_boxPart := List.mem_of_getElem? (i := 1) rfl
theorem m_X2_boxPart_2 : (.fieldLink RX2 23 "PulseTurns$Numberings" "leaves" "[LPulseTurns$Periods;" : Cond) ∈ wsX2_boxPart := List.mem_of_getElem? (i := 2) rfl
theorem u_X2_boxPart_X2 : ∀ w ∈ wsX20, w ∈ wsX2_boxPart := fun w h => List.mem_cons_of_mem _ (List.mem_append_left _ (List.mem_append_right _ h))
set_option maxRecDepth 100000 in
set_option maxHeartbeats 4000000 in
theorem c_X2_boxPart (l : Launch) (D : va_G) (cy : Nat → ClassId) (nO nQt nQn nQg nQl nP0 nP1 nP2 nP3 nP4 nP5 nP6 : Nat) (sz : Nat) (p1 : Int) (nz : Int) (nr : Int) (nb : Int) (ne : Int) (nLU : Nat → Int) (nLL : Nat → Int) (nHU : Nat → Int) (nHL : Nat → Int) {r : Int} (hf : f_X2_boxPart p1 nz nLU nLL nHU nHL = some r) : zMi l yX2_boxPart wsX2_boxPart ({ frames := 3, cells := 0, slots := 0, locals := 69 }) D cy sz [.ref nO, .int (zI p1)] [eO nO 1 [.ref nQt, .ref nQn, .ref nQg, .ref nQl, .int (zI nz), .int (zI nr), .int (zI nb), .int (zI ne)], eR nQl (cy 4) 7 [nP0, nP1, nP2, nP3, nP4, nP5, nP6], eO nP0 3 [.int (zI (nLU 0)), .int (zI (nLL 0)), .int (zI (nHU 0)), .int (zI (nHL 0))], eO nP1 3 [.int (zI (nLU 1)), .int (zI (nLL 1)), .int (zI (nHU 1)), .int (zI (nHL 1))], eO nP2 3 [.int (zI (nLU 2)), .int (zI (nLL 2)), .int (zI (nHU 2)), .int (zI (nHL 2))], eO nP3 3 [.int (zI (nLU 3)), .int (zI (nLL 3)), .int (zI (nHU 3)), .int (zI (nHL 3))], eO nP4 3 [.int (zI (nLU 4)), .int (zI (nLL 4)), .int (zI (nHU 4)), .int (zI (nHL 4))], eO nP5 3 [.int (zI (nLU 5)), .int (zI (nLL 5)), .int (zI (nHU 5)), .int (zI (nHL 5))], eO nP6 3 [.int (zI (nLU 6)), .int (zI (nLL 6)), .int (zI (nHU 6)), .int (zI (nHL 6))]] [eO nO 1 [.ref nQt, .ref nQn, .ref nQg, .ref nQl, .int (zI nz), .int (zI nr), .int (zI nb), .int (zI ne)], eR nQl (cy 4) 7 [nP0, nP1, nP2, nP3, nP4, nP5, nP6], eO nP0 3 [.int (zI (nLU 0)), .int (zI (nLL 0)), .int (zI (nHU 0)), .int (zI (nHL 0))], eO nP1 3 [.int (zI (nLU 1)), .int (zI (nLL 1)), .int (zI (nHU 1)), .int (zI (nHL 1))], eO nP2 3 [.int (zI (nLU 2)), .int (zI (nLL 2)), .int (zI (nHU 2)), .int (zI (nHL 2))], eO nP3 3 [.int (zI (nLU 3)), .int (zI (nLL 3)), .int (zI (nHU 3)), .int (zI (nHL 3))], eO nP4 3 [.int (zI (nLU 4)), .int (zI (nLL 4)), .int (zI (nHU 4)), .int (zI (nHL 4))], eO nP5 3 [.int (zI (nLU 5)), .int (zI (nLL 5)), .int (zI (nHU 5)), .int (zI (nHL 5))], eO nP6 3 [.int (zI (nLU 6)), .int (zI (nLL 6)), .int (zI (nHU 6)), .int (zI (nHL 6))]] (zI r) := by
  refine Met.ofW (cc := cX2_boxPart) (maxL := 2) (ret := (some .int)) (by decide) rfl ?_
  intro p e s m args below meth c s₁ B hml hv
  obtain ⟨rfl, hsz, hP, hK, hD0⟩ := hv
  have hx := B.exec
  have hb := B.bytes
  have hr := B.returns
  have hts := atoms_spec (ws := wsX2_boxPart) B.pre
  have hown : s.vm.findClass RX2 = some m.cls := findClass_of_methodNamed B.named
  have hlocks := B.notSynchronized
  subst hsz
  have hD := hD0.self (sz := s.heap.size)
  generalize hAe : va_A [eO nO 1 [.ref nQt, .ref nQn, .ref nQg, .ref nQl, .int (zI nz), .int (zI nr), .int (zI nb), .int (zI ne)], eR nQl (cy 4) 7 [nP0, nP1, nP2, nP3, nP4, nP5, nP6], eO nP0 3 [.int (zI (nLU 0)), .int (zI (nLL 0)), .int (zI (nHU 0)), .int (zI (nHL 0))], eO nP1 3 [.int (zI (nLU 1)), .int (zI (nLL 1)), .int (zI (nHU 1)), .int (zI (nHL 1))], eO nP2 3 [.int (zI (nLU 2)), .int (zI (nLL 2)), .int (zI (nHU 2)), .int (zI (nHL 2))], eO nP3 3 [.int (zI (nLU 3)), .int (zI (nLL 3)), .int (zI (nHU 3)), .int (zI (nHL 3))], eO nP4 3 [.int (zI (nLU 4)), .int (zI (nLL 4)), .int (zI (nHU 4)), .int (zI (nHL 4))], eO nP5 3 [.int (zI (nLU 5)), .int (zI (nLL 5)), .int (zI (nHU 5)), .int (zI (nHL 5))], eO nP6 3 [.int (zI (nLU 6)), .int (zI (nLL 6)), .int (zI (nHU 6)), .int (zI (nHL 6))]] s.heap.size = A at hD ⊢
  have hA : ∀ q : Nat, s.heap.size ≤ q → A q := fun q h => by rw [← hAe]; exact Or.inr h
  have hS : va_S A s.heap s.heap [] := va_S.rf
  have hl := lv_entry ([.ref nO, .int (zI p1)]) (n := 2) (Nat.le_of_ble_eq_true rfl)
  rw [lg_entry_eq]
  generalize (lg_sl ([.ref nO, .int (zI p1)]) ++ List.replicate (2 - (lg_sl ([.ref nO, .int (zI p1)])).length) Slot.unset).toArray = ls at hl ⊢
  have hl : lv_has ls 2 [(0, .ref nO), (1, .int (zI p1))] := hl
  have hf := zq_of hf
  unfold f_X2_boxPart at hf
  refine lv_aload_n hx hb dX2_boxPart_0 rfl (lv_at hl 0 rfl) ?_
  refine va_get (D := D) (ci := 1) (v := .int (zI nz)) (C := RX2) (T := TX2) (N := 8) hx hb hts u_X2_boxPart_X2 hown hK.1 hP 0 rfl rfl 4 (by decide) (hts _ m_X2_boxPart_1) (fun _ h9 => h9) rfl dX2_boxPart_1 ?_
  refine lv_iconst (v := zI 1) hx hb dX2_boxPart_4 rfl ?_
  refine zz_icmp_lt (tgt := 35) hx hb dX2_boxPart_5 (by decide) hf (fun hc hf => ?_) (fun hc hf => ?_)
  · refine lv_bipush (v := zI (-9)) hx hb dX2_boxPart_35 (by decide) ?_
    have hf := zq_some hf
    cases hf
    exact W.iret hx hb hr (fun t ht hW => ⟨⟨_, (), rfl, rfl, by rw [ht]; exact hP, hD⟩, hS.F ht⟩) hS.2.2 dX2_boxPart_37
  · refine lv_aload_n hx hb dX2_boxPart_8 rfl (lv_at hl 0 rfl) ?_
    refine va_get (D := D) (ci := 1) (v := .int (zI nz)) (C := RX2) (T := TX2) (N := 8) hx hb hts u_X2_boxPart_X2 hown hK.1 hP 0 rfl rfl 4 (by decide) (hts _ m_X2_boxPart_1) (fun _ h9 => h9) rfl dX2_boxPart_9 ?_
    refine lv_bipush (v := zI 7) hx hb dX2_boxPart_12 (by decide) ?_
    refine zz_icmp_gt (tgt := 35) hx hb dX2_boxPart_14 (by decide) hf (fun hc hf => ?_) (fun hc hf => ?_)
    · refine lv_aload_n hx hb dX2_boxPart_17 rfl (lv_at hl 0 rfl) ?_
      refine va_get (D := D) (ci := 1) (v := .ref nQl) (C := RX2) (T := TX2) (N := 8) hx hb hts u_X2_boxPart_X2 hown hK.1 hP 0 rfl rfl 3 (by decide) (hts _ m_X2_boxPart_2) (fun _ h9 => h9) rfl dX2_boxPart_18 ?_
      refine lv_aload_n hx hb dX2_boxPart_21 rfl (lv_at hl 0 rfl) ?_
      refine va_get (D := D) (ci := 1) (v := .int (zI nz)) (C := RX2) (T := TX2) (N := 8) hx hb hts u_X2_boxPart_X2 hown hK.1 hP 0 rfl rfl 4 (by decide) (hts _ m_X2_boxPart_1) (fun _ h9 => h9) rfl dX2_boxPart_22 ?_
      refine lv_iconst (v := zI 1) hx hb dX2_boxPart_25 rfl ?_
      refine zz_isub hx hb dX2_boxPart_26 ?_
      obtain ⟨hg, hf⟩ := zq_gd hf
      have hs9 : nz = 1 ∨ nz = 2 ∨ nz = 3 ∨ nz = 4 ∨ nz = 5 ∨ nz = 6 ∨ nz = 7 := by have h1 := hg.1; have h2 := hg.2; omega
      rcases hs9 with rfl | rfl | rfl | rfl | rfl | rfl | rfl
      · refine zz_aald (i := (1 - 1)) (a2 := nP0) hx hb hK hP 1 4 rfl rfl (Nat.le_of_ble_eq_true rfl) hg rfl dX2_boxPart_27 ?_
        refine lv_iload_n hx hb dX2_boxPart_28 rfl (lv_at hl 1 rfl) ?_
        obtain ⟨r29, hc29, hf⟩ := zq_bind hf
        refine zcallVi (wr := [eO nO 1 [.ref nQt, .ref nQn, .ref nQg, .ref nQl, .int (zI 1), .int (zI nr), .int (zI nb), .int (zI ne)], eR nQl (cy 4) 7 [nP0, nP1, nP2, nP3, nP4, nP5, nP6], eO nP1 3 [.int (zI (nLU 1)), .int (zI (nLL 1)), .int (zI (nHU 1)), .int (zI (nHL 1))], eO nP2 3 [.int (zI (nLU 2)), .int (zI (nLL 2)), .int (zI (nHU 2)), .int (zI (nHL 2))], eO nP3 3 [.int (zI (nLU 3)), .int (zI (nLL 3)), .int (zI (nHU 3)), .int (zI (nHL 3))], eO nP4 3 [.int (zI (nLU 4)), .int (zI (nLL 4)), .int (zI (nHU 4)), .int (zI (nHL 4))], eO nP5 3 [.int (zI (nLU 5)), .int (zI (nLL 5)), .int (zI (nHU 5)), .int (zI (nHL 5))], eO nP6 3 [.int (zI (nLU 6)), .int (zI (nLL 6)), .int (zI (nHU 6)), .int (zI (nHL 6))]]) (rest := []) ⟨hx, hb, hml, hown, hts⟩ (c_X4_part l D cy nP0 s.heap.size p1 (nLU 0) (nLL 0) (nHU 0) (nHL 0) hc29) (cwV 1 hts gX2_boxPart_X4_part rfl rfl rfl (by decide +kernel) ⟨Nat.le_of_ble_eq_true rfl, Nat.le_of_ble_eq_true rfl⟩) hK hP hD hS hA [2] [0, 1, 3, 4, 5, 6, 7, 8] rfl rfl rfl rfl (by decide) (va_recv hK.1 hP (ci := 3) (q0 := 2) rfl rfl) rfl hl.1 rfl (Nat.le_of_ble_eq_true rfl) dX2_boxPart_29 ⟨Nat.zero_le _, Nat.zero_le _⟩ (fun H locs hP hD hS => ?_)
        have hP : va_P D vwCl [eO nO 1 [.ref nQt, .ref nQn, .ref nQg, .ref nQl, .int (zI 1), .int (zI nr), .int (zI nb), .int (zI ne)], eR nQl (cy 4) 7 [nP0, nP1, nP2, nP3, nP4, nP5, nP6], eO nP0 3 [.int (zI (nLU 0)), .int (zI (nLL 0)), .int (zI (nHU 0)), .int (zI (nHL 0))], eO nP1 3 [.int (zI (nLU 1)), .int (zI (nLL 1)), .int (zI (nHU 1)), .int (zI (nHL 1))], eO nP2 3 [.int (zI (nLU 2)), .int (zI (nLL 2)), .int (zI (nHU 2)), .int (zI (nHL 2))], eO nP3 3 [.int (zI (nLU 3)), .int (zI (nLL 3)), .int (zI (nHU 3)), .int (zI (nHL 3))], eO nP4 3 [.int (zI (nLU 4)), .int (zI (nLL 4)), .int (zI (nHU 4)), .int (zI (nHL 4))], eO nP5 3 [.int (zI (nLU 5)), .int (zI (nLL 5)), .int (zI (nHU 5)), .int (zI (nHL 5))], eO nP6 3 [.int (zI (nLU 6)), .int (zI (nLL 6)), .int (zI (nHU 6)), .int (zI (nHL 6))]] H := hP.sub [0, 1, 8, 2, 3, 4, 5, 6, 7] rfl
        have hD : va_D A [eO nO 1 [.ref nQt, .ref nQn, .ref nQg, .ref nQl, .int (zI 1), .int (zI nr), .int (zI nb), .int (zI ne)], eR nQl (cy 4) 7 [nP0, nP1, nP2, nP3, nP4, nP5, nP6], eO nP0 3 [.int (zI (nLU 0)), .int (zI (nLL 0)), .int (zI (nHU 0)), .int (zI (nHL 0))], eO nP1 3 [.int (zI (nLU 1)), .int (zI (nLL 1)), .int (zI (nHU 1)), .int (zI (nHL 1))], eO nP2 3 [.int (zI (nLU 2)), .int (zI (nLL 2)), .int (zI (nHU 2)), .int (zI (nHL 2))], eO nP3 3 [.int (zI (nLU 3)), .int (zI (nLL 3)), .int (zI (nHU 3)), .int (zI (nHL 3))], eO nP4 3 [.int (zI (nLU 4)), .int (zI (nLL 4)), .int (zI (nHU 4)), .int (zI (nHL 4))], eO nP5 3 [.int (zI (nLU 5)), .int (zI (nLL 5)), .int (zI (nHU 5)), .int (zI (nHL 5))], eO nP6 3 [.int (zI (nLU 6)), .int (zI (nLL 6)), .int (zI (nHU 6)), .int (zI (nHL 6))]] := hD.sub [0, 1, 8, 2, 3, 4, 5, 6, 7] rfl rfl
        refine lv_goto (tgt := 37) hx hb dX2_boxPart_32 (by decide) ?_
        have hf := zq_some hf
        cases hf
        exact W.iret hx hb hr (fun t ht hW => ⟨⟨_, (), rfl, rfl, by rw [ht]; exact hP, hD⟩, hS.F ht⟩) hS.2.2 dX2_boxPart_37
      · refine zz_aald (i := (2 - 1)) (a2 := nP1) hx hb hK hP 1 4 rfl rfl (Nat.le_of_ble_eq_true rfl) hg rfl dX2_boxPart_27 ?_
        refine lv_iload_n hx hb dX2_boxPart_28 rfl (lv_at hl 1 rfl) ?_
        obtain ⟨r29, hc29, hf⟩ := zq_bind hf
        refine zcallVi (wr := [eO nO 1 [.ref nQt, .ref nQn, .ref nQg, .ref nQl, .int (zI 2), .int (zI nr), .int (zI nb), .int (zI ne)], eR nQl (cy 4) 7 [nP0, nP1, nP2, nP3, nP4, nP5, nP6], eO nP0 3 [.int (zI (nLU 0)), .int (zI (nLL 0)), .int (zI (nHU 0)), .int (zI (nHL 0))], eO nP2 3 [.int (zI (nLU 2)), .int (zI (nLL 2)), .int (zI (nHU 2)), .int (zI (nHL 2))], eO nP3 3 [.int (zI (nLU 3)), .int (zI (nLL 3)), .int (zI (nHU 3)), .int (zI (nHL 3))], eO nP4 3 [.int (zI (nLU 4)), .int (zI (nLL 4)), .int (zI (nHU 4)), .int (zI (nHL 4))], eO nP5 3 [.int (zI (nLU 5)), .int (zI (nLL 5)), .int (zI (nHU 5)), .int (zI (nHL 5))], eO nP6 3 [.int (zI (nLU 6)), .int (zI (nLL 6)), .int (zI (nHU 6)), .int (zI (nHL 6))]]) (rest := []) ⟨hx, hb, hml, hown, hts⟩ (c_X4_part l D cy nP1 s.heap.size p1 (nLU 1) (nLL 1) (nHU 1) (nHL 1) hc29) (cwV 1 hts gX2_boxPart_X4_part rfl rfl rfl (by decide +kernel) ⟨Nat.le_of_ble_eq_true rfl, Nat.le_of_ble_eq_true rfl⟩) hK hP hD hS hA [3] [0, 1, 2, 4, 5, 6, 7, 8] rfl rfl rfl rfl (by decide) (va_recv hK.1 hP (ci := 3) (q0 := 3) rfl rfl) rfl hl.1 rfl (Nat.le_of_ble_eq_true rfl) dX2_boxPart_29 ⟨Nat.zero_le _, Nat.zero_le _⟩ (fun H locs hP hD hS => ?_)
        have hP : va_P D vwCl [eO nO 1 [.ref nQt, .ref nQn, .ref nQg, .ref nQl, .int (zI 2), .int (zI nr), .int (zI nb), .int (zI ne)], eR nQl (cy 4) 7 [nP0, nP1, nP2, nP3, nP4, nP5, nP6], eO nP0 3 [.int (zI (nLU 0)), .int (zI (nLL 0)), .int (zI (nHU 0)), .int (zI (nHL 0))], eO nP1 3 [.int (zI (nLU 1)), .int (zI (nLL 1)), .int (zI (nHU 1)), .int (zI (nHL 1))], eO nP2 3 [.int (zI (nLU 2)), .int (zI (nLL 2)), .int (zI (nHU 2)), .int (zI (nHL 2))], eO nP3 3 [.int (zI (nLU 3)), .int (zI (nLL 3)), .int (zI (nHU 3)), .int (zI (nHL 3))], eO nP4 3 [.int (zI (nLU 4)), .int (zI (nLL 4)), .int (zI (nHU 4)), .int (zI (nHL 4))], eO nP5 3 [.int (zI (nLU 5)), .int (zI (nLL 5)), .int (zI (nHU 5)), .int (zI (nHL 5))], eO nP6 3 [.int (zI (nLU 6)), .int (zI (nLL 6)), .int (zI (nHU 6)), .int (zI (nHL 6))]] H := hP.sub [0, 1, 2, 8, 3, 4, 5, 6, 7] rfl
        have hD : va_D A [eO nO 1 [.ref nQt, .ref nQn, .ref nQg, .ref nQl, .int (zI 2), .int (zI nr), .int (zI nb), .int (zI ne)], eR nQl (cy 4) 7 [nP0, nP1, nP2, nP3, nP4, nP5, nP6], eO nP0 3 [.int (zI (nLU 0)), .int (zI (nLL 0)), .int (zI (nHU 0)), .int (zI (nHL 0))], eO nP1 3 [.int (zI (nLU 1)), .int (zI (nLL 1)), .int (zI (nHU 1)), .int (zI (nHL 1))], eO nP2 3 [.int (zI (nLU 2)), .int (zI (nLL 2)), .int (zI (nHU 2)), .int (zI (nHL 2))], eO nP3 3 [.int (zI (nLU 3)), .int (zI (nLL 3)), .int (zI (nHU 3)), .int (zI (nHL 3))], eO nP4 3 [.int (zI (nLU 4)), .int (zI (nLL 4)), .int (zI (nHU 4)), .int (zI (nHL 4))], eO nP5 3 [.int (zI (nLU 5)), .int (zI (nLL 5)), .int (zI (nHU 5)), .int (zI (nHL 5))], eO nP6 3 [.int (zI (nLU 6)), .int (zI (nLL 6)), .int (zI (nHU 6)), .int (zI (nHL 6))]] := hD.sub [0, 1, 2, 8, 3, 4, 5, 6, 7] rfl rfl
        refine lv_goto (tgt := 37) hx hb dX2_boxPart_32 (by decide) ?_
        have hf := zq_some hf
        cases hf
        exact W.iret hx hb hr (fun t ht hW => ⟨⟨_, (), rfl, rfl, by rw [ht]; exact hP, hD⟩, hS.F ht⟩) hS.2.2 dX2_boxPart_37
      · refine zz_aald (i := (3 - 1)) (a2 := nP2) hx hb hK hP 1 4 rfl rfl (Nat.le_of_ble_eq_true rfl) hg rfl dX2_boxPart_27 ?_
        refine lv_iload_n hx hb dX2_boxPart_28 rfl (lv_at hl 1 rfl) ?_
        obtain ⟨r29, hc29, hf⟩ := zq_bind hf
        refine zcallVi (wr := [eO nO 1 [.ref nQt, .ref nQn, .ref nQg, .ref nQl, .int (zI 3), .int (zI nr), .int (zI nb), .int (zI ne)], eR nQl (cy 4) 7 [nP0, nP1, nP2, nP3, nP4, nP5, nP6], eO nP0 3 [.int (zI (nLU 0)), .int (zI (nLL 0)), .int (zI (nHU 0)), .int (zI (nHL 0))], eO nP1 3 [.int (zI (nLU 1)), .int (zI (nLL 1)), .int (zI (nHU 1)), .int (zI (nHL 1))], eO nP3 3 [.int (zI (nLU 3)), .int (zI (nLL 3)), .int (zI (nHU 3)), .int (zI (nHL 3))], eO nP4 3 [.int (zI (nLU 4)), .int (zI (nLL 4)), .int (zI (nHU 4)), .int (zI (nHL 4))], eO nP5 3 [.int (zI (nLU 5)), .int (zI (nLL 5)), .int (zI (nHU 5)), .int (zI (nHL 5))], eO nP6 3 [.int (zI (nLU 6)), .int (zI (nLL 6)), .int (zI (nHU 6)), .int (zI (nHL 6))]]) (rest := []) ⟨hx, hb, hml, hown, hts⟩ (c_X4_part l D cy nP2 s.heap.size p1 (nLU 2) (nLL 2) (nHU 2) (nHL 2) hc29) (cwV 1 hts gX2_boxPart_X4_part rfl rfl rfl (by decide +kernel) ⟨Nat.le_of_ble_eq_true rfl, Nat.le_of_ble_eq_true rfl⟩) hK hP hD hS hA [4] [0, 1, 2, 3, 5, 6, 7, 8] rfl rfl rfl rfl (by decide) (va_recv hK.1 hP (ci := 3) (q0 := 4) rfl rfl) rfl hl.1 rfl (Nat.le_of_ble_eq_true rfl) dX2_boxPart_29 ⟨Nat.zero_le _, Nat.zero_le _⟩ (fun H locs hP hD hS => ?_)
        have hP : va_P D vwCl [eO nO 1 [.ref nQt, .ref nQn, .ref nQg, .ref nQl, .int (zI 3), .int (zI nr), .int (zI nb), .int (zI ne)], eR nQl (cy 4) 7 [nP0, nP1, nP2, nP3, nP4, nP5, nP6], eO nP0 3 [.int (zI (nLU 0)), .int (zI (nLL 0)), .int (zI (nHU 0)), .int (zI (nHL 0))], eO nP1 3 [.int (zI (nLU 1)), .int (zI (nLL 1)), .int (zI (nHU 1)), .int (zI (nHL 1))], eO nP2 3 [.int (zI (nLU 2)), .int (zI (nLL 2)), .int (zI (nHU 2)), .int (zI (nHL 2))], eO nP3 3 [.int (zI (nLU 3)), .int (zI (nLL 3)), .int (zI (nHU 3)), .int (zI (nHL 3))], eO nP4 3 [.int (zI (nLU 4)), .int (zI (nLL 4)), .int (zI (nHU 4)), .int (zI (nHL 4))], eO nP5 3 [.int (zI (nLU 5)), .int (zI (nLL 5)), .int (zI (nHU 5)), .int (zI (nHL 5))], eO nP6 3 [.int (zI (nLU 6)), .int (zI (nLL 6)), .int (zI (nHU 6)), .int (zI (nHL 6))]] H := hP.sub [0, 1, 2, 3, 8, 4, 5, 6, 7] rfl
        have hD : va_D A [eO nO 1 [.ref nQt, .ref nQn, .ref nQg, .ref nQl, .int (zI 3), .int (zI nr), .int (zI nb), .int (zI ne)], eR nQl (cy 4) 7 [nP0, nP1, nP2, nP3, nP4, nP5, nP6], eO nP0 3 [.int (zI (nLU 0)), .int (zI (nLL 0)), .int (zI (nHU 0)), .int (zI (nHL 0))], eO nP1 3 [.int (zI (nLU 1)), .int (zI (nLL 1)), .int (zI (nHU 1)), .int (zI (nHL 1))], eO nP2 3 [.int (zI (nLU 2)), .int (zI (nLL 2)), .int (zI (nHU 2)), .int (zI (nHL 2))], eO nP3 3 [.int (zI (nLU 3)), .int (zI (nLL 3)), .int (zI (nHU 3)), .int (zI (nHL 3))], eO nP4 3 [.int (zI (nLU 4)), .int (zI (nLL 4)), .int (zI (nHU 4)), .int (zI (nHL 4))], eO nP5 3 [.int (zI (nLU 5)), .int (zI (nLL 5)), .int (zI (nHU 5)), .int (zI (nHL 5))], eO nP6 3 [.int (zI (nLU 6)), .int (zI (nLL 6)), .int (zI (nHU 6)), .int (zI (nHL 6))]] := hD.sub [0, 1, 2, 3, 8, 4, 5, 6, 7] rfl rfl
        refine lv_goto (tgt := 37) hx hb dX2_boxPart_32 (by decide) ?_
        have hf := zq_some hf
        cases hf
        exact W.iret hx hb hr (fun t ht hW => ⟨⟨_, (), rfl, rfl, by rw [ht]; exact hP, hD⟩, hS.F ht⟩) hS.2.2 dX2_boxPart_37
      · refine zz_aald (i := (4 - 1)) (a2 := nP3) hx hb hK hP 1 4 rfl rfl (Nat.le_of_ble_eq_true rfl) hg rfl dX2_boxPart_27 ?_
        refine lv_iload_n hx hb dX2_boxPart_28 rfl (lv_at hl 1 rfl) ?_
        obtain ⟨r29, hc29, hf⟩ := zq_bind hf
        refine zcallVi (wr := [eO nO 1 [.ref nQt, .ref nQn, .ref nQg, .ref nQl, .int (zI 4), .int (zI nr), .int (zI nb), .int (zI ne)], eR nQl (cy 4) 7 [nP0, nP1, nP2, nP3, nP4, nP5, nP6], eO nP0 3 [.int (zI (nLU 0)), .int (zI (nLL 0)), .int (zI (nHU 0)), .int (zI (nHL 0))], eO nP1 3 [.int (zI (nLU 1)), .int (zI (nLL 1)), .int (zI (nHU 1)), .int (zI (nHL 1))], eO nP2 3 [.int (zI (nLU 2)), .int (zI (nLL 2)), .int (zI (nHU 2)), .int (zI (nHL 2))], eO nP4 3 [.int (zI (nLU 4)), .int (zI (nLL 4)), .int (zI (nHU 4)), .int (zI (nHL 4))], eO nP5 3 [.int (zI (nLU 5)), .int (zI (nLL 5)), .int (zI (nHU 5)), .int (zI (nHL 5))], eO nP6 3 [.int (zI (nLU 6)), .int (zI (nLL 6)), .int (zI (nHU 6)), .int (zI (nHL 6))]]) (rest := []) ⟨hx, hb, hml, hown, hts⟩ (c_X4_part l D cy nP3 s.heap.size p1 (nLU 3) (nLL 3) (nHU 3) (nHL 3) hc29) (cwV 1 hts gX2_boxPart_X4_part rfl rfl rfl (by decide +kernel) ⟨Nat.le_of_ble_eq_true rfl, Nat.le_of_ble_eq_true rfl⟩) hK hP hD hS hA [5] [0, 1, 2, 3, 4, 6, 7, 8] rfl rfl rfl rfl (by decide) (va_recv hK.1 hP (ci := 3) (q0 := 5) rfl rfl) rfl hl.1 rfl (Nat.le_of_ble_eq_true rfl) dX2_boxPart_29 ⟨Nat.zero_le _, Nat.zero_le _⟩ (fun H locs hP hD hS => ?_)
        have hP : va_P D vwCl [eO nO 1 [.ref nQt, .ref nQn, .ref nQg, .ref nQl, .int (zI 4), .int (zI nr), .int (zI nb), .int (zI ne)], eR nQl (cy 4) 7 [nP0, nP1, nP2, nP3, nP4, nP5, nP6], eO nP0 3 [.int (zI (nLU 0)), .int (zI (nLL 0)), .int (zI (nHU 0)), .int (zI (nHL 0))], eO nP1 3 [.int (zI (nLU 1)), .int (zI (nLL 1)), .int (zI (nHU 1)), .int (zI (nHL 1))], eO nP2 3 [.int (zI (nLU 2)), .int (zI (nLL 2)), .int (zI (nHU 2)), .int (zI (nHL 2))], eO nP3 3 [.int (zI (nLU 3)), .int (zI (nLL 3)), .int (zI (nHU 3)), .int (zI (nHL 3))], eO nP4 3 [.int (zI (nLU 4)), .int (zI (nLL 4)), .int (zI (nHU 4)), .int (zI (nHL 4))], eO nP5 3 [.int (zI (nLU 5)), .int (zI (nLL 5)), .int (zI (nHU 5)), .int (zI (nHL 5))], eO nP6 3 [.int (zI (nLU 6)), .int (zI (nLL 6)), .int (zI (nHU 6)), .int (zI (nHL 6))]] H := hP.sub [0, 1, 2, 3, 4, 8, 5, 6, 7] rfl
        have hD : va_D A [eO nO 1 [.ref nQt, .ref nQn, .ref nQg, .ref nQl, .int (zI 4), .int (zI nr), .int (zI nb), .int (zI ne)], eR nQl (cy 4) 7 [nP0, nP1, nP2, nP3, nP4, nP5, nP6], eO nP0 3 [.int (zI (nLU 0)), .int (zI (nLL 0)), .int (zI (nHU 0)), .int (zI (nHL 0))], eO nP1 3 [.int (zI (nLU 1)), .int (zI (nLL 1)), .int (zI (nHU 1)), .int (zI (nHL 1))], eO nP2 3 [.int (zI (nLU 2)), .int (zI (nLL 2)), .int (zI (nHU 2)), .int (zI (nHL 2))], eO nP3 3 [.int (zI (nLU 3)), .int (zI (nLL 3)), .int (zI (nHU 3)), .int (zI (nHL 3))], eO nP4 3 [.int (zI (nLU 4)), .int (zI (nLL 4)), .int (zI (nHU 4)), .int (zI (nHL 4))], eO nP5 3 [.int (zI (nLU 5)), .int (zI (nLL 5)), .int (zI (nHU 5)), .int (zI (nHL 5))], eO nP6 3 [.int (zI (nLU 6)), .int (zI (nLL 6)), .int (zI (nHU 6)), .int (zI (nHL 6))]] := hD.sub [0, 1, 2, 3, 4, 8, 5, 6, 7] rfl rfl
        refine lv_goto (tgt := 37) hx hb dX2_boxPart_32 (by decide) ?_
        have hf := zq_some hf
        cases hf
        exact W.iret hx hb hr (fun t ht hW => ⟨⟨_, (), rfl, rfl, by rw [ht]; exact hP, hD⟩, hS.F ht⟩) hS.2.2 dX2_boxPart_37
      · refine zz_aald (i := (5 - 1)) (a2 := nP4) hx hb hK hP 1 4 rfl rfl (Nat.le_of_ble_eq_true rfl) hg rfl dX2_boxPart_27 ?_
        refine lv_iload_n hx hb dX2_boxPart_28 rfl (lv_at hl 1 rfl) ?_
        obtain ⟨r29, hc29, hf⟩ := zq_bind hf
        refine zcallVi (wr := [eO nO 1 [.ref nQt, .ref nQn, .ref nQg, .ref nQl, .int (zI 5), .int (zI nr), .int (zI nb), .int (zI ne)], eR nQl (cy 4) 7 [nP0, nP1, nP2, nP3, nP4, nP5, nP6], eO nP0 3 [.int (zI (nLU 0)), .int (zI (nLL 0)), .int (zI (nHU 0)), .int (zI (nHL 0))], eO nP1 3 [.int (zI (nLU 1)), .int (zI (nLL 1)), .int (zI (nHU 1)), .int (zI (nHL 1))], eO nP2 3 [.int (zI (nLU 2)), .int (zI (nLL 2)), .int (zI (nHU 2)), .int (zI (nHL 2))], eO nP3 3 [.int (zI (nLU 3)), .int (zI (nLL 3)), .int (zI (nHU 3)), .int (zI (nHL 3))], eO nP5 3 [.int (zI (nLU 5)), .int (zI (nLL 5)), .int (zI (nHU 5)), .int (zI (nHL 5))], eO nP6 3 [.int (zI (nLU 6)), .int (zI (nLL 6)), .int (zI (nHU 6)), .int (zI (nHL 6))]]) (rest := []) ⟨hx, hb, hml, hown, hts⟩ (c_X4_part l D cy nP4 s.heap.size p1 (nLU 4) (nLL 4) (nHU 4) (nHL 4) hc29) (cwV 1 hts gX2_boxPart_X4_part rfl rfl rfl (by decide +kernel) ⟨Nat.le_of_ble_eq_true rfl, Nat.le_of_ble_eq_true rfl⟩) hK hP hD hS hA [6] [0, 1, 2, 3, 4, 5, 7, 8] rfl rfl rfl rfl (by decide) (va_recv hK.1 hP (ci := 3) (q0 := 6) rfl rfl) rfl hl.1 rfl (Nat.le_of_ble_eq_true rfl) dX2_boxPart_29 ⟨Nat.zero_le _, Nat.zero_le _⟩ (fun H locs hP hD hS => ?_)
        have hP : va_P D vwCl [eO nO 1 [.ref nQt, .ref nQn, .ref nQg, .ref nQl, .int (zI 5), .int (zI nr), .int (zI nb), .int (zI ne)], eR nQl (cy 4) 7 [nP0, nP1, nP2, nP3, nP4, nP5, nP6], eO nP0 3 [.int (zI (nLU 0)), .int (zI (nLL 0)), .int (zI (nHU 0)), .int (zI (nHL 0))], eO nP1 3 [.int (zI (nLU 1)), .int (zI (nLL 1)), .int (zI (nHU 1)), .int (zI (nHL 1))], eO nP2 3 [.int (zI (nLU 2)), .int (zI (nLL 2)), .int (zI (nHU 2)), .int (zI (nHL 2))], eO nP3 3 [.int (zI (nLU 3)), .int (zI (nLL 3)), .int (zI (nHU 3)), .int (zI (nHL 3))], eO nP4 3 [.int (zI (nLU 4)), .int (zI (nLL 4)), .int (zI (nHU 4)), .int (zI (nHL 4))], eO nP5 3 [.int (zI (nLU 5)), .int (zI (nLL 5)), .int (zI (nHU 5)), .int (zI (nHL 5))], eO nP6 3 [.int (zI (nLU 6)), .int (zI (nLL 6)), .int (zI (nHU 6)), .int (zI (nHL 6))]] H := hP.sub [0, 1, 2, 3, 4, 5, 8, 6, 7] rfl
        have hD : va_D A [eO nO 1 [.ref nQt, .ref nQn, .ref nQg, .ref nQl, .int (zI 5), .int (zI nr), .int (zI nb), .int (zI ne)], eR nQl (cy 4) 7 [nP0, nP1, nP2, nP3, nP4, nP5, nP6], eO nP0 3 [.int (zI (nLU 0)), .int (zI (nLL 0)), .int (zI (nHU 0)), .int (zI (nHL 0))], eO nP1 3 [.int (zI (nLU 1)), .int (zI (nLL 1)), .int (zI (nHU 1)), .int (zI (nHL 1))], eO nP2 3 [.int (zI (nLU 2)), .int (zI (nLL 2)), .int (zI (nHU 2)), .int (zI (nHL 2))], eO nP3 3 [.int (zI (nLU 3)), .int (zI (nLL 3)), .int (zI (nHU 3)), .int (zI (nHL 3))], eO nP4 3 [.int (zI (nLU 4)), .int (zI (nLL 4)), .int (zI (nHU 4)), .int (zI (nHL 4))], eO nP5 3 [.int (zI (nLU 5)), .int (zI (nLL 5)), .int (zI (nHU 5)), .int (zI (nHL 5))], eO nP6 3 [.int (zI (nLU 6)), .int (zI (nLL 6)), .int (zI (nHU 6)), .int (zI (nHL 6))]] := hD.sub [0, 1, 2, 3, 4, 5, 8, 6, 7] rfl rfl
        refine lv_goto (tgt := 37) hx hb dX2_boxPart_32 (by decide) ?_
        have hf := zq_some hf
        cases hf
        exact W.iret hx hb hr (fun t ht hW => ⟨⟨_, (), rfl, rfl, by rw [ht]; exact hP, hD⟩, hS.F ht⟩) hS.2.2 dX2_boxPart_37
      · refine zz_aald (i := (6 - 1)) (a2 := nP5) hx hb hK hP 1 4 rfl rfl (Nat.le_of_ble_eq_true rfl) hg rfl dX2_boxPart_27 ?_
        refine lv_iload_n hx hb dX2_boxPart_28 rfl (lv_at hl 1 rfl) ?_
        obtain ⟨r29, hc29, hf⟩ := zq_bind hf
        refine zcallVi (wr := [eO nO 1 [.ref nQt, .ref nQn, .ref nQg, .ref nQl, .int (zI 6), .int (zI nr), .int (zI nb), .int (zI ne)], eR nQl (cy 4) 7 [nP0, nP1, nP2, nP3, nP4, nP5, nP6], eO nP0 3 [.int (zI (nLU 0)), .int (zI (nLL 0)), .int (zI (nHU 0)), .int (zI (nHL 0))], eO nP1 3 [.int (zI (nLU 1)), .int (zI (nLL 1)), .int (zI (nHU 1)), .int (zI (nHL 1))], eO nP2 3 [.int (zI (nLU 2)), .int (zI (nLL 2)), .int (zI (nHU 2)), .int (zI (nHL 2))], eO nP3 3 [.int (zI (nLU 3)), .int (zI (nLL 3)), .int (zI (nHU 3)), .int (zI (nHL 3))], eO nP4 3 [.int (zI (nLU 4)), .int (zI (nLL 4)), .int (zI (nHU 4)), .int (zI (nHL 4))], eO nP6 3 [.int (zI (nLU 6)), .int (zI (nLL 6)), .int (zI (nHU 6)), .int (zI (nHL 6))]]) (rest := []) ⟨hx, hb, hml, hown, hts⟩ (c_X4_part l D cy nP5 s.heap.size p1 (nLU 5) (nLL 5) (nHU 5) (nHL 5) hc29) (cwV 1 hts gX2_boxPart_X4_part rfl rfl rfl (by decide +kernel) ⟨Nat.le_of_ble_eq_true rfl, Nat.le_of_ble_eq_true rfl⟩) hK hP hD hS hA [7] [0, 1, 2, 3, 4, 5, 6, 8] rfl rfl rfl rfl (by decide) (va_recv hK.1 hP (ci := 3) (q0 := 7) rfl rfl) rfl hl.1 rfl (Nat.le_of_ble_eq_true rfl) dX2_boxPart_29 ⟨Nat.zero_le _, Nat.zero_le _⟩ (fun H locs hP hD hS => ?_)
        have hP : va_P D vwCl [eO nO 1 [.ref nQt, .ref nQn, .ref nQg, .ref nQl, .int (zI 6), .int (zI nr), .int (zI nb), .int (zI ne)], eR nQl (cy 4) 7 [nP0, nP1, nP2, nP3, nP4, nP5, nP6], eO nP0 3 [.int (zI (nLU 0)), .int (zI (nLL 0)), .int (zI (nHU 0)), .int (zI (nHL 0))], eO nP1 3 [.int (zI (nLU 1)), .int (zI (nLL 1)), .int (zI (nHU 1)), .int (zI (nHL 1))], eO nP2 3 [.int (zI (nLU 2)), .int (zI (nLL 2)), .int (zI (nHU 2)), .int (zI (nHL 2))], eO nP3 3 [.int (zI (nLU 3)), .int (zI (nLL 3)), .int (zI (nHU 3)), .int (zI (nHL 3))], eO nP4 3 [.int (zI (nLU 4)), .int (zI (nLL 4)), .int (zI (nHU 4)), .int (zI (nHL 4))], eO nP5 3 [.int (zI (nLU 5)), .int (zI (nLL 5)), .int (zI (nHU 5)), .int (zI (nHL 5))], eO nP6 3 [.int (zI (nLU 6)), .int (zI (nLL 6)), .int (zI (nHU 6)), .int (zI (nHL 6))]] H := hP.sub [0, 1, 2, 3, 4, 5, 6, 8, 7] rfl
        have hD : va_D A [eO nO 1 [.ref nQt, .ref nQn, .ref nQg, .ref nQl, .int (zI 6), .int (zI nr), .int (zI nb), .int (zI ne)], eR nQl (cy 4) 7 [nP0, nP1, nP2, nP3, nP4, nP5, nP6], eO nP0 3 [.int (zI (nLU 0)), .int (zI (nLL 0)), .int (zI (nHU 0)), .int (zI (nHL 0))], eO nP1 3 [.int (zI (nLU 1)), .int (zI (nLL 1)), .int (zI (nHU 1)), .int (zI (nHL 1))], eO nP2 3 [.int (zI (nLU 2)), .int (zI (nLL 2)), .int (zI (nHU 2)), .int (zI (nHL 2))], eO nP3 3 [.int (zI (nLU 3)), .int (zI (nLL 3)), .int (zI (nHU 3)), .int (zI (nHL 3))], eO nP4 3 [.int (zI (nLU 4)), .int (zI (nLL 4)), .int (zI (nHU 4)), .int (zI (nHL 4))], eO nP5 3 [.int (zI (nLU 5)), .int (zI (nLL 5)), .int (zI (nHU 5)), .int (zI (nHL 5))], eO nP6 3 [.int (zI (nLU 6)), .int (zI (nLL 6)), .int (zI (nHU 6)), .int (zI (nHL 6))]] := hD.sub [0, 1, 2, 3, 4, 5, 6, 8, 7] rfl rfl
        refine lv_goto (tgt := 37) hx hb dX2_boxPart_32 (by decide) ?_
        have hf := zq_some hf
        cases hf
        exact W.iret hx hb hr (fun t ht hW => ⟨⟨_, (), rfl, rfl, by rw [ht]; exact hP, hD⟩, hS.F ht⟩) hS.2.2 dX2_boxPart_37
      · refine zz_aald (i := (7 - 1)) (a2 := nP6) hx hb hK hP 1 4 rfl rfl (Nat.le_of_ble_eq_true rfl) hg rfl dX2_boxPart_27 ?_
        refine lv_iload_n hx hb dX2_boxPart_28 rfl (lv_at hl 1 rfl) ?_
        obtain ⟨r29, hc29, hf⟩ := zq_bind hf
        refine zcallVi (wr := [eO nO 1 [.ref nQt, .ref nQn, .ref nQg, .ref nQl, .int (zI 7), .int (zI nr), .int (zI nb), .int (zI ne)], eR nQl (cy 4) 7 [nP0, nP1, nP2, nP3, nP4, nP5, nP6], eO nP0 3 [.int (zI (nLU 0)), .int (zI (nLL 0)), .int (zI (nHU 0)), .int (zI (nHL 0))], eO nP1 3 [.int (zI (nLU 1)), .int (zI (nLL 1)), .int (zI (nHU 1)), .int (zI (nHL 1))], eO nP2 3 [.int (zI (nLU 2)), .int (zI (nLL 2)), .int (zI (nHU 2)), .int (zI (nHL 2))], eO nP3 3 [.int (zI (nLU 3)), .int (zI (nLL 3)), .int (zI (nHU 3)), .int (zI (nHL 3))], eO nP4 3 [.int (zI (nLU 4)), .int (zI (nLL 4)), .int (zI (nHU 4)), .int (zI (nHL 4))], eO nP5 3 [.int (zI (nLU 5)), .int (zI (nLL 5)), .int (zI (nHU 5)), .int (zI (nHL 5))]]) (rest := []) ⟨hx, hb, hml, hown, hts⟩ (c_X4_part l D cy nP6 s.heap.size p1 (nLU 6) (nLL 6) (nHU 6) (nHL 6) hc29) (cwV 1 hts gX2_boxPart_X4_part rfl rfl rfl (by decide +kernel) ⟨Nat.le_of_ble_eq_true rfl, Nat.le_of_ble_eq_true rfl⟩) hK hP hD hS hA [8] [0, 1, 2, 3, 4, 5, 6, 7] rfl rfl rfl rfl (by decide) (va_recv hK.1 hP (ci := 3) (q0 := 8) rfl rfl) rfl hl.1 rfl (Nat.le_of_ble_eq_true rfl) dX2_boxPart_29 ⟨Nat.zero_le _, Nat.zero_le _⟩ (fun H locs hP hD hS => ?_)
        have hP : va_P D vwCl [eO nO 1 [.ref nQt, .ref nQn, .ref nQg, .ref nQl, .int (zI 7), .int (zI nr), .int (zI nb), .int (zI ne)], eR nQl (cy 4) 7 [nP0, nP1, nP2, nP3, nP4, nP5, nP6], eO nP0 3 [.int (zI (nLU 0)), .int (zI (nLL 0)), .int (zI (nHU 0)), .int (zI (nHL 0))], eO nP1 3 [.int (zI (nLU 1)), .int (zI (nLL 1)), .int (zI (nHU 1)), .int (zI (nHL 1))], eO nP2 3 [.int (zI (nLU 2)), .int (zI (nLL 2)), .int (zI (nHU 2)), .int (zI (nHL 2))], eO nP3 3 [.int (zI (nLU 3)), .int (zI (nLL 3)), .int (zI (nHU 3)), .int (zI (nHL 3))], eO nP4 3 [.int (zI (nLU 4)), .int (zI (nLL 4)), .int (zI (nHU 4)), .int (zI (nHL 4))], eO nP5 3 [.int (zI (nLU 5)), .int (zI (nLL 5)), .int (zI (nHU 5)), .int (zI (nHL 5))], eO nP6 3 [.int (zI (nLU 6)), .int (zI (nLL 6)), .int (zI (nHU 6)), .int (zI (nHL 6))]] H := hP.sub [0, 1, 2, 3, 4, 5, 6, 7, 8] rfl
        have hD : va_D A [eO nO 1 [.ref nQt, .ref nQn, .ref nQg, .ref nQl, .int (zI 7), .int (zI nr), .int (zI nb), .int (zI ne)], eR nQl (cy 4) 7 [nP0, nP1, nP2, nP3, nP4, nP5, nP6], eO nP0 3 [.int (zI (nLU 0)), .int (zI (nLL 0)), .int (zI (nHU 0)), .int (zI (nHL 0))], eO nP1 3 [.int (zI (nLU 1)), .int (zI (nLL 1)), .int (zI (nHU 1)), .int (zI (nHL 1))], eO nP2 3 [.int (zI (nLU 2)), .int (zI (nLL 2)), .int (zI (nHU 2)), .int (zI (nHL 2))], eO nP3 3 [.int (zI (nLU 3)), .int (zI (nLL 3)), .int (zI (nHU 3)), .int (zI (nHL 3))], eO nP4 3 [.int (zI (nLU 4)), .int (zI (nLL 4)), .int (zI (nHU 4)), .int (zI (nHL 4))], eO nP5 3 [.int (zI (nLU 5)), .int (zI (nLL 5)), .int (zI (nHU 5)), .int (zI (nHL 5))], eO nP6 3 [.int (zI (nLU 6)), .int (zI (nLL 6)), .int (zI (nHU 6)), .int (zI (nHL 6))]] := hD.sub [0, 1, 2, 3, 4, 5, 6, 7, 8] rfl rfl
        refine lv_goto (tgt := 37) hx hb dX2_boxPart_32 (by decide) ?_
        have hf := zq_some hf
        cases hf
        exact W.iret hx hb hr (fun t ht hW => ⟨⟨_, (), rfl, rfl, by rw [ht]; exact hP, hD⟩, hS.F ht⟩) hS.2.2 dX2_boxPart_37
    · refine lv_bipush (v := zI (-9)) hx hb dX2_boxPart_35 (by decide) ?_
      have hf := zq_some hf
      cases hf
      exact W.iret hx hb hr (fun t ht hW => ⟨⟨_, (), rfl, rfl, by rw [ht]; exact hP, hD⟩, hS.F ht⟩) hS.2.2 dX2_boxPart_37
