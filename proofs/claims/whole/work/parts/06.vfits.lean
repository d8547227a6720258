noncomputable def st_X2_fits (p1 : Int) (nr : Int) (nT : Nat → Int) (nN : Nat → Int) : (Int × (Nat → Int) × (Nat → Int) × (Nat → Int) × (Nat → Int)) → Option ((Int × (Nat → Int) × (Nat → Int) × (Nat → Int) × (Nat → Int)) ⊕ (Int × (Nat → Int) × (Nat → Int) × (Nat → Int) × (Nat → Int))) := fun (x3, nLU, nLL, nHU, nHL) =>
  gd (zin p1 7) <|
  gd (zR x3 ∧ zR p1) <|
  if x3 < p1 then
    gd (zin p1 7) <|
    gd (zin x3 7) <|
    gd (zin p1 7) <|
    gd (zin x3 7) <|
    (f_X4_cut ((nT (Int.toNat p1)) - (nT (Int.toNat x3))) nr ((nN (Int.toNat p1)) - (nN (Int.toNat x3))) (nLU (Int.toNat p1)) (nLL (Int.toNat p1)) (nHU (Int.toNat p1)) (nHL (Int.toNat p1))).bind fun (r57, clu_57, cll_57, chu_57, chl_57) =>
    (f_X4_isEmpty ((zup nLU p1 clu_57) (Int.toNat p1)) ((zup nLL p1 cll_57) (Int.toNat p1)) ((zup nHU p1 chu_57) (Int.toNat p1)) ((zup nHL p1 chl_57) (Int.toNat p1))).bind fun r62 =>
    gd (zR r62) <|
    if r62 = 0 then
      some (.inl ((x3 + 1), (zup nLU p1 clu_57), (zup nLL p1 cll_57), (zup nHU p1 chu_57), (zup nHL p1 chl_57)))
    else
      some (.inr (0, (zup nLU p1 clu_57), (zup nLL p1 cll_57), (zup nHU p1 chu_57), (zup nHL p1 chl_57)))
  else
    some (.inr (1, nLU, nLL, nHU, nHL))
noncomputable def f_X2_fits (p1 : Int) (nr : Int) (nT : Nat → Int) (nN : Nat → Int) (nLU : Nat → Int) (nLL : Nat → Int) (nHU : Nat → Int) (nHL : Nat → Int) : Option (Int × (Nat → Int) × (Nat → Int) × (Nat → Int) × (Nat → Int)) :=
  gd (zin p1 7) <|
  gd (zin (p1 - 1) 7) <|
  (f_X4_take (nLU (Int.toNat (p1 - 1))) (nLL (Int.toNat (p1 - 1))) (nHU (Int.toNat (p1 - 1))) (nHL (Int.toNat (p1 - 1)))).bind fun (clu_16, cll_16, chu_16, chl_16) =>
  zev (st_X2_fits p1 nr nT nN) (0, (zup nLU p1 clu_16), (zup nLL p1 cll_16), (zup nHU p1 chu_16), (zup nHL p1 chl_16))
theorem m_X2_fits_1 : (.fieldLink RX2 23 "PulseTurns$Numberings" "leaves" "[LPulseTurns$Periods;" : Cond) ∈ wsX2_fits := List.mem_of_getElem? (i := 1) rfl
theorem m_X2_fits_2 : (.fieldLink RX2 9 "PulseTurns$Numberings" "times" "[I" : Cond) ∈ wsX2_fits := List.mem_of_getElem? (i := 2) rfl
theorem m_X2_fits_3 : (.fieldLink RX2 39 "PulseTurns$Numberings" "room" "I" : Cond) ∈ wsX2_fits := List.mem_of_getElem? (i := 3) rfl
theorem m_X2_fits_4 : (.fieldLink RX2 15 "PulseTurns$Numberings" "numbers" "[I" : Cond) ∈ wsX2_fits := List.mem_of_getElem? (i := 4) rfl
theorem u_X2_fits_X2 : ∀ w ∈ wsX20, w ∈ wsX2_fits := fun w h => List.mem_cons_of_mem _ (List.mem_append_left _ (List.mem_append_right _ h))
set_option maxRecDepth 100000 in
set_option maxHeartbeats 4000000 in
theorem c_X2_fits (l : Launch) (D : va_G) (cy : Nat → ClassId) (nO nQt nQn nQg nQl nP0 nP1 nP2 nP3 nP4 nP5 nP6 : Nat) (sz : Nat) (p1 : Int) (nz : Int) (nr : Int) (nb : Int) (ne : Int) (nT : Nat → Int) (nN : Nat → Int) (nLU : Nat → Int) (nLL : Nat → Int) (nHU : Nat → Int) (nHL : Nat → Int) {r : Int} {nLU' : Nat → Int} {nLL' : Nat → Int} {nHU' : Nat → Int} {nHL' : Nat → Int} (hf : f_X2_fits p1 nr nT nN nLU nLL nHU nHL = some (r, nLU', nLL', nHU', nHL')) : zMi l yX2_fits wsX2_fits ({ frames := 1, cells := 0, slots := 0, locals := 24 }) D cy sz [.ref nO, .int (zI p1)] [eO nO 1 [.ref nQt, .ref nQn, .ref nQg, .ref nQl, .int (zI nz), .int (zI nr), .int (zI nb), .int (zI ne)], eA nQt (cy 0) 7 nT, eA nQn (cy 0) 7 nN, eR nQl (cy 4) 7 [nP0, nP1, nP2, nP3, nP4, nP5, nP6], eO nP0 3 [.int (zI (nLU 0)), .int (zI (nLL 0)), .int (zI (nHU 0)), .int (zI (nHL 0))], eO nP1 3 [.int (zI (nLU 1)), .int (zI (nLL 1)), .int (zI (nHU 1)), .int (zI (nHL 1))], eO nP2 3 [.int (zI (nLU 2)), .int (zI (nLL 2)), .int (zI (nHU 2)), .int (zI (nHL 2))], eO nP3 3 [.int (zI (nLU 3)), .int (zI (nLL 3)), .int (zI (nHU 3)), .int (zI (nHL 3))], eO nP4 3 [.int (zI (nLU 4)), .int (zI (nLL 4)), .int (zI (nHU 4)), .int (zI (nHL 4))], eO nP5 3 [.int (zI (nLU 5)), .int (zI (nLL 5)), .int (zI (nHU 5)), .int (zI (nHL 5))], eO nP6 3 [.int (zI (nLU 6)), .int (zI (nLL 6)), .int (zI (nHU 6)), .int (zI (nHL 6))]] [eO nO 1 [.ref nQt, .ref nQn, .ref nQg, .ref nQl, .int (zI nz), .int (zI nr), .int (zI nb), .int (zI ne)], eA nQt (cy 0) 7 nT, eA nQn (cy 0) 7 nN, eR nQl (cy 4) 7 [nP0, nP1, nP2, nP3, nP4, nP5, nP6], eO nP0 3 [.int (zI (nLU' 0)), .int (zI (nLL' 0)), .int (zI (nHU' 0)), .int (zI (nHL' 0))], eO nP1 3 [.int (zI (nLU' 1)), .int (zI (nLL' 1)), .int (zI (nHU' 1)), .int (zI (nHL' 1))], eO nP2 3 [.int (zI (nLU' 2)), .int (zI (nLL' 2)), .int (zI (nHU' 2)), .int (zI (nHL' 2))], eO nP3 3 [.int (zI (nLU' 3)), .int (zI (nLL' 3)), .int (zI (nHU' 3)), .int (zI (nHL' 3))], eO nP4 3 [.int (zI (nLU' 4)), .int (zI (nLL' 4)), .int (zI (nHU' 4)), .int (zI (nHL' 4))], eO nP5 3 [.int (zI (nLU' 5)), .int (zI (nLL' 5)), .int (zI (nHU' 5)), .int (zI (nHL' 5))], eO nP6 3 [.int (zI (nLU' 6)), .int (zI (nLL' 6)), .int (zI (nHU' 6)), .int (zI (nHL' 6))]] (zI r) := by
  refine Met.ofW (cc := cX2_fits) (maxL := 4) (ret := (some .boolean)) (by decide) rfl ?_
  intro p e s m args below meth c s₁ B hml hv
  obtain ⟨rfl, hsz, hP, hK, hD0⟩ := hv
  have hx := B.exec
  have hb := B.bytes
  have hr := B.returns
  have hts := atoms_spec (ws := wsX2_fits) B.pre
  have hown : s.vm.findClass RX2 = some m.cls := findClass_of_methodNamed B.named
  have hlocks := B.notSynchronized
  subst hsz
  have hD := hD0.self (sz := s.heap.size)
  generalize hAe : va_A [eO nO 1 [.ref nQt, .ref nQn, .ref nQg, .ref nQl, .int (zI nz), .int (zI nr), .int (zI nb), .int (zI ne)], eA nQt (cy 0) 7 nT, eA nQn (cy 0) 7 nN, eR nQl (cy 4) 7 [nP0, nP1, nP2, nP3, nP4, nP5, nP6], eO nP0 3 [.int (zI (nLU 0)), .int (zI (nLL 0)), .int (zI (nHU 0)), .int (zI (nHL 0))], eO nP1 3 [.int (zI (nLU 1)), .int (zI (nLL 1)), .int (zI (nHU 1)), .int (zI (nHL 1))], eO nP2 3 [.int (zI (nLU 2)), .int (zI (nLL 2)), .int (zI (nHU 2)), .int (zI (nHL 2))], eO nP3 3 [.int (zI (nLU 3)), .int (zI (nLL 3)), .int (zI (nHU 3)), .int (zI (nHL 3))], eO nP4 3 [.int (zI (nLU 4)), .int (zI (nLL 4)), .int (zI (nHU 4)), .int (zI (nHL 4))], eO nP5 3 [.int (zI (nLU 5)), .int (zI (nLL 5)), .int (zI (nHU 5)), .int (zI (nHL 5))], eO nP6 3 [.int (zI (nLU 6)), .int (zI (nLL 6)), .int (zI (nHU 6)), .int (zI (nHL 6))]] s.heap.size = A at hD ⊢
  have hA : ∀ q : Nat, s.heap.size ≤ q → A q := fun q h => by rw [← hAe]; exact Or.inr h
  have hS : va_S A s.heap s.heap [] := va_S.rf
  have hl := lv_entry ([.ref nO, .int (zI p1)]) (n := 4) (Nat.le_of_ble_eq_true rfl)
  rw [lg_entry_eq]
  generalize (lg_sl ([.ref nO, .int (zI p1)]) ++ List.replicate (4 - (lg_sl ([.ref nO, .int (zI p1)])).length) Slot.unset).toArray = ls at hl ⊢
  have hl : lv_has ls 4 [(0, .ref nO), (1, .int (zI p1))] := hl
  have hf := zq_of hf
  have key := zloop (st := st_X2_fits p1 nr nT nN) (res := (r, nLU', nLL', nHU', nHL')) (K := fun (x3, nLU, nLL, nHU, nHL) => ∀ (H : Heap) (locs : List Loc) (ls : Array Slot), va_P D vwCl [eO nO 1 [.ref nQt, .ref nQn, .ref nQg, .ref nQl, .int (zI nz), .int (zI nr), .int (zI nb), .int (zI ne)], eA nQt (cy 0) 7 nT, eA nQn (cy 0) 7 nN, eR nQl (cy 4) 7 [nP0, nP1, nP2, nP3, nP4, nP5, nP6], eO nP0 3 [.int (zI (nLU 0)), .int (zI (nLL 0)), .int (zI (nHU 0)), .int (zI (nHL 0))], eO nP1 3 [.int (zI (nLU 1)), .int (zI (nLL 1)), .int (zI (nHU 1)), .int (zI (nHL 1))], eO nP2 3 [.int (zI (nLU 2)), .int (zI (nLL 2)), .int (zI (nHU 2)), .int (zI (nHL 2))], eO nP3 3 [.int (zI (nLU 3)), .int (zI (nLL 3)), .int (zI (nHU 3)), .int (zI (nHL 3))], eO nP4 3 [.int (zI (nLU 4)), .int (zI (nLL 4)), .int (zI (nHU 4)), .int (zI (nHL 4))], eO nP5 3 [.int (zI (nLU 5)), .int (zI (nLL 5)), .int (zI (nHU 5)), .int (zI (nHL 5))], eO nP6 3 [.int (zI (nLU 6)), .int (zI (nLL 6)), .int (zI (nHU 6)), .int (zI (nHL 6))]] H → va_D A [eO nO 1 [.ref nQt, .ref nQn, .ref nQg, .ref nQl, .int (zI nz), .int (zI nr), .int (zI nb), .int (zI ne)], eA nQt (cy 0) 7 nT, eA nQn (cy 0) 7 nN, eR nQl (cy 4) 7 [nP0, nP1, nP2, nP3, nP4, nP5, nP6], eO nP0 3 [.int (zI (nLU 0)), .int (zI (nLL 0)), .int (zI (nHU 0)), .int (zI (nHL 0))], eO nP1 3 [.int (zI (nLU 1)), .int (zI (nLL 1)), .int (zI (nHU 1)), .int (zI (nHL 1))], eO nP2 3 [.int (zI (nLU 2)), .int (zI (nLL 2)), .int (zI (nHU 2)), .int (zI (nHL 2))], eO nP3 3 [.int (zI (nLU 3)), .int (zI (nLL 3)), .int (zI (nHU 3)), .int (zI (nHL 3))], eO nP4 3 [.int (zI (nLU 4)), .int (zI (nLL 4)), .int (zI (nHU 4)), .int (zI (nHL 4))], eO nP5 3 [.int (zI (nLU 5)), .int (zI (nLL 5)), .int (zI (nHU 5)), .int (zI (nHL 5))], eO nP6 3 [.int (zI (nLU 6)), .int (zI (nLL 6)), .int (zI (nHU 6)), .int (zI (nHL 6))]] → va_S A s.heap H locs → lv_has ls 4 [(0, .ref nO), (1, .int (zI p1)), (2, .ref (zat [nP0, nP1, nP2, nP3, nP4, nP5, nP6] p1)), (3, .int (zI x3))] → zGi p l e wsX2_fits ({ frames := 1, cells := 0, slots := 0, locals := 24 }) s m [.ref nO, .int (zI p1)] below meth c A D [eO nO 1 [.ref nQt, .ref nQn, .ref nQg, .ref nQl, .int (zI nz), .int (zI nr), .int (zI nb), .int (zI ne)], eA nQt (cy 0) 7 nT, eA nQn (cy 0) 7 nN, eR nQl (cy 4) 7 [nP0, nP1, nP2, nP3, nP4, nP5, nP6], eO nP0 3 [.int (zI (nLU' 0)), .int (zI (nLL' 0)), .int (zI (nHU' 0)), .int (zI (nHL' 0))], eO nP1 3 [.int (zI (nLU' 1)), .int (zI (nLL' 1)), .int (zI (nHU' 1)), .int (zI (nHL' 1))], eO nP2 3 [.int (zI (nLU' 2)), .int (zI (nLL' 2)), .int (zI (nHU' 2)), .int (zI (nHL' 2))], eO nP3 3 [.int (zI (nLU' 3)), .int (zI (nLL' 3)), .int (zI (nHU' 3)), .int (zI (nHL' 3))], eO nP4 3 [.int (zI (nLU' 4)), .int (zI (nLL' 4)), .int (zI (nHU' 4)), .int (zI (nHL' 4))], eO nP5 3 [.int (zI (nLU' 5)), .int (zI (nLL' 5)), .int (zI (nHU' 5)), .int (zI (nHL' 5))], eO nP6 3 [.int (zI (nLU' 6)), .int (zI (nLL' 6)), .int (zI (nHU' 6)), .int (zI (nHL' 6))]] (zI r) H locs (F0 m 21 ls [])) (by
    rintro ⟨x3, nLU, nLL, nHU, nHL⟩ hf
    intro H locs ls hP hD hS hl
    unfold st_X2_fits at hf
    try dsimp only at hf
    obtain ⟨hg, hf⟩ := zq_gd hf
    have hs9 : p1 = 0 ∨ p1 = 1 ∨ p1 = 2 ∨ p1 = 3 ∨ p1 = 4 ∨ p1 = 5 ∨ p1 = 6 := by have h1 := hg.1; have h2 := hg.2; omega
    rcases hs9 with rfl | rfl | rfl | rfl | rfl | rfl | rfl
    · have hl : lv_has ls 4 [(0, .ref nO), (1, .int (zI 0)), (2, .ref nP0), (3, .int (zI x3))] := hl
      refine lv_iload_n hx hb dX2_fits_21 rfl (lv_at hl 3 rfl) ?_
      refine lv_iload_n hx hb dX2_fits_22 rfl (lv_at hl 1 rfl) ?_
      refine zz_icmp_ge (tgt := 76) hx hb dX2_fits_23 (by decide) hf (fun hc hf => ?_) (fun hc hf => ?_)
      · refine lv_aload_n hx hb dX2_fits_26 rfl (lv_at hl 2 rfl) ?_
        refine lv_aload_n hx hb dX2_fits_27 rfl (lv_at hl 0 rfl) ?_
        refine va_get (D := D) (ci := 1) (v := .ref nQt) (C := RX2) (T := TX2) (N := 8) hx hb hts u_X2_fits_X2 hown hK.1 hP 0 rfl rfl 0 (by decide) (hts _ m_X2_fits_2) (fun _ h9 => h9) rfl dX2_fits_28 ?_
        refine lv_iload_n hx hb dX2_fits_31 rfl (lv_at hl 1 rfl) ?_
        obtain ⟨hg, hf⟩ := zq_gd hf
        refine zz_iald (i := 0) hx hb hK hP 1 rfl (Nat.le_of_ble_eq_true rfl) hg dX2_fits_32 ?_
        refine lv_aload_n hx hb dX2_fits_33 rfl (lv_at hl 0 rfl) ?_
        refine va_get (D := D) (ci := 1) (v := .ref nQt) (C := RX2) (T := TX2) (N := 8) hx hb hts u_X2_fits_X2 hown hK.1 hP 0 rfl rfl 0 (by decide) (hts _ m_X2_fits_2) (fun _ h9 => h9) rfl dX2_fits_34 ?_
        refine lv_iload_n hx hb dX2_fits_37 rfl (lv_at hl 3 rfl) ?_
        obtain ⟨hg, hf⟩ := zq_gd hf
        refine zz_iald (i := x3) hx hb hK hP 1 rfl (Nat.le_of_ble_eq_true rfl) hg dX2_fits_38 ?_
        refine zz_isub hx hb dX2_fits_39 ?_
        refine lv_aload_n hx hb dX2_fits_40 rfl (lv_at hl 0 rfl) ?_
        refine va_get (D := D) (ci := 1) (v := .int (zI nr)) (C := RX2) (T := TX2) (N := 8) hx hb hts u_X2_fits_X2 hown hK.1 hP 0 rfl rfl 5 (by decide) (hts _ m_X2_fits_3) (fun _ h9 => h9) rfl dX2_fits_41 ?_
        refine lv_aload_n hx hb dX2_fits_44 rfl (lv_at hl 0 rfl) ?_
        refine va_get (D := D) (ci := 1) (v := .ref nQn) (C := RX2) (T := TX2) (N := 8) hx hb hts u_X2_fits_X2 hown hK.1 hP 0 rfl rfl 1 (by decide) (hts _ m_X2_fits_4) (fun _ h9 => h9) rfl dX2_fits_45 ?_
        refine lv_iload_n hx hb dX2_fits_48 rfl (lv_at hl 1 rfl) ?_
        obtain ⟨hg, hf⟩ := zq_gd hf
        refine zz_iald (i := 0) hx hb hK hP 2 rfl (Nat.le_of_ble_eq_true rfl) hg dX2_fits_49 ?_
        refine lv_aload_n hx hb dX2_fits_50 rfl (lv_at hl 0 rfl) ?_
        refine va_get (D := D) (ci := 1) (v := .ref nQn) (C := RX2) (T := TX2) (N := 8) hx hb hts u_X2_fits_X2 hown hK.1 hP 0 rfl rfl 1 (by decide) (hts _ m_X2_fits_4) (fun _ h9 => h9) rfl dX2_fits_51 ?_
        refine lv_iload_n hx hb dX2_fits_54 rfl (lv_at hl 3 rfl) ?_
        obtain ⟨hg, hf⟩ := zq_gd hf
        refine zz_iald (i := x3) hx hb hK hP 2 rfl (Nat.le_of_ble_eq_true rfl) hg dX2_fits_55 ?_
        refine zz_isub hx hb dX2_fits_56 ?_
        obtain ⟨⟨r57, clu_57, cll_57, chu_57, chl_57⟩, hc57, hf⟩ := zq_bind hf
        refine zcallVi (wr := [eO nO 1 [.ref nQt, .ref nQn, .ref nQg, .ref nQl, .int (zI nz), .int (zI nr), .int (zI nb), .int (zI ne)], eA nQt (cy 0) 7 nT, eA nQn (cy 0) 7 nN, eR nQl (cy 4) 7 [nP0, nP1, nP2, nP3, nP4, nP5, nP6], eO nP1 3 [.int (zI (nLU 1)), .int (zI (nLL 1)), .int (zI (nHU 1)), .int (zI (nHL 1))], eO nP2 3 [.int (zI (nLU 2)), .int (zI (nLL 2)), .int (zI (nHU 2)), .int (zI (nHL 2))], eO nP3 3 [.int (zI (nLU 3)), .int (zI (nLL 3)), .int (zI (nHU 3)), .int (zI (nHL 3))], eO nP4 3 [.int (zI (nLU 4)), .int (zI (nLL 4)), .int (zI (nHU 4)), .int (zI (nHL 4))], eO nP5 3 [.int (zI (nLU 5)), .int (zI (nLL 5)), .int (zI (nHU 5)), .int (zI (nHL 5))], eO nP6 3 [.int (zI (nLU 6)), .int (zI (nLL 6)), .int (zI (nHU 6)), .int (zI (nHL 6))]]) (rest := []) ⟨hx, hb, hml, hown, hts⟩ (c_X4_cut l D cy nP0 H.size ((nT (Int.toNat 0)) - (nT (Int.toNat x3))) nr ((nN (Int.toNat 0)) - (nN (Int.toNat x3))) (nLU 0) (nLL 0) (nHU 0) (nHL 0) hc57) (cwV 3 hts gX2_fits_X4_cut rfl rfl rfl (by decide +kernel) ⟨Nat.le_of_ble_eq_true rfl, Nat.le_of_ble_eq_true rfl⟩) hK hP hD hS hA [4] [0, 1, 2, 3, 5, 6, 7, 8, 9, 10] rfl rfl rfl rfl (by decide) (va_recv hK.1 hP (ci := 3) (q0 := 4) rfl rfl) rfl hl.1 rfl (Nat.le_of_ble_eq_true rfl) dX2_fits_57 ⟨Nat.zero_le _, Nat.zero_le _⟩ (fun H locs hP hD hS => ?_)
        have hP : va_P D vwCl [eO nO 1 [.ref nQt, .ref nQn, .ref nQg, .ref nQl, .int (zI nz), .int (zI nr), .int (zI nb), .int (zI ne)], eA nQt (cy 0) 7 nT, eA nQn (cy 0) 7 nN, eR nQl (cy 4) 7 [nP0, nP1, nP2, nP3, nP4, nP5, nP6], eO nP0 3 [.int (zI clu_57), .int (zI cll_57), .int (zI chu_57), .int (zI chl_57)], eO nP1 3 [.int (zI (nLU 1)), .int (zI (nLL 1)), .int (zI (nHU 1)), .int (zI (nHL 1))], eO nP2 3 [.int (zI (nLU 2)), .int (zI (nLL 2)), .int (zI (nHU 2)), .int (zI (nHL 2))], eO nP3 3 [.int (zI (nLU 3)), .int (zI (nLL 3)), .int (zI (nHU 3)), .int (zI (nHL 3))], eO nP4 3 [.int (zI (nLU 4)), .int (zI (nLL 4)), .int (zI (nHU 4)), .int (zI (nHL 4))], eO nP5 3 [.int (zI (nLU 5)), .int (zI (nLL 5)), .int (zI (nHU 5)), .int (zI (nHL 5))], eO nP6 3 [.int (zI (nLU 6)), .int (zI (nLL 6)), .int (zI (nHU 6)), .int (zI (nHL 6))]] H := hP.sub [0, 1, 2, 3, 10, 4, 5, 6, 7, 8, 9] rfl
        have hD : va_D A [eO nO 1 [.ref nQt, .ref nQn, .ref nQg, .ref nQl, .int (zI nz), .int (zI nr), .int (zI nb), .int (zI ne)], eA nQt (cy 0) 7 nT, eA nQn (cy 0) 7 nN, eR nQl (cy 4) 7 [nP0, nP1, nP2, nP3, nP4, nP5, nP6], eO nP0 3 [.int (zI clu_57), .int (zI cll_57), .int (zI chu_57), .int (zI chl_57)], eO nP1 3 [.int (zI (nLU 1)), .int (zI (nLL 1)), .int (zI (nHU 1)), .int (zI (nHL 1))], eO nP2 3 [.int (zI (nLU 2)), .int (zI (nLL 2)), .int (zI (nHU 2)), .int (zI (nHL 2))], eO nP3 3 [.int (zI (nLU 3)), .int (zI (nLL 3)), .int (zI (nHU 3)), .int (zI (nHL 3))], eO nP4 3 [.int (zI (nLU 4)), .int (zI (nLL 4)), .int (zI (nHU 4)), .int (zI (nHL 4))], eO nP5 3 [.int (zI (nLU 5)), .int (zI (nLL 5)), .int (zI (nHU 5)), .int (zI (nHL 5))], eO nP6 3 [.int (zI (nLU 6)), .int (zI (nLL 6)), .int (zI (nHU 6)), .int (zI (nHL 6))]] := hD.sub [0, 1, 2, 3, 10, 4, 5, 6, 7, 8, 9] rfl rfl
        refine lv_pop hx hb dX2_fits_60 rfl ?_
        refine lv_aload_n hx hb dX2_fits_61 rfl (lv_at hl 2 rfl) ?_
        obtain ⟨r62, hc62, hf⟩ := zq_bind hf
        refine zcallVi (wr := [eO nO 1 [.ref nQt, .ref nQn, .ref nQg, .ref nQl, .int (zI nz), .int (zI nr), .int (zI nb), .int (zI ne)], eA nQt (cy 0) 7 nT, eA nQn (cy 0) 7 nN, eR nQl (cy 4) 7 [nP0, nP1, nP2, nP3, nP4, nP5, nP6], eO nP1 3 [.int (zI (nLU 1)), .int (zI (nLL 1)), .int (zI (nHU 1)), .int (zI (nHL 1))], eO nP2 3 [.int (zI (nLU 2)), .int (zI (nLL 2)), .int (zI (nHU 2)), .int (zI (nHL 2))], eO nP3 3 [.int (zI (nLU 3)), .int (zI (nLL 3)), .int (zI (nHU 3)), .int (zI (nHL 3))], eO nP4 3 [.int (zI (nLU 4)), .int (zI (nLL 4)), .int (zI (nHU 4)), .int (zI (nHL 4))], eO nP5 3 [.int (zI (nLU 5)), .int (zI (nLL 5)), .int (zI (nHU 5)), .int (zI (nHL 5))], eO nP6 3 [.int (zI (nLU 6)), .int (zI (nLL 6)), .int (zI (nHU 6)), .int (zI (nHL 6))]]) (rest := []) ⟨hx, hb, hml, hown, hts⟩ (c_X4_isEmpty l D cy nP0 H.size clu_57 cll_57 chu_57 chl_57 hc62) (cwV 0 hts gX2_fits_X4_isEmpty rfl rfl rfl (by decide +kernel) ⟨Nat.le_of_ble_eq_true rfl, Nat.le_of_ble_eq_true rfl⟩) hK hP hD hS hA [4] [0, 1, 2, 3, 5, 6, 7, 8, 9, 10] rfl rfl rfl rfl (by decide) (va_recv hK.1 hP (ci := 3) (q0 := 4) rfl rfl) rfl hl.1 rfl (Nat.le_of_ble_eq_true rfl) dX2_fits_62 ⟨Nat.zero_le _, Nat.zero_le _⟩ (fun H locs hP hD hS => ?_)
        have hP : va_P D vwCl [eO nO 1 [.ref nQt, .ref nQn, .ref nQg, .ref nQl, .int (zI nz), .int (zI nr), .int (zI nb), .int (zI ne)], eA nQt (cy 0) 7 nT, eA nQn (cy 0) 7 nN, eR nQl (cy 4) 7 [nP0, nP1, nP2, nP3, nP4, nP5, nP6], eO nP0 3 [.int (zI clu_57), .int (zI cll_57), .int (zI chu_57), .int (zI chl_57)], eO nP1 3 [.int (zI (nLU 1)), .int (zI (nLL 1)), .int (zI (nHU 1)), .int (zI (nHL 1))], eO nP2 3 [.int (zI (nLU 2)), .int (zI (nLL 2)), .int (zI (nHU 2)), .int (zI (nHL 2))], eO nP3 3 [.int (zI (nLU 3)), .int (zI (nLL 3)), .int (zI (nHU 3)), .int (zI (nHL 3))], eO nP4 3 [.int (zI (nLU 4)), .int (zI (nLL 4)), .int (zI (nHU 4)), .int (zI (nHL 4))], eO nP5 3 [.int (zI (nLU 5)), .int (zI (nLL 5)), .int (zI (nHU 5)), .int (zI (nHL 5))], eO nP6 3 [.int (zI (nLU 6)), .int (zI (nLL 6)), .int (zI (nHU 6)), .int (zI (nHL 6))]] H := hP.sub [0, 1, 2, 3, 10, 4, 5, 6, 7, 8, 9] rfl
        have hD : va_D A [eO nO 1 [.ref nQt, .ref nQn, .ref nQg, .ref nQl, .int (zI nz), .int (zI nr), .int (zI nb), .int (zI ne)], eA nQt (cy 0) 7 nT, eA nQn (cy 0) 7 nN, eR nQl (cy 4) 7 [nP0, nP1, nP2, nP3, nP4, nP5, nP6], eO nP0 3 [.int (zI clu_57), .int (zI cll_57), .int (zI chu_57), .int (zI chl_57)], eO nP1 3 [.int (zI (nLU 1)), .int (zI (nLL 1)), .int (zI (nHU 1)), .int (zI (nHL 1))], eO nP2 3 [.int (zI (nLU 2)), .int (zI (nLL 2)), .int (zI (nHU 2)), .int (zI (nHL 2))], eO nP3 3 [.int (zI (nLU 3)), .int (zI (nLL 3)), .int (zI (nHU 3)), .int (zI (nHL 3))], eO nP4 3 [.int (zI (nLU 4)), .int (zI (nLL 4)), .int (zI (nHU 4)), .int (zI (nHL 4))], eO nP5 3 [.int (zI (nLU 5)), .int (zI (nLL 5)), .int (zI (nHU 5)), .int (zI (nHL 5))], eO nP6 3 [.int (zI (nLU 6)), .int (zI (nLL 6)), .int (zI (nHU 6)), .int (zI (nHL 6))]] := hD.sub [0, 1, 2, 3, 10, 4, 5, 6, 7, 8, 9] rfl rfl
        refine zz_if_eq (tgt := 70) hx hb dX2_fits_65 (by decide) hf (fun hc hf => ?_) (fun hc hf => ?_)
        · refine lv_iinc (v := zI (x3 + 1)) (lv' := [(3, .int (zI (x3 + 1))), (0, .ref nO), (1, .int (zI 0)), (2, .ref nP0)]) hx hb dX2_fits_70 hl (k := 3) rfl (zI_add _ _) (by decide) rfl (fun ls hl => ?_)
          refine lv_goto (tgt := 21) hx hb dX2_fits_73 (by decide) ?_
          have hf := zq_some hf
          exact hf _ _ _ hP hD hS (lv_sub hl [1, 2, 3, 0] rfl)
        · refine lv_iconst (v := zI 0) hx hb dX2_fits_68 rfl ?_
          have hf := zq_some hf
          cases hf
          exact W.zret hx hb hr rfl (fun t ht hW => ⟨⟨_, (), rfl, rfl, by rw [ht]; exact hP, hD⟩, hS.F ht⟩) hS.2.2 dX2_fits_69
      · refine lv_iconst (v := zI 1) hx hb dX2_fits_76 rfl ?_
        have hf := zq_some hf
        cases hf
        exact W.zret hx hb hr rfl (fun t ht hW => ⟨⟨_, (), rfl, rfl, by rw [ht]; exact hP, hD⟩, hS.F ht⟩) hS.2.2 dX2_fits_77
    · have hl : lv_has ls 4 [(0, .ref nO), (1, .int (zI 1)), (2, .ref nP1), (3, .int (zI x3))] := hl
      refine lv_iload_n hx hb dX2_fits_21 rfl (lv_at hl 3 rfl) ?_
      refine lv_iload_n hx hb dX2_fits_22 rfl (lv_at hl 1 rfl) ?_
      refine zz_icmp_ge (tgt := 76) hx hb dX2_fits_23 (by decide) hf (fun hc hf => ?_) (fun hc hf => ?_)
      · refine lv_aload_n hx hb dX2_fits_26 rfl (lv_at hl 2 rfl) ?_
        refine lv_aload_n hx hb dX2_fits_27 rfl (lv_at hl 0 rfl) ?_
        refine va_get (D := D) (ci := 1) (v := .ref nQt) (C := RX2) (T := TX2) (N := 8) hx hb hts u_X2_fits_X2 hown hK.1 hP 0 rfl rfl 0 (by decide) (hts _ m_X2_fits_2) (fun _ h9 => h9) rfl dX2_fits_28 ?_
        refine lv_iload_n hx hb dX2_fits_31 rfl (lv_at hl 1 rfl) ?_
        obtain ⟨hg, hf⟩ := zq_gd hf
        refine zz_iald (i := 1) hx hb hK hP 1 rfl (Nat.le_of_ble_eq_true rfl) hg dX2_fits_32 ?_
        refine lv_aload_n hx hb dX2_fits_33 rfl (lv_at hl 0 rfl) ?_
        refine va_get (D := D) (ci := 1) (v := .ref nQt) (C := RX2) (T := TX2) (N := 8) hx hb hts u_X2_fits_X2 hown hK.1 hP 0 rfl rfl 0 (by decide) (hts _ m_X2_fits_2) (fun _ h9 => h9) rfl dX2_fits_34 ?_
        refine lv_iload_n hx hb dX2_fits_37 rfl (lv_at hl 3 rfl) ?_
        obtain ⟨hg, hf⟩ := zq_gd hf
        refine zz_iald (i := x3) hx hb hK hP 1 rfl (Nat.le_of_ble_eq_true rfl) hg dX2_fits_38 ?_
        refine zz_isub hx hb dX2_fits_39 ?_
        refine lv_aload_n hx hb dX2_fits_40 rfl (lv_at hl 0 rfl) ?_
        refine va_get (D := D) (ci := 1) (v := .int (zI nr)) (C := RX2) (T := TX2) (N := 8) hx hb hts u_X2_fits_X2 hown hK.1 hP 0 rfl rfl 5 (by decide) (hts _ m_X2_fits_3) (fun _ h9 => h9) rfl dX2_fits_41 ?_
        refine lv_aload_n hx hb dX2_fits_44 rfl (lv_at hl 0 rfl) ?_
        refine va_get (D := D) (ci := 1) (v := .ref nQn) (C := RX2) (T := TX2) (N := 8) hx hb hts u_X2_fits_X2 hown hK.1 hP 0 rfl rfl 1 (by decide) (hts _ m_X2_fits_4) (fun _ h9 => h9) rfl dX2_fits_45 ?_
        refine lv_iload_n hx hb dX2_fits_48 rfl (lv_at hl 1 rfl) ?_
        obtain ⟨hg, hf⟩ := zq_gd hf
        refine zz_iald (i := 1) hx hb hK hP 2 rfl (Nat.le_of_ble_eq_true rfl) hg dX2_fits_49 ?_
        refine lv_aload_n hx hb dX2_fits_50 rfl (lv_at hl 0 rfl) ?_
        refine va_get (D := D) (ci := 1) (v := .ref nQn) (C := RX2) (T := TX2) (N := 8) hx hb hts u_X2_fits_X2 hown hK.1 hP 0 rfl rfl 1 (by decide) (hts _ m_X2_fits_4) (fun _ h9 => h9) rfl dX2_fits_51 ?_
        refine lv_iload_n hx hb dX2_fits_54 rfl (lv_at hl 3 rfl) ?_
        obtain ⟨hg, hf⟩ := zq_gd hf
        refine zz_iald (i := x3) hx hb hK hP 2 rfl (Nat.le_of_ble_eq_true rfl) hg dX2_fits_55 ?_
        refine zz_isub hx hb dX2_fits_56 ?_
        obtain ⟨⟨r57, clu_57, cll_57, chu_57, chl_57⟩, hc57, hf⟩ := zq_bind hf
        refine zcallVi (wr := [eO nO 1 [.ref nQt, .ref nQn, .ref nQg, .ref nQl, .int (zI nz), .int (zI nr), .int (zI nb), .int (zI ne)], eA nQt (cy 0) 7 nT, eA nQn (cy 0) 7 nN, eR nQl (cy 4) 7 [nP0, nP1, nP2, nP3, nP4, nP5, nP6], eO nP0 3 [.int (zI (nLU 0)), .int (zI (nLL 0)), .int (zI (nHU 0)), .int (zI (nHL 0))], eO nP2 3 [.int (zI (nLU 2)), .int (zI (nLL 2)), .int (zI (nHU 2)), .int (zI (nHL 2))], eO nP3 3 [.int (zI (nLU 3)), .int (zI (nLL 3)), .int (zI (nHU 3)), .int (zI (nHL 3))], eO nP4 3 [.int (zI (nLU 4)), .int (zI (nLL 4)), .int (zI (nHU 4)), .int (zI (nHL 4))], eO nP5 3 [.int (zI (nLU 5)), .int (zI (nLL 5)), .int (zI (nHU 5)), .int (zI (nHL 5))], eO nP6 3 [.int (zI (nLU 6)), .int (zI (nLL 6)), .int (zI (nHU 6)), .int (zI (nHL 6))]]) (rest := []) ⟨hx, hb, hml, hown, hts⟩ (c_X4_cut l D cy nP1 H.size ((nT (Int.toNat 1)) - (nT (Int.toNat x3))) nr ((nN (Int.toNat 1)) - (nN (Int.toNat x3))) (nLU 1) (nLL 1) (nHU 1) (nHL 1) hc57) (cwV 3 hts gX2_fits_X4_cut rfl rfl rfl (by decide +kernel) ⟨Nat.le_of_ble_eq_true rfl, Nat.le_of_ble_eq_true rfl⟩) hK hP hD hS hA [5] [0, 1, 2, 3, 4, 6, 7, 8, 9, 10] rfl rfl rfl rfl (by decide) (va_recv hK.1 hP (ci := 3) (q0 := 5) rfl rfl) rfl hl.1 rfl (Nat.le_of_ble_eq_true rfl) dX2_fits_57 ⟨Nat.zero_le _, Nat.zero_le _⟩ (fun H locs hP hD hS => ?_)
        have hP : va_P D vwCl [eO nO 1 [.ref nQt, .ref nQn, .ref nQg, .ref nQl, .int (zI nz), .int (zI nr), .int (zI nb), .int (zI ne)], eA nQt (cy 0) 7 nT, eA nQn (cy 0) 7 nN, eR nQl (cy 4) 7 [nP0, nP1, nP2, nP3, nP4, nP5, nP6], eO nP0 3 [.int (zI (nLU 0)), .int (zI (nLL 0)), .int (zI (nHU 0)), .int (zI (nHL 0))], eO nP1 3 [.int (zI clu_57), .int (zI cll_57), .int (zI chu_57), .int (zI chl_57)], eO nP2 3 [.int (zI (nLU 2)), .int (zI (nLL 2)), .int (zI (nHU 2)), .int (zI (nHL 2))], eO nP3 3 [.int (zI (nLU 3)), .int (zI (nLL 3)), .int (zI (nHU 3)), .int (zI (nHL 3))], eO nP4 3 [.int (zI (nLU 4)), .int (zI (nLL 4)), .int (zI (nHU 4)), .int (zI (nHL 4))], eO nP5 3 [.int (zI (nLU 5)), .int (zI (nLL 5)), .int (zI (nHU 5)), .int (zI (nHL 5))], eO nP6 3 [.int (zI (nLU 6)), .int (zI (nLL 6)), .int (zI (nHU 6)), .int (zI (nHL 6))]] H := hP.sub [0, 1, 2, 3, 4, 10, 5, 6, 7, 8, 9] rfl
        have hD : va_D A [eO nO 1 [.ref nQt, .ref nQn, .ref nQg, .ref nQl, .int (zI nz), .int (zI nr), .int (zI nb), .int (zI ne)], eA nQt (cy 0) 7 nT, eA nQn (cy 0) 7 nN, eR nQl (cy 4) 7 [nP0, nP1, nP2, nP3, nP4, nP5, nP6], eO nP0 3 [.int (zI (nLU 0)), .int (zI (nLL 0)), .int (zI (nHU 0)), .int (zI (nHL 0))], eO nP1 3 [.int (zI clu_57), .int (zI cll_57), .int (zI chu_57), .int (zI chl_57)], eO nP2 3 [.int (zI (nLU 2)), .int (zI (nLL 2)), .int (zI (nHU 2)), .int (zI (nHL 2))], eO nP3 3 [.int (zI (nLU 3)), .int (zI (nLL 3)), .int (zI (nHU 3)), .int (zI (nHL 3))], eO nP4 3 [.int (zI (nLU 4)), .int (zI (nLL 4)), .int (zI (nHU 4)), .int (zI (nHL 4))], eO nP5 3 [.int (zI (nLU 5)), .int (zI (nLL 5)), .int (zI (nHU 5)), .int (zI (nHL 5))], eO nP6 3 [.int (zI (nLU 6)), .int (zI (nLL 6)), .int (zI (nHU 6)), .int (zI (nHL 6))]] := hD.sub [0, 1, 2, 3, 4, 10, 5, 6, 7, 8, 9] rfl rfl
        refine lv_pop hx hb dX2_fits_60 rfl ?_
        refine lv_aload_n hx hb dX2_fits_61 rfl (lv_at hl 2 rfl) ?_
        obtain ⟨r62, hc62, hf⟩ := zq_bind hf
        refine zcallVi (wr := [eO nO 1 [.ref nQt, .ref nQn, .ref nQg, .ref nQl, .int (zI nz), .int (zI nr), .int (zI nb), .int (zI ne)], eA nQt (cy 0) 7 nT, eA nQn (cy 0) 7 nN, eR nQl (cy 4) 7 [nP0, nP1, nP2, nP3, nP4, nP5, nP6], eO nP0 3 [.int (zI (nLU 0)), .int (zI (nLL 0)), .int (zI (nHU 0)), .int (zI (nHL 0))], eO nP2 3 [.int (zI (nLU 2)), .int (zI (nLL 2)), .int (zI (nHU 2)), .int (zI (nHL 2))], eO nP3 3 [.int (zI (nLU 3)), .int (zI (nLL 3)), .int (zI (nHU 3)), .int (zI (nHL 3))], eO nP4 3 [.int (zI (nLU 4)), .int (zI (nLL 4)), .int (zI (nHU 4)), .int (zI (nHL 4))], eO nP5 3 [.int (zI (nLU 5)), .int (zI (nLL 5)), .int (zI (nHU 5)), .int (zI (nHL 5))], eO nP6 3 [.int (zI (nLU 6)), .int (zI (nLL 6)), .int (zI (nHU 6)), .int (zI (nHL 6))]]) (rest := []) ⟨hx, hb, hml, hown, hts⟩ (c_X4_isEmpty l D cy nP1 H.size clu_57 cll_57 chu_57 chl_57 hc62) (cwV 0 hts gX2_fits_X4_isEmpty rfl rfl rfl (by decide +kernel) ⟨Nat.le_of_ble_eq_true rfl, Nat.le_of_ble_eq_true rfl⟩) hK hP hD hS hA [5] [0, 1, 2, 3, 4, 6, 7, 8, 9, 10] rfl rfl rfl rfl (by decide) (va_recv hK.1 hP (ci := 3) (q0 := 5) rfl rfl) rfl hl.1 rfl (Nat.le_of_ble_eq_true rfl) dX2_fits_62 ⟨Nat.zero_le _, Nat.zero_le _⟩ (fun H locs hP hD hS => ?_)
        have hP : va_P D vwCl [eO nO 1 [.ref nQt, .ref nQn, .ref nQg, .ref nQl, .int (zI nz), .int (zI nr), .int (zI nb), .int (zI ne)], eA nQt (cy 0) 7 nT, eA nQn (cy 0) 7 nN, eR nQl (cy 4) 7 [nP0, nP1, nP2, nP3, nP4, nP5, nP6], eO nP0 3 [.int (zI (nLU 0)), .int (zI (nLL 0)), .int (zI (nHU 0)), .int (zI (nHL 0))], eO nP1 3 [.int (zI clu_57), .int (zI cll_57), .int (zI chu_57), .int (zI chl_57)], eO nP2 3 [.int (zI (nLU 2)), .int (zI (nLL 2)), .int (zI (nHU 2)), .int (zI (nHL 2))], eO nP3 3 [.int (zI (nLU 3)), .int (zI (nLL 3)), .int (zI (nHU 3)), .int (zI (nHL 3))], eO nP4 3 [.int (zI (nLU 4)), .int (zI (nLL 4)), .int (zI (nHU 4)), .int (zI (nHL 4))], eO nP5 3 [.int (zI (nLU 5)), .int (zI (nLL 5)), .int (zI (nHU 5)), .int (zI (nHL 5))], eO nP6 3 [.int (zI (nLU 6)), .int (zI (nLL 6)), .int (zI (nHU 6)), .int (zI (nHL 6))]] H := hP.sub [0, 1, 2, 3, 4, 10, 5, 6, 7, 8, 9] rfl
        have hD : va_D A [eO nO 1 [.ref nQt, .ref nQn, .ref nQg, .ref nQl, .int (zI nz), .int (zI nr), .int (zI nb), .int (zI ne)], eA nQt (cy 0) 7 nT, eA nQn (cy 0) 7 nN, eR nQl (cy 4) 7 [nP0, nP1, nP2, nP3, nP4, nP5, nP6], eO nP0 3 [.int (zI (nLU 0)), .int (zI (nLL 0)), .int (zI (nHU 0)), .int (zI (nHL 0))], eO nP1 3 [.int (zI clu_57), .int (zI cll_57), .int (zI chu_57), .int (zI chl_57)], eO nP2 3 [.int (zI (nLU 2)), .int (zI (nLL 2)), .int (zI (nHU 2)), .int (zI (nHL 2))], eO nP3 3 [.int (zI (nLU 3)), .int (zI (nLL 3)), .int (zI (nHU 3)), .int (zI (nHL 3))], eO nP4 3 [.int (zI (nLU 4)), .int (zI (nLL 4)), .int (zI (nHU 4)), .int (zI (nHL 4))], eO nP5 3 [.int (zI (nLU 5)), .int (zI (nLL 5)), .int (zI (nHU 5)), .int (zI (nHL 5))], eO nP6 3 [.int (zI (nLU 6)), .int (zI (nLL 6)), .int (zI (nHU 6)), .int (zI (nHL 6))]] := hD.sub [0, 1, 2, 3, 4, 10, 5, 6, 7, 8, 9] rfl rfl
        refine zz_if_eq (tgt := 70) hx hb dX2_fits_65 (by decide) hf (fun hc hf => ?_) (fun hc hf => ?_)
        · refine lv_iinc (v := zI (x3 + 1)) (lv' := [(3, .int (zI (x3 + 1))), (0, .ref nO), (1, .int (zI 1)), (2, .ref nP1)]) hx hb dX2_fits_70 hl (k := 3) rfl (zI_add _ _) (by decide) rfl (fun ls hl => ?_)
          refine lv_goto (tgt := 21) hx hb dX2_fits_73 (by decide) ?_
          have hf := zq_some hf
          exact hf _ _ _ hP hD hS (lv_sub hl [1, 2, 3, 0] rfl)
        · refine lv_iconst (v := zI 0) hx hb dX2_fits_68 rfl ?_
          have hf := zq_some hf
          cases hf
          exact W.zret hx hb hr rfl (fun t ht hW => ⟨⟨_, (), rfl, rfl, by rw [ht]; exact hP, hD⟩, hS.F ht⟩) hS.2.2 dX2_fits_69
      · refine lv_iconst (v := zI 1) hx hb dX2_fits_76 rfl ?_
        have hf := zq_some hf
        cases hf
        exact W.zret hx hb hr rfl (fun t ht hW => ⟨⟨_, (), rfl, rfl, by rw [ht]; exact hP, hD⟩, hS.F ht⟩) hS.2.2 dX2_fits_77
    · have hl : lv_has ls 4 [(0, .ref nO), (1, .int (zI 2)), (2, .ref nP2), (3, .int (zI x3))] := hl
      refine lv_iload_n hx hb dX2_fits_21 rfl (lv_at hl 3 rfl) ?_
      refine lv_iload_n hx hb dX2_fits_22 rfl (lv_at hl 1 rfl) ?_
      refine zz_icmp_ge (tgt := 76) hx hb dX2_fits_23 (by decide) hf (fun hc hf => ?_) (fun hc hf => ?_)
      · refine lv_aload_n hx hb dX2_fits_26 rfl (lv_at hl 2 rfl) ?_
        refine lv_aload_n hx hb dX2_fits_27 rfl (lv_at hl 0 rfl) ?_
        refine va_get (D := D) (ci := 1) (v := .ref nQt) (C := RX2) (T := TX2) (N := 8) hx hb hts u_X2_fits_X2 hown hK.1 hP 0 rfl rfl 0 (by decide) (hts _ m_X2_fits_2) (fun _ h9 => h9) rfl dX2_fits_28 ?_
        refine lv_iload_n hx hb dX2_fits_31 rfl (lv_at hl 1 rfl) ?_
        obtain ⟨hg, hf⟩ := zq_gd hf
        refine zz_iald (i := 2) hx hb hK hP 1 rfl (Nat.le_of_ble_eq_true rfl) hg dX2_fits_32 ?_
        refine lv_aload_n hx hb dX2_fits_33 rfl (lv_at hl 0 rfl) ?_
        refine va_get (D := D) (ci := 1) (v := .ref nQt) (C := RX2) (T := TX2) (N := 8) hx hb hts u_X2_fits_X2 hown hK.1 hP 0 rfl rfl 0 (by decide) (hts _ m_X2_fits_2) (fun _ h9 => h9) rfl dX2_fits_34 ?_
        refine lv_iload_n hx hb dX2_fits_37 rfl (lv_at hl 3 rfl) ?_
        obtain ⟨hg, hf⟩ := zq_gd hf
        refine zz_iald (i := x3) hx hb hK hP 1 rfl (Nat.le_of_ble_eq_true rfl) hg dX2_fits_38 ?_
        refine zz_isub hx hb dX2_fits_39 ?_
        refine lv_aload_n hx hb dX2_fits_40 rfl (lv_at hl 0 rfl) ?_
        refine va_get (D := D) (ci := 1) (v := .int (zI nr)) (C := RX2) (T := TX2) (N := 8) hx hb hts u_X2_fits_X2 hown hK.1 hP 0 rfl rfl 5 (by decide) (hts _ m_X2_fits_3) (fun _ h9 => h9) rfl dX2_fits_41 ?_
        refine lv_aload_n hx hb dX2_fits_44 rfl (lv_at hl 0 rfl) ?_
        refine va_get (D := D) (ci := 1) (v := .ref nQn) (C := RX2) (T := TX2) (N := 8) hx hb hts u_X2_fits_X2 hown hK.1 hP 0 rfl rfl 1 (by decide) (hts _ m_X2_fits_4) (fun _ h9 => h9) rfl dX2_fits_45 ?_
        refine lv_iload_n hx hb dX2_fits_48 rfl (lv_at hl 1 rfl) ?_
        obtain ⟨hg, hf⟩ := zq_gd hf
        refine zz_iald (i := 2) hx hb hK hP 2 rfl (Nat.le_of_ble_eq_true rfl) hg dX2_fits_49 ?_
        refine lv_aload_n hx hb dX2_fits_50 rfl (lv_at hl 0 rfl) ?_
        refine va_get (D := D) (ci := 1) (v := .ref nQn) (C := RX2) (T := TX2) (N := 8) hx hb hts u_X2_fits_X2 hown hK.1 hP 0 rfl rfl 1 (by decide) (hts _ m_X2_fits_4) (fun _ h9 => h9) rfl dX2_fits_51 ?_
        refine lv_iload_n hx hb dX2_fits_54 rfl (lv_at hl 3 rfl) ?_
        obtain ⟨hg, hf⟩ := zq_gd hf
        refine zz_iald (i := x3) hx hb hK hP 2 rfl (Nat.le_of_ble_eq_true rfl) hg dX2_fits_55 ?_
        refine zz_isub hx hb dX2_fits_56 ?_
        obtain ⟨⟨r57, clu_57, cll_57, chu_57, chl_57⟩, hc57, hf⟩ := zq_bind hf
        refine zcallVi (wr := [eO nO 1 [.ref nQt, .ref nQn, .ref nQg, .ref nQl, .int (zI nz), .int (zI nr), .int (zI nb), .int (zI ne)], eA nQt (cy 0) 7 nT, eA nQn (cy 0) 7 nN, eR nQl (cy 4) 7 [nP0, nP1, nP2, nP3, nP4, nP5, nP6], eO nP0 3 [.int (zI (nLU 0)), .int (zI (nLL 0)), .int (zI (nHU 0)), .int (zI (nHL 0))], eO nP1 3 [.int (zI (nLU 1)), .int (zI (nLL 1)), .int (zI (nHU 1)), .int (zI (nHL 1))], eO nP3 3 [.int (zI (nLU 3)), .int (zI (nLL 3)), .int (zI (nHU 3)), .int (zI (nHL 3))], eO nP4 3 [.int (zI (nLU 4)), .int (zI (nLL 4)), .int (zI (nHU 4)), .int (zI (nHL 4))], eO nP5 3 [.int (zI (nLU 5)), .int (zI (nLL 5)), .int (zI (nHU 5)), .int (zI (nHL 5))], eO nP6 3 [.int (zI (nLU 6)), .int (zI (nLL 6)), .int (zI (nHU 6)), .int (zI (nHL 6))]]) (rest := []) ⟨hx, hb, hml, hown, hts⟩ (c_X4_cut l D cy nP2 H.size ((nT (Int.toNat 2)) - (nT (Int.toNat x3))) nr ((nN (Int.toNat 2)) - (nN (Int.toNat x3))) (nLU 2) (nLL 2) (nHU 2) (nHL 2) hc57) (cwV 3 hts gX2_fits_X4_cut rfl rfl rfl (by decide +kernel) ⟨Nat.le_of_ble_eq_true rfl, Nat.le_of_ble_eq_true rfl⟩) hK hP hD hS hA [6] [0, 1, 2, 3, 4, 5, 7, 8, 9, 10] rfl rfl rfl rfl (by decide) (va_recv hK.1 hP (ci := 3) (q0 := 6) rfl rfl) rfl hl.1 rfl (Nat.le_of_ble_eq_true rfl) dX2_fits_57 ⟨Nat.zero_le _, Nat.zero_le _⟩ (fun H locs hP hD hS => ?_)
        have hP : va_P D vwCl [eO nO 1 [.ref nQt, .ref nQn, .ref nQg, .ref nQl, .int (zI nz), .int (zI nr), .int (zI nb), .int (zI ne)], eA nQt (cy 0) 7 nT, eA nQn (cy 0) 7 nN, eR nQl (cy 4) 7 [nP0, nP1, nP2, nP3, nP4, nP5, nP6], eO nP0 3 [.int (zI (nLU 0)), .int (zI (nLL 0)), .int (zI (nHU 0)), .int (zI (nHL 0))], eO nP1 3 [.int (zI (nLU 1)), .int (zI (nLL 1)), .int (zI (nHU 1)), .int (zI (nHL 1))], eO nP2 3 [.int (zI clu_57), .int (zI cll_57), .int (zI chu_57), .int (zI chl_57)], eO nP3 3 [.int (zI (nLU 3)), .int (zI (nLL 3)), .int (zI (nHU 3)), .int (zI (nHL 3))], eO nP4 3 [.int (zI (nLU 4)), .int (zI (nLL 4)), .int (zI (nHU 4)), .int (zI (nHL 4))], eO nP5 3 [.int (zI (nLU 5)), .int (zI (nLL 5)), .int (zI (nHU 5)), .int (zI (nHL 5))], eO nP6 3 [.int (zI (nLU 6)), .int (zI (nLL 6)), .int (zI (nHU 6)), .int (zI (nHL 6))]] H := hP.sub [0, 1, 2, 3, 4, 5, 10, 6, 7, 8, 9] rfl
        have hD : va_D A [eO nO 1 [.ref nQt, .ref nQn, .ref nQg, .ref nQl, .int (zI nz), .int (zI nr), .int (zI nb), .int (zI ne)], eA nQt (cy 0) 7 nT, eA nQn (cy 0) 7 nN, eR nQl (cy 4) 7 [nP0, nP1, nP2, nP3, nP4, nP5, nP6], eO nP0 3 [.int (zI (nLU 0)), .int (zI (nLL 0)), .int (zI (nHU 0)), .int (zI (nHL 0))], eO nP1 3 [.int (zI (nLU 1)), .int (zI (nLL 1)), .int (zI (nHU 1)), .int (zI (nHL 1))], eO nP2 3 [.int (zI clu_57), .int (zI cll_57), .int (zI chu_57), .int (zI chl_57)], eO nP3 3 [.int (zI (nLU 3)), .int (zI (nLL 3)), .int (zI (nHU 3)), .int (zI (nHL 3))], eO nP4 3 [.int (zI (nLU 4)), .int (zI (nLL 4)), .int (zI (nHU 4)), .int (zI (nHL 4))], eO nP5 3 [.int (zI (nLU 5)), .int (zI (nLL 5)), .int (zI (nHU 5)), .int (zI (nHL 5))], eO nP6 3 [.int (zI (nLU 6)), .int (zI (nLL 6)), .int (zI (nHU 6)), .int (zI (nHL 6))]] := hD.sub [0, 1, 2, 3, 4, 5, 10, 6, 7, 8, 9] rfl rfl
        refine lv_pop hx hb dX2_fits_60 rfl ?_
        refine lv_aload_n hx hb dX2_fits_61 rfl (lv_at hl 2 rfl) ?_
        obtain ⟨r62, hc62, hf⟩ := zq_bind hf
        refine zcallVi (wr := [eO nO 1 [.ref nQt, .ref nQn, .ref nQg, .ref nQl, .int (zI nz), .int (zI nr), .int (zI nb), .int (zI ne)], eA nQt (cy 0) 7 nT, eA nQn (cy 0) 7 nN, eR nQl (cy 4) 7 [nP0, nP1, nP2, nP3, nP4, nP5, nP6], eO nP0 3 [.int (zI (nLU 0)), .int (zI (nLL 0)), .int (zI (nHU 0)), .int (zI (nHL 0))], eO nP1 3 [.int (zI (nLU 1)), .int (zI (nLL 1)), .int (zI (nHU 1)), .int (zI (nHL 1))], eO nP3 3 [.int (zI (nLU 3)), .int (zI (nLL 3)), .int (zI (nHU 3)), .int (zI (nHL 3))], eO nP4 3 [.int (zI (nLU 4)), .int (zI (nLL 4)), .int (zI (nHU 4)), .int (zI (nHL 4))], eO nP5 3 [.int (zI (nLU 5)), .int (zI (nLL 5)), .int (zI (nHU 5)), .int (zI (nHL 5))], eO nP6 3 [.int (zI (nLU 6)), .int (zI (nLL 6)), .int (zI (nHU 6)), .int (zI (nHL 6))]]) (rest := []) ⟨hx, hb, hml, hown, hts⟩ (c_X4_isEmpty l D cy nP2 H.size clu_57 cll_57 chu_57 chl_57 hc62) (cwV 0 hts gX2_fits_X4_isEmpty rfl rfl rfl (by decide +kernel) ⟨Nat.le_of_ble_eq_true rfl, Nat.le_of_ble_eq_true rfl⟩) hK hP hD hS hA [6] [0, 1, 2, 3, 4, 5, 7, 8, 9, 10] rfl rfl rfl rfl (by decide) (va_recv hK.1 hP (ci := 3) (q0 := 6) rfl rfl) rfl hl.1 rfl (Nat.le_of_ble_eq_true rfl) dX2_fits_62 ⟨Nat.zero_le _, Nat.zero_le _⟩ (fun H locs hP hD hS => ?_)
        have hP : va_P D vwCl [eO nO 1 [.ref nQt, .ref nQn, .ref nQg, .ref nQl, .int (zI nz), .int (zI nr), .int (zI nb), .int (zI ne)], eA nQt (cy 0) 7 nT, eA nQn (cy 0) 7 nN, eR nQl (cy 4) 7 [nP0, nP1, nP2, nP3, nP4, nP5, nP6], eO nP0 3 [.int (zI (nLU 0)), .int (zI (nLL 0)), .int (zI (nHU 0)), .int (zI (nHL 0))], eO nP1 3 [.int (zI (nLU 1)), .int (zI (nLL 1)), .int (zI (nHU 1)), .int (zI (nHL 1))], eO nP2 3 [.int (zI clu_57), .int (zI cll_57), .int (zI chu_57), .int (zI chl_57)], eO nP3 3 [.int (zI (nLU 3)), .int (zI (nLL 3)), .int (zI (nHU 3)), .int (zI (nHL 3))], eO nP4 3 [.int (zI (nLU 4)), .int (zI (nLL 4)), .int (zI (nHU 4)), .int (zI (nHL 4))], eO nP5 3 [.int (zI (nLU 5)), .int (zI (nLL 5)), .int (zI (nHU 5)), .int (zI (nHL 5))], eO nP6 3 [.int (zI (nLU 6)), .int (zI (nLL 6)), .int (zI (nHU 6)), .int (zI (nHL 6))]] H := hP.sub [0, 1, 2, 3, 4, 5, 10, 6, 7, 8, 9] rfl
        have hD : va_D A [eO nO 1 [.ref nQt, .ref nQn, .ref nQg, .ref nQl, .int (zI nz), .int (zI nr), .int (zI nb), .int (zI ne)], eA nQt (cy 0) 7 nT, eA nQn (cy 0) 7 nN, eR nQl (cy 4) 7 [nP0, nP1, nP2, nP3, nP4, nP5, nP6], eO nP0 3 [.int (zI (nLU 0)), .int (zI (nLL 0)), .int (zI (nHU 0)), .int (zI (nHL 0))], eO nP1 3 [.int (zI (nLU 1)), .int (zI (nLL 1)), .int (zI (nHU 1)), .int (zI (nHL 1))], eO nP2 3 [.int (zI clu_57), .int (zI cll_57), .int (zI chu_57), .int (zI chl_57)], eO nP3 3 [.int (zI (nLU 3)), .int (zI (nLL 3)), .int (zI (nHU 3)), .int (zI (nHL 3))], eO nP4 3 [.int (zI (nLU 4)), .int (zI (nLL 4)), .int (zI (nHU 4)), .int (zI (nHL 4))], eO nP5 3 [.int (zI (nLU 5)), .int (zI (nLL 5)), .int (zI (nHU 5)), .int (zI (nHL 5))], eO nP6 3 [.int (zI (nLU 6)), .int (zI (nLL 6)), .int (zI (nHU 6)), .int (zI (nHL 6))]] := hD.sub [0, 1, 2, 3, 4, 5, 10, 6, 7, 8, 9] rfl rfl
        refine zz_if_eq (tgt := 70) hx hb dX2_fits_65 (by decide) hf (fun hc hf => ?_) (fun hc hf => ?_)
        · refine lv_iinc (v := zI (x3 + 1)) (lv' := [(3, .int (zI (x3 + 1))), (0, .ref nO), (1, .int (zI 2)), (2, .ref nP2)]) hx hb dX2_fits_70 hl (k := 3) rfl (zI_add _ _) (by decide) rfl (fun ls hl => ?_)
          refine lv_goto (tgt := 21) hx hb dX2_fits_73 (by decide) ?_
          have hf := zq_some hf
          exact hf _ _ _ hP hD hS (lv_sub hl [1, 2, 3, 0] rfl)
        · refine lv_iconst (v := zI 0) hx hb dX2_fits_68 rfl ?_
          have hf := zq_some hf
          cases hf
          exact W.zret hx hb hr rfl (fun t ht hW => ⟨⟨_, (), rfl, rfl, by rw [ht]; exact hP, hD⟩, hS.F ht⟩) hS.2.2 dX2_fits_69
      · refine lv_iconst (v := zI 1) hx hb dX2_fits_76 rfl ?_
        have hf := zq_some hf
        cases hf
        exact W.zret hx hb hr rfl (fun t ht hW => ⟨⟨_, (), rfl, rfl, by rw [ht]; exact hP, hD⟩, hS.F ht⟩) hS.2.2 dX2_fits_77
    · have hl : lv_has ls 4 [(0, .ref nO), (1, .int (zI 3)), (2, .ref nP3), (3, .int (zI x3))] := hl
      refine lv_iload_n hx hb dX2_fits_21 rfl (lv_at hl 3 rfl) ?_
      refine lv_iload_n hx hb dX2_fits_22 rfl (lv_at hl 1 rfl) ?_
      refine zz_icmp_ge (tgt := 76) hx hb dX2_fits_23 (by decide) hf (fun hc hf => ?_) (fun hc hf => ?_)
      · refine lv_aload_n hx hb dX2_fits_26 rfl (lv_at hl 2 rfl) ?_
        refine lv_aload_n hx hb dX2_fits_27 rfl (lv_at hl 0 rfl) ?_
        refine va_get (D := D) (ci := 1) (v := .ref nQt) (C := RX2) (T := TX2) (N := 8) hx hb hts u_X2_fits_X2 hown hK.1 hP 0 rfl rfl 0 (by decide) (hts _ m_X2_fits_2) (fun _ h9 => h9) rfl dX2_fits_28 ?_
        refine lv_iload_n hx hb dX2_fits_31 rfl (lv_at hl 1 rfl) ?_
        obtain ⟨hg, hf⟩ := zq_gd hf
        refine zz_iald (i := 3) hx hb hK hP 1 rfl (Nat.le_of_ble_eq_true rfl) hg dX2_fits_32 ?_
        refine lv_aload_n hx hb dX2_fits_33 rfl (lv_at hl 0 rfl) ?_
        refine va_get (D := D) (ci := 1) (v := .ref nQt) (C := RX2) (T := TX2) (N := 8) hx hb hts u_X2_fits_X2 hown hK.1 hP 0 rfl rfl 0 (by decide) (hts _ m_X2_fits_2) (fun _ h9 => h9) rfl dX2_fits_34 ?_
        refine lv_iload_n hx hb dX2_fits_37 rfl (lv_at hl 3 rfl) ?_
        obtain ⟨hg, hf⟩ := zq_gd hf
        refine zz_iald (i := x3) hx hb hK hP 1 rfl (Nat.le_of_ble_eq_true rfl) hg dX2_fits_38 ?_
        refine zz_isub hx hb dX2_fits_39 ?_
        refine lv_aload_n hx hb dX2_fits_40 rfl (lv_at hl 0 rfl) ?_
        refine va_get (D := D) (ci := 1) (v := .int (zI nr)) (C := RX2) (T := TX2) (N := 8) hx hb hts u_X2_fits_X2 hown hK.1 hP 0 rfl rfl 5 (by decide) (hts _ m_X2_fits_3) (fun _ h9 => h9) rfl dX2_fits_41 ?_
        refine lv_aload_n hx hb dX2_fits_44 rfl (lv_at hl 0 rfl) ?_
        refine va_get (D := D) (ci := 1) (v := .ref nQn) (C := RX2) (T := TX2) (N := 8) hx hb hts u_X2_fits_X2 hown hK.1 hP 0 rfl rfl 1 (by decide) (hts _ m_X2_fits_4) (fun _ h9 => h9) rfl dX2_fits_45 ?_
        refine lv_iload_n hx hb dX2_fits_48 rfl (lv_at hl 1 rfl) ?_
        obtain ⟨hg, hf⟩ := zq_gd hf
        refine zz_iald (i := 3) hx hb hK hP 2 rfl (Nat.le_of_ble_eq_true rfl) hg dX2_fits_49 ?_
        refine lv_aload_n hx hb dX2_fits_50 rfl (lv_at hl 0 rfl) ?_
        refine va_get (D := D) (ci := 1) (v := .ref nQn) (C := RX2) (T := TX2) (N := 8) hx hb hts u_X2_fits_X2 hown hK.1 hP 0 rfl rfl 1 (by decide) (hts _ m_X2_fits_4) (fun _ h9 => h9) rfl dX2_fits_51 ?_
        refine lv_iload_n hx hb dX2_fits_54 rfl (lv_at hl 3 rfl) ?_
        obtain ⟨hg, hf⟩ := zq_gd hf
        refine zz_iald (i := x3) hx hb hK hP 2 rfl (Nat.le_of_ble_eq_true rfl) hg dX2_fits_55 ?_
        refine zz_isub hx hb dX2_fits_56 ?_
        obtain ⟨⟨r57, clu_57, cll_57, chu_57, chl_57⟩, hc57, hf⟩ := zq_bind hf
        refine zcallVi (wr := [eO nO 1 [.ref nQt, .ref nQn, .ref nQg, .ref nQl, .int (zI nz), .int (zI nr), .int (zI nb), .int (zI ne)], eA nQt (cy 0) 7 nT, eA nQn (cy 0) 7 nN, eR nQl (cy 4) 7 [nP0, nP1, nP2, nP3, nP4, nP5, nP6], eO nP0 3 [.int (zI (nLU 0)), .int (zI (nLL 0)), .int (zI (nHU 0)), .int (zI (nHL 0))], eO nP1 3 [.int (zI (nLU 1)), .int (zI (nLL 1)), .int (zI (nHU 1)), .int (zI (nHL 1))], eO nP2 3 [.int (zI (nLU 2)), .int (zI (nLL 2)), .int (zI (nHU 2)), .int (zI (nHL 2))], eO nP4 3 [.int (zI (nLU 4)), .int (zI (nLL 4)), .int (zI (nHU 4)), .int (zI (nHL 4))], eO nP5 3 [.int (zI (nLU 5)), .int (zI (nLL 5)), .int (zI (nHU 5)), .int (zI (nHL 5))], eO nP6 3 [.int (zI (nLU 6)), .int (zI (nLL 6)), .int (zI (nHU 6)), .int (zI (nHL 6))]]) (rest := []) ⟨hx, hb, hml, hown, hts⟩ (c_X4_cut l D cy nP3 H.size ((nT (Int.toNat 3)) - (nT (Int.toNat x3))) nr ((nN (Int.toNat 3)) - (nN (Int.toNat x3))) (nLU 3) (nLL 3) (nHU 3) (nHL 3) hc57) (cwV 3 hts gX2_fits_X4_cut rfl rfl rfl (by decide +kernel) ⟨Nat.le_of_ble_eq_true rfl, Nat.le_of_ble_eq_true rfl⟩) hK hP hD hS hA [7] [0, 1, 2, 3, 4, 5, 6, 8, 9, 10] rfl rfl rfl rfl (by decide) (va_recv hK.1 hP (ci := 3) (q0 := 7) rfl rfl) rfl hl.1 rfl (Nat.le_of_ble_eq_true rfl) dX2_fits_57 ⟨Nat.zero_le _, Nat.zero_le _⟩ (fun H locs hP hD hS => ?_)
        have hP : va_P D vwCl [eO nO 1 [.ref nQt, .ref nQn, .ref nQg, .ref nQl, .int (zI nz), .int (zI nr), .int (zI nb), .int (zI ne)], eA nQt (cy 0) 7 nT, eA nQn (cy 0) 7 nN, eR nQl (cy 4) 7 [nP0, nP1, nP2, nP3, nP4, nP5, nP6], eO nP0 3 [.int (zI (nLU 0)), .int (zI (nLL 0)), .int (zI (nHU 0)), .int (zI (nHL 0))], eO nP1 3 [.int (zI (nLU 1)), .int (zI (nLL 1)), .int (zI (nHU 1)), .int (zI (nHL 1))], eO nP2 3 [.int (zI (nLU 2)), .int (zI (nLL 2)), .int (zI (nHU 2)), .int (zI (nHL 2))], eO nP3 3 [.int (zI clu_57), .int (zI cll_57), .int (zI chu_57), .int (zI chl_57)], eO nP4 3 [.int (zI (nLU 4)), .int (zI (nLL 4)), .int (zI (nHU 4)), .int (zI (nHL 4))], eO nP5 3 [.int (zI (nLU 5)), .int (zI (nLL 5)), .int (zI (nHU 5)), .int (zI (nHL 5))], eO nP6 3 [.int (zI (nLU 6)), .int (zI (nLL 6)), .int (zI (nHU 6)), .int (zI (nHL 6))]] H := hP.sub [0, 1, 2, 3, 4, 5, 6, 10, 7, 8, 9] rfl
        have hD : va_D A [eO nO 1 [.ref nQt, .ref nQn, .ref nQg, .ref nQl, .int (zI nz), .int (zI nr), .int (zI nb), .int (zI ne)], eA nQt (cy 0) 7 nT, eA nQn (cy 0) 7 nN, eR nQl (cy 4) 7 [nP0, nP1, nP2, nP3, nP4, nP5, nP6], eO nP0 3 [.int (zI (nLU 0)), .int (zI (nLL 0)), .int (zI (nHU 0)), .int (zI (nHL 0))], eO nP1 3 [.int (zI (nLU 1)), .int (zI (nLL 1)), .int (zI (nHU 1)), .int (zI (nHL 1))], eO nP2 3 [.int (zI (nLU 2)), .int (zI (nLL 2)), .int (zI (nHU 2)), .int (zI (nHL 2))], eO nP3 3 [.int (zI clu_57), .int (zI cll_57), .int (zI chu_57), .int (zI chl_57)], eO nP4 3 [.int (zI (nLU 4)), .int (zI (nLL 4)), .int (zI (nHU 4)), .int (zI (nHL 4))], eO nP5 3 [.int (zI (nLU 5)), .int (zI (nLL 5)), .int (zI (nHU 5)), .int (zI (nHL 5))], eO nP6 3 [.int (zI (nLU 6)), .int (zI (nLL 6)), .int (zI (nHU 6)), .int (zI (nHL 6))]] := hD.sub [0, 1, 2, 3, 4, 5, 6, 10, 7, 8, 9] rfl rfl
        refine lv_pop hx hb dX2_fits_60 rfl ?_
        refine lv_aload_n hx hb dX2_fits_61 rfl (lv_at hl 2 rfl) ?_
        obtain ⟨r62, hc62, hf⟩ := zq_bind hf
        refine zcallVi (wr := [eO nO 1 [.ref nQt, .ref nQn, .ref nQg, .ref nQl, .int (zI nz), .int (zI nr), .int (zI nb), .int (zI ne)], eA nQt (cy 0) 7 nT, eA nQn (cy 0) 7 nN, eR nQl (cy 4) 7 [nP0, nP1, nP2, nP3, nP4, nP5, nP6], eO nP0 3 [.int (zI (nLU 0)), .int (zI (nLL 0)), .int (zI (nHU 0)), .int (zI (nHL 0))], eO nP1 3 [.int (zI (nLU 1)), .int (zI (nLL 1)), .int (zI (nHU 1)), .int (zI (nHL 1))], eO nP2 3 [.int (zI (nLU 2)), .int (zI (nLL 2)), .int (zI (nHU 2)), .int (zI (nHL 2))], eO nP4 3 [.int (zI (nLU 4)), .int (zI (nLL 4)), .int (zI (nHU 4)), .int (zI (nHL 4))], eO nP5 3 [.int (zI (nLU 5)), .int (zI (nLL 5)), .int (zI (nHU 5)), .int (zI (nHL 5))], eO nP6 3 [.int (zI (nLU 6)), .int (zI (nLL 6)), .int (zI (nHU 6)), .int (zI (nHL 6))]]) (rest := []) ⟨hx, hb, hml, hown, hts⟩ (c_X4_isEmpty l D cy nP3 H.size clu_57 cll_57 chu_57 chl_57 hc62) (cwV 0 hts gX2_fits_X4_isEmpty rfl rfl rfl (by decide +kernel) ⟨Nat.le_of_ble_eq_true rfl, Nat.le_of_ble_eq_true rfl⟩) hK hP hD hS hA [7] [0, 1, 2, 3, 4, 5, 6, 8, 9, 10] rfl rfl rfl rfl (by decide) (va_recv hK.1 hP (ci := 3) (q0 := 7) rfl rfl) rfl hl.1 rfl (Nat.le_of_ble_eq_true rfl) dX2_fits_62 ⟨Nat.zero_le _, Nat.zero_le _⟩ (fun H locs hP hD hS => ?_)
        have hP : va_P D vwCl [eO nO 1 [.ref nQt, .ref nQn, .ref nQg, .ref nQl, .int (zI nz), .int (zI nr), .int (zI nb), .int (zI ne)], eA nQt (cy 0) 7 nT, eA nQn (cy 0) 7 nN, eR nQl (cy 4) 7 [nP0, nP1, nP2, nP3, nP4, nP5, nP6], eO nP0 3 [.int (zI (nLU 0)), .int (zI (nLL 0)), .int (zI (nHU 0)), .int (zI (nHL 0))], eO nP1 3 [.int (zI (nLU 1)), .int (zI (nLL 1)), .int (zI (nHU 1)), .int (zI (nHL 1))], eO nP2 3 [.int (zI (nLU 2)), .int (zI (nLL 2)), .int (zI (nHU 2)), .int (zI (nHL 2))], eO nP3 3 [.int (zI clu_57), .int (zI cll_57), .int (zI chu_57), .int (zI chl_57)], eO nP4 3 [.int (zI (nLU 4)), .int (zI (nLL 4)), .int (zI (nHU 4)), .int (zI (nHL 4))], eO nP5 3 [.int (zI (nLU 5)), .int (zI (nLL 5)), .int (zI (nHU 5)), .int (zI (nHL 5))], eO nP6 3 [.int (zI (nLU 6)), .int (zI (nLL 6)), .int (zI (nHU 6)), .int (zI (nHL 6))]] H := hP.sub [0, 1, 2, 3, 4, 5, 6, 10, 7, 8, 9] rfl
        have hD : va_D A [eO nO 1 [.ref nQt, .ref nQn, .ref nQg, .ref nQl, .int (zI nz), .int (zI nr), .int (zI nb), .int (zI ne)], eA nQt (cy 0) 7 nT, eA nQn (cy 0) 7 nN, eR nQl (cy 4) 7 [nP0, nP1, nP2, nP3, nP4, nP5, nP6], eO nP0 3 [.int (zI (nLU 0)), .int (zI (nLL 0)), .int (zI (nHU 0)), .int (zI (nHL 0))], eO nP1 3 [.int (zI (nLU 1)), .int (zI (nLL 1)), .int (zI (nHU 1)), .int (zI (nHL 1))], eO nP2 3 [.int (zI (nLU 2)), .int (zI (nLL 2)), .int (zI (nHU 2)), .int (zI (nHL 2))], eO nP3 3 [.int (zI clu_57), .int (zI cll_57), .int (zI chu_57), .int (zI chl_57)], eO nP4 3 [.int (zI (nLU 4)), .int (zI (nLL 4)), .int (zI (nHU 4)), .int (zI (nHL 4))], eO nP5 3 [.int (zI (nLU 5)), .int (zI (nLL 5)), .int (zI (nHU 5)), .int (zI (nHL 5))], eO nP6 3 [.int (zI (nLU 6)), .int (zI (nLL 6)), .int (zI (nHU 6)), .int (zI (nHL 6))]] := hD.sub [0, 1, 2, 3, 4, 5, 6, 10, 7, 8, 9] rfl rfl
        refine zz_if_eq (tgt := 70) hx hb dX2_fits_65 (by decide) hf (fun hc hf => ?_) (fun hc hf => ?_)
        · refine lv_iinc (v := zI (x3 + 1)) (lv' := [(3, .int (zI (x3 + 1))), (0, .ref nO), (1, .int (zI 3)), (2, .ref nP3)]) hx hb dX2_fits_70 hl (k := 3) rfl (zI_add _ _) (by decide) rfl (fun ls hl => ?_)
          refine lv_goto (tgt := 21) hx hb dX2_fits_73 (by decide) ?_
          have hf := zq_some hf
          exact hf _ _ _ hP hD hS (lv_sub hl [1, 2, 3, 0] rfl)
        · refine lv_iconst (v := zI 0) hx hb dX2_fits_68 rfl ?_
          have hf := zq_some hf
          cases hf
          exact W.zret hx hb hr rfl (fun t ht hW => ⟨⟨_, (), rfl, rfl, by rw [ht]; exact hP, hD⟩, hS.F ht⟩) hS.2.2 dX2_fits_69
      · refine lv_iconst (v := zI 1) hx hb dX2_fits_76 rfl ?_
        have hf := zq_some hf
        cases hf
        exact W.zret hx hb hr rfl (fun t ht hW => ⟨⟨_, (), rfl, rfl, by rw [ht]; exact hP, hD⟩, hS.F ht⟩) hS.2.2 dX2_fits_77
    · have hl : lv_has ls 4 [(0, .ref nO), (1, .int (zI 4)), (2, .ref nP4), (3, .int (zI x3))] := hl
      refine lv_iload_n hx hb dX2_fits_21 rfl (lv_at hl 3 rfl) ?_
      refine lv_iload_n hx hb dX2_fits_22 rfl (lv_at hl 1 rfl) ?_
      refine zz_icmp_ge (tgt := 76) hx hb dX2_fits_23 (by decide) hf (fun hc hf => ?_) (fun hc hf => ?_)
      · refine lv_aload_n hx hb dX2_fits_26 rfl (lv_at hl 2 rfl) ?_
        refine lv_aload_n hx hb dX2_fits_27 rfl (lv_at hl 0 rfl) ?_
        refine va_get (D := D) (ci := 1) (v := .ref nQt) (C := RX2) (T := TX2) (N := 8) hx hb hts u_X2_fits_X2 hown hK.1 hP 0 rfl rfl 0 (by decide) (hts _ m_X2_fits_2) (fun _ h9 => h9) rfl dX2_fits_28 ?_
        refine lv_iload_n hx hb dX2_fits_31 rfl (lv_at hl 1 rfl) ?_
        obtain ⟨hg, hf⟩ := zq_gd hf
        refine zz_iald (i := 4) hx hb hK hP 1 rfl (Nat.le_of_ble_eq_true rfl) hg dX2_fits_32 ?_
        refine lv_aload_n hx hb dX2_fits_33 rfl (lv_at hl 0 rfl) ?_
        refine va_get (D := D) (ci := 1) (v := .ref nQt) (C := RX2) (T := TX2) (N := 8) hx hb hts u_X2_fits_X2 hown hK.1 hP 0 rfl rfl 0 (by decide) (hts _ m_X2_fits_2) (fun _ h9 => h9) rfl dX2_fits_34 ?_
        refine lv_iload_n hx hb dX2_fits_37 rfl (lv_at hl 3 rfl) ?_
        obtain ⟨hg, hf⟩ := zq_gd hf
        refine zz_iald (i := x3) hx hb hK hP 1 rfl (Nat.le_of_ble_eq_true rfl) hg dX2_fits_38 ?_
        refine zz_isub hx hb dX2_fits_39 ?_
        refine lv_aload_n hx hb dX2_fits_40 rfl (lv_at hl 0 rfl) ?_
        refine va_get (D := D) (ci := 1) (v := .int (zI nr)) (C := RX2) (T := TX2) (N := 8) hx hb hts u_X2_fits_X2 hown hK.1 hP 0 rfl rfl 5 (by decide) (hts _ m_X2_fits_3) (fun _ h9 => h9) rfl dX2_fits_41 ?_
        refine lv_aload_n hx hb dX2_fits_44 rfl (lv_at hl 0 rfl) ?_
        refine va_get (D := D) (ci := 1) (v := .ref nQn) (C := RX2) (T := TX2) (N := 8) hx hb hts u_X2_fits_X2 hown hK.1 hP 0 rfl rfl 1 (by decide) (hts _ m_X2_fits_4) (fun _ h9 => h9) rfl dX2_fits_45 ?_
        refine lv_iload_n hx hb dX2_fits_48 rfl (lv_at hl 1 rfl) ?_
        obtain ⟨hg, hf⟩ := zq_gd hf
        refine zz_iald (i := 4) hx hb hK hP 2 rfl (Nat.le_of_ble_eq_true rfl) hg dX2_fits_49 ?_
        refine lv_aload_n hx hb dX2_fits_50 rfl (lv_at hl 0 rfl) ?_
        refine va_get (D := D) (ci := 1) (v := .ref nQn) (C := RX2) (T := TX2) (N := 8) hx hb hts u_X2_fits_X2 hown hK.1 hP 0 rfl rfl 1 (by decide) (hts _ m_X2_fits_4) (fun _ h9 => h9) rfl dX2_fits_51 ?_
        refine lv_iload_n hx hb dX2_fits_54 rfl (lv_at hl 3 rfl) ?_
        obtain ⟨hg, hf⟩ := zq_gd hf
        refine zz_iald (i := x3) hx hb hK hP 2 rfl (Nat.le_of_ble_eq_true rfl) hg dX2_fits_55 ?_
        refine zz_isub hx hb dX2_fits_56 ?_
        obtain ⟨⟨r57, clu_57, cll_57, chu_57, chl_57⟩, hc57, hf⟩ := zq_bind hf
        refine zcallVi (wr := [eO nO 1 [.ref nQt, .ref nQn, .ref nQg, .ref nQl, .int (zI nz), .int (zI nr), .int (zI nb), .int (zI ne)], eA nQt (cy 0) 7 nT, eA nQn (cy 0) 7 nN, eR nQl (cy 4) 7 [nP0, nP1, nP2, nP3, nP4, nP5, nP6], eO nP0 3 [.int (zI (nLU 0)), .int (zI (nLL 0)), .int (zI (nHU 0)), .int (zI (nHL 0))], eO nP1 3 [.int (zI (nLU 1)), .int (zI (nLL 1)), .int (zI (nHU 1)), .int (zI (nHL 1))], eO nP2 3 [.int (zI (nLU 2)), .int (zI (nLL 2)), .int (zI (nHU 2)), .int (zI (nHL 2))], eO nP3 3 [.int (zI (nLU 3)), .int (zI (nLL 3)), .int (zI (nHU 3)), .int (zI (nHL 3))], eO nP5 3 [.int (zI (nLU 5)), .int (zI (nLL 5)), .int (zI (nHU 5)), .int (zI (nHL 5))], eO nP6 3 [.int (zI (nLU 6)), .int (zI (nLL 6)), .int (zI (nHU 6)), .int (zI (nHL 6))]]) (rest := []) ⟨hx, hb, hml, hown, hts⟩ (c_X4_cut l D cy nP4 H.size ((nT (Int.toNat 4)) - (nT (Int.toNat x3))) nr ((nN (Int.toNat 4)) - (nN (Int.toNat x3))) (nLU 4) (nLL 4) (nHU 4) (nHL 4) hc57) (cwV 3 hts gX2_fits_X4_cut rfl rfl rfl (by decide +kernel) ⟨Nat.le_of_ble_eq_true rfl, Nat.le_of_ble_eq_true rfl⟩) hK hP hD hS hA [8] [0, 1, 2, 3, 4, 5, 6, 7, 9, 10] rfl rfl rfl rfl (by decide) (va_recv hK.1 hP (ci := 3) (q0 := 8) rfl rfl) rfl hl.1 rfl (Nat.le_of_ble_eq_true rfl) dX2_fits_57 ⟨Nat.zero_le _, Nat.zero_le _⟩ (fun H locs hP hD hS => ?_)
        have hP : va_P D vwCl [eO nO 1 [.ref nQt, .ref nQn, .ref nQg, .ref nQl, .int (zI nz), .int (zI nr), .int (zI nb), .int (zI ne)], eA nQt (cy 0) 7 nT, eA nQn (cy 0) 7 nN, eR nQl (cy 4) 7 [nP0, nP1, nP2, nP3, nP4, nP5, nP6], eO nP0 3 [.int (zI (nLU 0)), .int (zI (nLL 0)), .int (zI (nHU 0)), .int (zI (nHL 0))], eO nP1 3 [.int (zI (nLU 1)), .int (zI (nLL 1)), .int (zI (nHU 1)), .int (zI (nHL 1))], eO nP2 3 [.int (zI (nLU 2)), .int (zI (nLL 2)), .int (zI (nHU 2)), .int (zI (nHL 2))], eO nP3 3 [.int (zI (nLU 3)), .int (zI (nLL 3)), .int (zI (nHU 3)), .int (zI (nHL 3))], eO nP4 3 [.int (zI clu_57), .int (zI cll_57), .int (zI chu_57), .int (zI chl_57)], eO nP5 3 [.int (zI (nLU 5)), .int (zI (nLL 5)), .int (zI (nHU 5)), .int (zI (nHL 5))], eO nP6 3 [.int (zI (nLU 6)), .int (zI (nLL 6)), .int (zI (nHU 6)), .int (zI (nHL 6))]] H := hP.sub [0, 1, 2, 3, 4, 5, 6, 7, 10, 8, 9] rfl
        have hD : va_D A [eO nO 1 [.ref nQt, .ref nQn, .ref nQg, .ref nQl, .int (zI nz), .int (zI nr), .int (zI nb), .int (zI ne)], eA nQt (cy 0) 7 nT, eA nQn (cy 0) 7 nN, eR nQl (cy 4) 7 [nP0, nP1, nP2, nP3, nP4, nP5, nP6], eO nP0 3 [.int (zI (nLU 0)), .int (zI (nLL 0)), .int (zI (nHU 0)), .int (zI (nHL 0))], eO nP1 3 [.int (zI (nLU 1)), .int (zI (nLL 1)), .int (zI (nHU 1)), .int (zI (nHL 1))], eO nP2 3 [.int (zI (nLU 2)), .int (zI (nLL 2)), .int (zI (nHU 2)), .int (zI (nHL 2))], eO nP3 3 [.int (zI (nLU 3)), .int (zI (nLL 3)), .int (zI (nHU 3)), .int (zI (nHL 3))], eO nP4 3 [.int (zI clu_57), .int (zI cll_57), .int (zI chu_57), .int (zI chl_57)], eO nP5 3 [.int (zI (nLU 5)), .int (zI (nLL 5)), .int (zI (nHU 5)), .int (zI (nHL 5))], eO nP6 3 [.int (zI (nLU 6)), .int (zI (nLL 6)), .int (zI (nHU 6)), .int (zI (nHL 6))]] := hD.sub [0, 1, 2, 3, 4, 5, 6, 7, 10, 8, 9] rfl rfl
        refine lv_pop hx hb dX2_fits_60 rfl ?_
        refine lv_aload_n hx hb dX2_fits_61 rfl (lv_at hl 2 rfl) ?_
        obtain ⟨r62, hc62, hf⟩ := zq_bind hf
        refine zcallVi (wr := [eO nO 1 [.ref nQt, .ref nQn, .ref nQg, .ref nQl, .int (zI nz), .int (zI nr), .int (zI nb), .int (zI ne)], eA nQt (cy 0) 7 nT, eA nQn (cy 0) 7 nN, eR nQl (cy 4) 7 [nP0, nP1, nP2, nP3, nP4, nP5, nP6], eO nP0 3 [.int (zI (nLU 0)), .int (zI (nLL 0)), .int (zI (nHU 0)), .int (zI (nHL 0))], eO nP1 3 [.int (zI (nLU 1)), .int (zI (nLL 1)), .int (zI (nHU 1)), .int (zI (nHL 1))], eO nP2 3 [.int (zI (nLU 2)), .int (zI (nLL 2)), .int (zI (nHU 2)), .int (zI (nHL 2))], eO nP3 3 [.int (zI (nLU 3)), .int (zI (nLL 3)), .int (zI (nHU 3)), .int (zI (nHL 3))], eO nP5 3 [.int (zI (nLU 5)), .int (zI (nLL 5)), .int (zI (nHU 5)), .int (zI (nHL 5))], eO nP6 3 [.int (zI (nLU 6)), .int (zI (nLL 6)), .int (zI (nHU 6)), .int (zI (nHL 6))]]) (rest := []) ⟨hx, hb, hml, hown, hts⟩ (c_X4_isEmpty l D cy nP4 H.size clu_57 cll_57 chu_57 chl_57 hc62) (cwV 0 hts gX2_fits_X4_isEmpty rfl rfl rfl (by decide +kernel) ⟨Nat.le_of_ble_eq_true rfl, Nat.le_of_ble_eq_true rfl⟩) hK hP hD hS hA [8] [0, 1, 2, 3, 4, 5, 6, 7, 9, 10] rfl rfl rfl rfl (by decide) (va_recv hK.1 hP (ci := 3) (q0 := 8) rfl rfl) rfl hl.1 rfl (Nat.le_of_ble_eq_true rfl) dX2_fits_62 ⟨Nat.zero_le _, Nat.zero_le _⟩ (fun H locs hP hD hS => ?_)
        have hP : va_P D vwCl [eO nO 1 [.ref nQt, .ref nQn, .ref nQg, .ref nQl, .int (zI nz), .int (zI nr), .int (zI nb), .int (zI ne)], eA nQt (cy 0) 7 nT, eA nQn (cy 0) 7 nN, eR nQl (cy 4) 7 [nP0, nP1, nP2, nP3, nP4, nP5, nP6], eO nP0 3 [.int (zI (nLU 0)), .int (zI (nLL 0)), .int (zI (nHU 0)), .int (zI (nHL 0))], eO nP1 3 [.int (zI (nLU 1)), .int (zI (nLL 1)), .int (zI (nHU 1)), .int (zI (nHL 1))], eO nP2 3 [.int (zI (nLU 2)), .int (zI (nLL 2)), .int (zI (nHU 2)), .int (zI (nHL 2))], eO nP3 3 [.int (zI (nLU 3)), .int (zI (nLL 3)), .int (zI (nHU 3)), .int (zI (nHL 3))], eO nP4 3 [.int (zI clu_57), .int (zI cll_57), .int (zI chu_57), .int (zI chl_57)], eO nP5 3 [.int (zI (nLU 5)), .int (zI (nLL 5)), .int (zI (nHU 5)), .int (zI (nHL 5))], eO nP6 3 [.int (zI (nLU 6)), .int (zI (nLL 6)), .int (zI (nHU 6)), .int (zI (nHL 6))]] H := hP.sub [0, 1, 2, 3, 4, 5, 6, 7, 10, 8, 9] rfl
        have hD : va_D A [eO nO 1 [.ref nQt, .ref nQn, .ref nQg, .ref nQl, .int (zI nz), .int (zI nr), .int (zI nb), .int (zI ne)], eA nQt (cy 0) 7 nT, eA nQn (cy 0) 7 nN, eR nQl (cy 4) 7 [nP0, nP1, nP2, nP3, nP4, nP5, nP6], eO nP0 3 [.int (zI (nLU 0)), .int (zI (nLL 0)), .int (zI (nHU 0)), .int (zI (nHL 0))], eO nP1 3 [.int (zI (nLU 1)), .int (zI (nLL 1)), .int (zI (nHU 1)), .int (zI (nHL 1))], eO nP2 3 [.int (zI (nLU 2)), .int (zI (nLL 2)), .int (zI (nHU 2)), .int (zI (nHL 2))], eO nP3 3 [.int (zI (nLU 3)), .int (zI (nLL 3)), .int (zI (nHU 3)), .int (zI (nHL 3))], eO nP4 3 [.int (zI clu_57), .int (zI cll_57), .int (zI chu_57), .int (zI chl_57)], eO nP5 3 [.int (zI (nLU 5)), .int (zI (nLL 5)), .int (zI (nHU 5)), .int (zI (nHL 5))], eO nP6 3 [.int (zI (nLU 6)), .int (zI (nLL 6)), .int (zI (nHU 6)), .int (zI (nHL 6))]] := hD.sub [0, 1, 2, 3, 4, 5, 6, 7, 10, 8, 9] rfl rfl
        refine zz_if_eq (tgt := 70) hx hb dX2_fits_65 (by decide) hf (fun hc hf => ?_) (fun hc hf => ?_)
        · refine lv_iinc (v := zI (x3 + 1)) (lv' := [(3, .int (zI (x3 + 1))), (0, .ref nO), (1, .int (zI 4)), (2, .ref nP4)]) hx hb dX2_fits_70 hl (k := 3) rfl (zI_add _ _) (by decide) rfl (fun ls hl => ?_)
          refine lv_goto (tgt := 21) hx hb dX2_fits_73 (by decide) ?_
          have hf := zq_some hf
          exact hf _ _ _ hP hD hS (lv_sub hl [1, 2, 3, 0] rfl)
        · refine lv_iconst (v := zI 0) hx hb dX2_fits_68 rfl ?_
          have hf := zq_some hf
          cases hf
          exact W.zret hx hb hr rfl (fun t ht hW => ⟨⟨_, (), rfl, rfl, by rw [ht]; exact hP, hD⟩, hS.F ht⟩) hS.2.2 dX2_fits_69
      · refine lv_iconst (v := zI 1) hx hb dX2_fits_76 rfl ?_
        have hf := zq_some hf
        cases hf
        exact W.zret hx hb hr rfl (fun t ht hW => ⟨⟨_, (), rfl, rfl, by rw [ht]; exact hP, hD⟩, hS.F ht⟩) hS.2.2 dX2_fits_77
    · have hl : lv_has ls 4 [(0, .ref nO), (1, .int (zI 5)), (2, .ref nP5), (3, .int (zI x3))] := hl
      refine lv_iload_n hx hb dX2_fits_21 rfl (lv_at hl 3 rfl) ?_
      refine lv_iload_n hx hb dX2_fits_22 rfl (lv_at hl 1 rfl) ?_
      refine zz_icmp_ge (tgt := 76) hx hb dX2_fits_23 (by decide) hf (fun hc hf => ?_) (fun hc hf => ?_)
      · refine lv_aload_n hx hb dX2_fits_26 rfl (lv_at hl 2 rfl) ?_
        refine lv_aload_n hx hb dX2_fits_27 rfl (lv_at hl 0 rfl) ?_
        refine va_get (D := D) (ci := 1) (v := .ref nQt) (C := RX2) (T := TX2) (N := 8) hx hb hts u_X2_fits_X2 hown hK.1 hP 0 rfl rfl 0 (by decide) (hts _ m_X2_fits_2) (fun _ h9 => h9) rfl dX2_fits_28 ?_
        refine lv_iload_n hx hb dX2_fits_31 rfl (lv_at hl 1 rfl) ?_
        obtain ⟨hg, hf⟩ := zq_gd hf
        refine zz_iald (i := 5) hx hb hK hP 1 rfl (Nat.le_of_ble_eq_true rfl) hg dX2_fits_32 ?_
        refine lv_aload_n hx hb dX2_fits_33 rfl (lv_at hl 0 rfl) ?_
        refine va_get (D := D) (ci := 1) (v := .ref nQt) (C := RX2) (T := TX2) (N := 8) hx hb hts u_X2_fits_X2 hown hK.1 hP 0 rfl rfl 0 (by decide) (hts _ m_X2_fits_2) (fun _ h9 => h9) rfl dX2_fits_34 ?_
        refine lv_iload_n hx hb dX2_fits_37 rfl (lv_at hl 3 rfl) ?_
        obtain ⟨hg, hf⟩ := zq_gd hf
        refine zz_iald (i := x3) hx hb hK hP 1 rfl (Nat.le_of_ble_eq_true rfl) hg dX2_fits_38 ?_
        refine zz_isub hx hb dX2_fits_39 ?_
        refine lv_aload_n hx hb dX2_fits_40 rfl (lv_at hl 0 rfl) ?_
        refine va_get (D := D) (ci := 1) (v := .int (zI nr)) (C := RX2) (T := TX2) (N := 8) hx hb hts u_X2_fits_X2 hown hK.1 hP 0 rfl rfl 5 (by decide) (hts _ m_X2_fits_3) (fun _ h9 => h9) rfl dX2_fits_41 ?_
        refine lv_aload_n hx hb dX2_fits_44 rfl (lv_at hl 0 rfl) ?_
        refine va_get (D := D) (ci := 1) (v := .ref nQn) (C := RX2) (T := TX2) (N := 8) hx hb hts u_X2_fits_X2 hown hK.1 hP 0 rfl rfl 1 (by decide) (hts _ m_X2_fits_4) (fun _ h9 => h9) rfl dX2_fits_45 ?_
        refine lv_iload_n hx hb dX2_fits_48 rfl (lv_at hl 1 rfl) ?_
        obtain ⟨hg, hf⟩ := zq_gd hf
        refine zz_iald (i := 5) hx hb hK hP 2 rfl (Nat.le_of_ble_eq_true rfl) hg dX2_fits_49 ?_
        refine lv_aload_n hx hb dX2_fits_50 rfl (lv_at hl 0 rfl) ?_
        refine va_get (D := D) (ci := 1) (v := .ref nQn) (C := RX2) (T := TX2) (N := 8) hx hb hts u_X2_fits_X2 hown hK.1 hP 0 rfl rfl 1 (by decide) (hts _ m_X2_fits_4) (fun _ h9 => h9) rfl dX2_fits_51 ?_
        refine lv_iload_n hx hb dX2_fits_54 rfl (lv_at hl 3 rfl) ?_
        obtain ⟨hg, hf⟩ := zq_gd hf
        refine zz_iald (i := x3) hx hb hK hP 2 rfl (Nat.le_of_ble_eq_true rfl) hg dX2_fits_55 ?_
        refine zz_isub hx hb dX2_fits_56 ?_
        obtain ⟨⟨r57, clu_57, cll_57, chu_57, chl_57⟩, hc57, hf⟩ := zq_bind hf
        refine zcallVi (wr := [eO nO 1 [.ref nQt, .ref nQn, .ref nQg, .ref nQl, .int (zI nz), .int (zI nr), .int (zI nb), .int (zI ne)], eA nQt (cy 0) 7 nT, eA nQn (cy 0) 7 nN, eR nQl (cy 4) 7 [nP0, nP1, nP2, nP3, nP4, nP5, nP6], eO nP0 3 [.int (zI (nLU 0)), .int (zI (nLL 0)), .int (zI (nHU 0)), .int (zI (nHL 0))], eO nP1 3 [.int (zI (nLU 1)), .int (zI (nLL 1)), .int (zI (nHU 1)), .int (zI (nHL 1))], eO nP2 3 [.int (zI (nLU 2)), .int (zI (nLL 2)), .int (zI (nHU 2)), .int (zI (nHL 2))], eO nP3 3 [.int (zI (nLU 3)), .int (zI (nLL 3)), .int (zI (nHU 3)), .int (zI (nHL 3))], eO nP4 3 [.int (zI (nLU 4)), .int (zI (nLL 4)), .int (zI (nHU 4)), .int (zI (nHL 4))], eO nP6 3 [.int (zI (nLU 6)), .int (zI (nLL 6)), .int (zI (nHU 6)), .int (zI (nHL 6))]]) (rest := []) ⟨hx, hb, hml, hown, hts⟩ (c_X4_cut l D cy nP5 H.size ((nT (Int.toNat 5)) - (nT (Int.toNat x3))) nr ((nN (Int.toNat 5)) - (nN (Int.toNat x3))) (nLU 5) (nLL 5) (nHU 5) (nHL 5) hc57) (cwV 3 hts gX2_fits_X4_cut rfl rfl rfl (by decide +kernel) ⟨Nat.le_of_ble_eq_true rfl, Nat.le_of_ble_eq_true rfl⟩) hK hP hD hS hA [9] [0, 1, 2, 3, 4, 5, 6, 7, 8, 10] rfl rfl rfl rfl (by decide) (va_recv hK.1 hP (ci := 3) (q0 := 9) rfl rfl) rfl hl.1 rfl (Nat.le_of_ble_eq_true rfl) dX2_fits_57 ⟨Nat.zero_le _, Nat.zero_le _⟩ (fun H locs hP hD hS => ?_)
        have hP : va_P D vwCl [eO nO 1 [.ref nQt, .ref nQn, .ref nQg, .ref nQl, .int (zI nz), .int (zI nr), .int (zI nb), .int (zI ne)], eA nQt (cy 0) 7 nT, eA nQn (cy 0) 7 nN, eR nQl (cy 4) 7 [nP0, nP1, nP2, nP3, nP4, nP5, nP6], eO nP0 3 [.int (zI (nLU 0)), .int (zI (nLL 0)), .int (zI (nHU 0)), .int (zI (nHL 0))], eO nP1 3 [.int (zI (nLU 1)), .int (zI (nLL 1)), .int (zI (nHU 1)), .int (zI (nHL 1))], eO nP2 3 [.int (zI (nLU 2)), .int (zI (nLL 2)), .int (zI (nHU 2)), .int (zI (nHL 2))], eO nP3 3 [.int (zI (nLU 3)), .int (zI (nLL 3)), .int (zI (nHU 3)), .int (zI (nHL 3))], eO nP4 3 [.int (zI (nLU 4)), .int (zI (nLL 4)), .int (zI (nHU 4)), .int (zI (nHL 4))], eO nP5 3 [.int (zI clu_57), .int (zI cll_57), .int (zI chu_57), .int (zI chl_57)], eO nP6 3 [.int (zI (nLU 6)), .int (zI (nLL 6)), .int (zI (nHU 6)), .int (zI (nHL 6))]] H := hP.sub [0, 1, 2, 3, 4, 5, 6, 7, 8, 10, 9] rfl
        have hD : va_D A [eO nO 1 [.ref nQt, .ref nQn, .ref nQg, .ref nQl, .int (zI nz), .int (zI nr), .int (zI nb), .int (zI ne)], eA nQt (cy 0) 7 nT, eA nQn (cy 0) 7 nN, eR nQl (cy 4) 7 [nP0, nP1, nP2, nP3, nP4, nP5, nP6], eO nP0 3 [.int (zI (nLU 0)), .int (zI (nLL 0)), .int (zI (nHU 0)), .int (zI (nHL 0))], eO nP1 3 [.int (zI (nLU 1)), .int (zI (nLL 1)), .int (zI (nHU 1)), .int (zI (nHL 1))], eO nP2 3 [.int (zI (nLU 2)), .int (zI (nLL 2)), .int (zI (nHU 2)), .int (zI (nHL 2))], eO nP3 3 [.int (zI (nLU 3)), .int (zI (nLL 3)), .int (zI (nHU 3)), .int (zI (nHL 3))], eO nP4 3 [.int (zI (nLU 4)), .int (zI (nLL 4)), .int (zI (nHU 4)), .int (zI (nHL 4))], eO nP5 3 [.int (zI clu_57), .int (zI cll_57), .int (zI chu_57), .int (zI chl_57)], eO nP6 3 [.int (zI (nLU 6)), .int (zI (nLL 6)), .int (zI (nHU 6)), .int (zI (nHL 6))]] := hD.sub [0, 1, 2, 3, 4, 5, 6, 7, 8, 10, 9] rfl rfl
        refine lv_pop hx hb dX2_fits_60 rfl ?_
        refine lv_aload_n hx hb dX2_fits_61 rfl (lv_at hl 2 rfl) ?_
        obtain ⟨r62, hc62, hf⟩ := zq_bind hf
        refine zcallVi (wr := [eO nO 1 [.ref nQt, .ref nQn, .ref nQg, .ref nQl, .int (zI nz), .int (zI nr), .int (zI nb), .int (zI ne)], eA nQt (cy 0) 7 nT, eA nQn (cy 0) 7 nN, eR nQl (cy 4) 7 [nP0, nP1, nP2, nP3, nP4, nP5, nP6], eO nP0 3 [.int (zI (nLU 0)), .int (zI (nLL 0)), .int (zI (nHU 0)), .int (zI (nHL 0))], eO nP1 3 [.int (zI (nLU 1)), .int (zI (nLL 1)), .int (zI (nHU 1)), .int (zI (nHL 1))], eO nP2 3 [.int (zI (nLU 2)), .int (zI (nLL 2)), .int (zI (nHU 2)), .int (zI (nHL 2))], eO nP3 3 [.int (zI (nLU 3)), .int (zI (nLL 3)), .int (zI (nHU 3)), .int (zI (nHL 3))], eO nP4 3 [.int (zI (nLU 4)), .int (zI (nLL 4)), .int (zI (nHU 4)), .int (zI (nHL 4))], eO nP6 3 [.int (zI (nLU 6)), .int (zI (nLL 6)), .int (zI (nHU 6)), .int (zI (nHL 6))]]) (rest := []) ⟨hx, hb, hml, hown, hts⟩ (c_X4_isEmpty l D cy nP5 H.size clu_57 cll_57 chu_57 chl_57 hc62) (cwV 0 hts gX2_fits_X4_isEmpty rfl rfl rfl (by decide +kernel) ⟨Nat.le_of_ble_eq_true rfl, Nat.le_of_ble_eq_true rfl⟩) hK hP hD hS hA [9] [0, 1, 2, 3, 4, 5, 6, 7, 8, 10] rfl rfl rfl rfl (by decide) (va_recv hK.1 hP (ci := 3) (q0 := 9) rfl rfl) rfl hl.1 rfl (Nat.le_of_ble_eq_true rfl) dX2_fits_62 ⟨Nat.zero_le _, Nat.zero_le _⟩ (fun H locs hP hD hS => ?_)
        have hP : va_P D vwCl [eO nO 1 [.ref nQt, .ref nQn, .ref nQg, .ref nQl, .int (zI nz), .int (zI nr), .int (zI nb), .int (zI ne)], eA nQt (cy 0) 7 nT, eA nQn (cy 0) 7 nN, eR nQl (cy 4) 7 [nP0, nP1, nP2, nP3, nP4, nP5, nP6], eO nP0 3 [.int (zI (nLU 0)), .int (zI (nLL 0)), .int (zI (nHU 0)), .int (zI (nHL 0))], eO nP1 3 [.int (zI (nLU 1)), .int (zI (nLL 1)), .int (zI (nHU 1)), .int (zI (nHL 1))], eO nP2 3 [.int (zI (nLU 2)), .int (zI (nLL 2)), .int (zI (nHU 2)), .int (zI (nHL 2))], eO nP3 3 [.int (zI (nLU 3)), .int (zI (nLL 3)), .int (zI (nHU 3)), .int (zI (nHL 3))], eO nP4 3 [.int (zI (nLU 4)), .int (zI (nLL 4)), .int (zI (nHU 4)), .int (zI (nHL 4))], eO nP5 3 [.int (zI clu_57), .int (zI cll_57), .int (zI chu_57), .int (zI chl_57)], eO nP6 3 [.int (zI (nLU 6)), .int (zI (nLL 6)), .int (zI (nHU 6)), .int (zI (nHL 6))]] H := hP.sub [0, 1, 2, 3, 4, 5, 6, 7, 8, 10, 9] rfl
        have hD : va_D A [eO nO 1 [.ref nQt, .ref nQn, .ref nQg, .ref nQl, .int (zI nz), .int (zI nr), .int (zI nb), .int (zI ne)], eA nQt (cy 0) 7 nT, eA nQn (cy 0) 7 nN, eR nQl (cy 4) 7 [nP0, nP1, nP2, nP3, nP4, nP5, nP6], eO nP0 3 [.int (zI (nLU 0)), .int (zI (nLL 0)), .int (zI (nHU 0)), .int (zI (nHL 0))], eO nP1 3 [.int (zI (nLU 1)), .int (zI (nLL 1)), .int (zI (nHU 1)), .int (zI (nHL 1))], eO nP2 3 [.int (zI (nLU 2)), .int (zI (nLL 2)), .int (zI (nHU 2)), .int (zI (nHL 2))], eO nP3 3 [.int (zI (nLU 3)), .int (zI (nLL 3)), .int (zI (nHU 3)), .int (zI (nHL 3))], eO nP4 3 [.int (zI (nLU 4)), .int (zI (nLL 4)), .int (zI (nHU 4)), .int (zI (nHL 4))], eO nP5 3 [.int (zI clu_57), .int (zI cll_57), .int (zI chu_57), .int (zI chl_57)], eO nP6 3 [.int (zI (nLU 6)), .int (zI (nLL 6)), .int (zI (nHU 6)), .int (zI (nHL 6))]] := hD.sub [0, 1, 2, 3, 4, 5, 6, 7, 8, 10, 9] rfl rfl
        refine zz_if_eq (tgt := 70) hx hb dX2_fits_65 (by decide) hf (fun hc hf => ?_) (fun hc hf => ?_)
        · refine lv_iinc (v := zI (x3 + 1)) (lv' := [(3, .int (zI (x3 + 1))), (0, .ref nO), (1, .int (zI 5)), (2, .ref nP5)]) hx hb dX2_fits_70 hl (k := 3) rfl (zI_add _ _) (by decide) rfl (fun ls hl => ?_)
          refine lv_goto (tgt := 21) hx hb dX2_fits_73 (by decide) ?_
          have hf := zq_some hf
          exact hf _ _ _ hP hD hS (lv_sub hl [1, 2, 3, 0] rfl)
        · refine lv_iconst (v := zI 0) hx hb dX2_fits_68 rfl ?_
          have hf := zq_some hf
          cases hf
          exact W.zret hx hb hr rfl (fun t ht hW => ⟨⟨_, (), rfl, rfl, by rw [ht]; exact hP, hD⟩, hS.F ht⟩) hS.2.2 dX2_fits_69
      · refine lv_iconst (v := zI 1) hx hb dX2_fits_76 rfl ?_
        have hf := zq_some hf
        cases hf
        exact W.zret hx hb hr rfl (fun t ht hW => ⟨⟨_, (), rfl, rfl, by rw [ht]; exact hP, hD⟩, hS.F ht⟩) hS.2.2 dX2_fits_77
    · have hl : lv_has ls 4 [(0, .ref nO), (1, .int (zI 6)), (2, .ref nP6), (3, .int (zI x3))] := hl
      refine lv_iload_n hx hb dX2_fits_21 rfl (lv_at hl 3 rfl) ?_
      refine lv_iload_n hx hb dX2_fits_22 rfl (lv_at hl 1 rfl) ?_
      refine zz_icmp_ge (tgt := 76) hx hb dX2_fits_23 (by decide) hf (fun hc hf => ?_) (fun hc hf => ?_)
      · refine lv_aload_n hx hb dX2_fits_26 rfl (lv_at hl 2 rfl) ?_
        refine lv_aload_n hx hb dX2_fits_27 rfl (lv_at hl 0 rfl) ?_
        refine va_get (D := D) (ci := 1) (v := .ref nQt) (C := RX2) (T := TX2) (N := 8) hx hb hts u_X2_fits_X2 hown hK.1 hP 0 rfl rfl 0 (by decide) (hts _ m_X2_fits_2) (fun _ h9 => h9) rfl dX2_fits_28 ?_
        refine lv_iload_n hx hb dX2_fits_31 rfl (lv_at hl 1 rfl) ?_
        obtain ⟨hg, hf⟩ := zq_gd hf
        refine zz_iald (i := 6) hx hb hK hP 1 rfl (Nat.le_of_ble_eq_true rfl) hg dX2_fits_32 ?_
        refine lv_aload_n hx hb dX2_fits_33 rfl (lv_at hl 0 rfl) ?_
        refine va_get (D := D) (ci := 1) (v := .ref nQt) (C := RX2) (T := TX2) (N := 8) hx hb hts u_X2_fits_X2 hown hK.1 hP 0 rfl rfl 0 (by decide) (hts _ m_X2_fits_2) (fun _ h9 => h9) rfl dX2_fits_34 ?_
        refine lv_iload_n hx hb dX2_fits_37 rfl (lv_at hl 3 rfl) ?_
        obtain ⟨hg, hf⟩ := zq_gd hf
        refine zz_iald (i := x3) hx hb hK hP 1 rfl (Nat.le_of_ble_eq_true rfl) hg dX2_fits_38 ?_
        refine zz_isub hx hb dX2_fits_39 ?_
        refine lv_aload_n hx hb dX2_fits_40 rfl (lv_at hl 0 rfl) ?_
        refine va_get (D := D) (ci := 1) (v := .int (zI nr)) (C := RX2) (T := TX2) (N := 8) hx hb hts u_X2_fits_X2 hown hK.1 hP 0 rfl rfl 5 (by decide) (hts _ m_X2_fits_3) (fun _ h9 => h9) rfl dX2_fits_41 ?_
        refine lv_aload_n hx hb dX2_fits_44 rfl (lv_at hl 0 rfl) ?_
        refine va_get (D := D) (ci := 1) (v := .ref nQn) (C := RX2) (T := TX2) (N := 8) hx hb hts u_X2_fits_X2 hown hK.1 hP 0 rfl rfl 1 (by decide) (hts _ m_X2_fits_4) (fun _ h9 => h9) rfl dX2_fits_45 ?_
        refine lv_iload_n hx hb dX2_fits_48 rfl (lv_at hl 1 rfl) ?_
        obtain ⟨hg, hf⟩ := zq_gd hf
        refine zz_iald (i := 6) hx hb hK hP 2 rfl (Nat.le_of_ble_eq_true rfl) hg dX2_fits_49 ?_
        refine lv_aload_n hx hb dX2_fits_50 rfl (lv_at hl 0 rfl) ?_
        refine va_get (D := D) (ci := 1) (v := .ref nQn) (C := RX2) (T := TX2) (N := 8) hx hb hts u_X2_fits_X2 hown hK.1 hP 0 rfl rfl 1 (by decide) (hts _ m_X2_fits_4) (fun _ h9 => h9) rfl dX2_fits_51 ?_
        refine lv_iload_n hx hb dX2_fits_54 rfl (lv_at hl 3 rfl) ?_
        obtain ⟨hg, hf⟩ := zq_gd hf
        refine zz_iald (i := x3) hx hb hK hP 2 rfl (Nat.le_of_ble_eq_true rfl) hg dX2_fits_55 ?_
        refine zz_isub hx hb dX2_fits_56 ?_
        obtain ⟨⟨r57, clu_57, cll_57, chu_57, chl_57⟩, hc57, hf⟩ := zq_bind hf
        refine zcallVi (wr := [eO nO 1 [.ref nQt, .ref nQn, .ref nQg, .ref nQl, .int (zI nz), .int (zI nr), .int (zI nb), .int (zI ne)], eA nQt (cy 0) 7 nT, eA nQn (cy 0) 7 nN, eR nQl (cy 4) 7 [nP0, nP1, nP2, nP3, nP4, nP5, nP6], eO nP0 3 [.int (zI (nLU 0)), .int (zI (nLL 0)), .int (zI (nHU 0)), .int (zI (nHL 0))], eO nP1 3 [.int (zI (nLU 1)), .int (zI (nLL 1)), .int (zI (nHU 1)), .int (zI (nHL 1))], eO nP2 3 [.int (zI (nLU 2)), .int (zI (nLL 2)), .int (zI (nHU 2)), .int (zI (nHL 2))], eO nP3 3 [.int (zI (nLU 3)), .int (zI (nLL 3)), .int (zI (nHU 3)), .int (zI (nHL 3))], eO nP4 3 [.int (zI (nLU 4)), .int (zI (nLL 4)), .int (zI (nHU 4)), .int (zI (nHL 4))], eO nP5 3 [.int (zI (nLU 5)), .int (zI (nLL 5)), .int (zI (nHU 5)), .int (zI (nHL 5))]]) (rest := []) ⟨hx, hb, hml, hown, hts⟩ (c_X4_cut l D cy nP6 H.size ((nT (Int.toNat 6)) - (nT (Int.toNat x3))) nr ((nN (Int.toNat 6)) - (nN (Int.toNat x3))) (nLU 6) (nLL 6) (nHU 6) (nHL 6) hc57) (cwV 3 hts gX2_fits_X4_cut rfl rfl rfl (by decide +kernel) ⟨Nat.le_of_ble_eq_true rfl, Nat.le_of_ble_eq_true rfl⟩) hK hP hD hS hA [10] [0, 1, 2, 3, 4, 5, 6, 7, 8, 9] rfl rfl rfl rfl (by decide) (va_recv hK.1 hP (ci := 3) (q0 := 10) rfl rfl) rfl hl.1 rfl (Nat.le_of_ble_eq_true rfl) dX2_fits_57 ⟨Nat.zero_le _, Nat.zero_le _⟩ (fun H locs hP hD hS => ?_)
        have hP : va_P D vwCl [eO nO 1 [.ref nQt, .ref nQn, .ref nQg, .ref nQl, .int (zI nz), .int (zI nr), .int (zI nb), .int (zI ne)], eA nQt (cy 0) 7 nT, eA nQn (cy 0) 7 nN, eR nQl (cy 4) 7 [nP0, nP1, nP2, nP3, nP4, nP5, nP6], eO nP0 3 [.int (zI (nLU 0)), .int (zI (nLL 0)), .int (zI (nHU 0)), .int (zI (nHL 0))], eO nP1 3 [.int (zI (nLU 1)), .int (zI (nLL 1)), .int (zI (nHU 1)), .int (zI (nHL 1))], eO nP2 3 [.int (zI (nLU 2)), .int (zI (nLL 2)), .int (zI (nHU 2)), .int (zI (nHL 2))], eO nP3 3 [.int (zI (nLU 3)), .int (zI (nLL 3)), .int (zI (nHU 3)), .int (zI (nHL 3))], eO nP4 3 [.int (zI (nLU 4)), .int (zI (nLL 4)), .int (zI (nHU 4)), .int (zI (nHL 4))], eO nP5 3 [.int (zI (nLU 5)), .int (zI (nLL 5)), .int (zI (nHU 5)), .int (zI (nHL 5))], eO nP6 3 [.int (zI clu_57), .int (zI cll_57), .int (zI chu_57), .int (zI chl_57)]] H := hP.sub [0, 1, 2, 3, 4, 5, 6, 7, 8, 9, 10] rfl
        have hD : va_D A [eO nO 1 [.ref nQt, .ref nQn, .ref nQg, .ref nQl, .int (zI nz), .int (zI nr), .int (zI nb), .int (zI ne)], eA nQt (cy 0) 7 nT, eA nQn (cy 0) 7 nN, eR nQl (cy 4) 7 [nP0, nP1, nP2, nP3, nP4, nP5, nP6], eO nP0 3 [.int (zI (nLU 0)), .int (zI (nLL 0)), .int (zI (nHU 0)), .int (zI (nHL 0))], eO nP1 3 [.int (zI (nLU 1)), .int (zI (nLL 1)), .int (zI (nHU 1)), .int (zI (nHL 1))], eO nP2 3 [.int (zI (nLU 2)), .int (zI (nLL 2)), .int (zI (nHU 2)), .int (zI (nHL 2))], eO nP3 3 [.int (zI (nLU 3)), .int (zI (nLL 3)), .int (zI (nHU 3)), .int (zI (nHL 3))], eO nP4 3 [.int (zI (nLU 4)), .int (zI (nLL 4)), .int (zI (nHU 4)), .int (zI (nHL 4))], eO nP5 3 [.int (zI (nLU 5)), .int (zI (nLL 5)), .int (zI (nHU 5)), .int (zI (nHL 5))], eO nP6 3 [.int (zI clu_57), .int (zI cll_57), .int (zI chu_57), .int (zI chl_57)]] := hD.sub [0, 1, 2, 3, 4, 5, 6, 7, 8, 9, 10] rfl rfl
        refine lv_pop hx hb dX2_fits_60 rfl ?_
        refine lv_aload_n hx hb dX2_fits_61 rfl (lv_at hl 2 rfl) ?_
        obtain ⟨r62, hc62, hf⟩ := zq_bind hf
        refine zcallVi (wr := [eO nO 1 [.ref nQt, .ref nQn, .ref nQg, .ref nQl, .int (zI nz), .int (zI nr), .int (zI nb), .int (zI ne)], eA nQt (cy 0) 7 nT, eA nQn (cy 0) 7 nN, eR nQl (cy 4) 7 [nP0, nP1, nP2, nP3, nP4, nP5, nP6], eO nP0 3 [.int (zI (nLU 0)), .int (zI (nLL 0)), .int (zI (nHU 0)), .int (zI (nHL 0))], eO nP1 3 [.int (zI (nLU 1)), .int (zI (nLL 1)), .int (zI (nHU 1)), .int (zI (nHL 1))], eO nP2 3 [.int (zI (nLU 2)), .int (zI (nLL 2)), .int (zI (nHU 2)), .int (zI (nHL 2))], eO nP3 3 [.int (zI (nLU 3)), .int (zI (nLL 3)), .int (zI (nHU 3)), .int (zI (nHL 3))], eO nP4 3 [.int (zI (nLU 4)), .int (zI (nLL 4)), .int (zI (nHU 4)), .int (zI (nHL 4))], eO nP5 3 [.int (zI (nLU 5)), .int (zI (nLL 5)), .int (zI (nHU 5)), .int (zI (nHL 5))]]) (rest := []) ⟨hx, hb, hml, hown, hts⟩ (c_X4_isEmpty l D cy nP6 H.size clu_57 cll_57 chu_57 chl_57 hc62) (cwV 0 hts gX2_fits_X4_isEmpty rfl rfl rfl (by decide +kernel) ⟨Nat.le_of_ble_eq_true rfl, Nat.le_of_ble_eq_true rfl⟩) hK hP hD hS hA [10] [0, 1, 2, 3, 4, 5, 6, 7, 8, 9] rfl rfl rfl rfl (by decide) (va_recv hK.1 hP (ci := 3) (q0 := 10) rfl rfl) rfl hl.1 rfl (Nat.le_of_ble_eq_true rfl) dX2_fits_62 ⟨Nat.zero_le _, Nat.zero_le _⟩ (fun H locs hP hD hS => ?_)
        have hP : va_P D vwCl [eO nO 1 [.ref nQt, .ref nQn, .ref nQg, .ref nQl, .int (zI nz), .int (zI nr), .int (zI nb), .int (zI ne)], eA nQt (cy 0) 7 nT, eA nQn (cy 0) 7 nN, eR nQl (cy 4) 7 [nP0, nP1, nP2, nP3, nP4, nP5, nP6], eO nP0 3 [.int (zI (nLU 0)), .int (zI (nLL 0)), .int (zI (nHU 0)), .int (zI (nHL 0))], eO nP1 3 [.int (zI (nLU 1)), .int (zI (nLL 1)), .int (zI (nHU 1)), .int (zI (nHL 1))], eO nP2 3 [.int (zI (nLU 2)), .int (zI (nLL 2)), .int (zI (nHU 2)), .int (zI (nHL 2))], eO nP3 3 [.int (zI (nLU 3)), .int (zI (nLL 3)), .int (zI (nHU 3)), .int (zI (nHL 3))], eO nP4 3 [.int (zI (nLU 4)), .int (zI (nLL 4)), .int (zI (nHU 4)), .int (zI (nHL 4))], eO nP5 3 [.int (zI (nLU 5)), .int (zI (nLL 5)), .int (zI (nHU 5)), .int (zI (nHL 5))], eO nP6 3 [.int (zI clu_57), .int (zI cll_57), .int (zI chu_57), .int (zI chl_57)]] H := hP.sub [0, 1, 2, 3, 4, 5, 6, 7, 8, 9, 10] rfl
        have hD : va_D A [eO nO 1 [.ref nQt, .ref nQn, .ref nQg, .ref nQl, .int (zI nz), .int (zI nr), .int (zI nb), .int (zI ne)], eA nQt (cy 0) 7 nT, eA nQn (cy 0) 7 nN, eR nQl (cy 4) 7 [nP0, nP1, nP2, nP3, nP4, nP5, nP6], eO nP0 3 [.int (zI (nLU 0)), .int (zI (nLL 0)), .int (zI (nHU 0)), .int (zI (nHL 0))], eO nP1 3 [.int (zI (nLU 1)), .int (zI (nLL 1)), .int (zI (nHU 1)), .int (zI (nHL 1))], eO nP2 3 [.int (zI (nLU 2)), .int (zI (nLL 2)), .int (zI (nHU 2)), .int (zI (nHL 2))], eO nP3 3 [.int (zI (nLU 3)), .int (zI (nLL 3)), .int (zI (nHU 3)), .int (zI (nHL 3))], eO nP4 3 [.int (zI (nLU 4)), .int (zI (nLL 4)), .int (zI (nHU 4)), .int (zI (nHL 4))], eO nP5 3 [.int (zI (nLU 5)), .int (zI (nLL 5)), .int (zI (nHU 5)), .int (zI (nHL 5))], eO nP6 3 [.int (zI clu_57), .int (zI cll_57), .int (zI chu_57), .int (zI chl_57)]] := hD.sub [0, 1, 2, 3, 4, 5, 6, 7, 8, 9, 10] rfl rfl
        refine zz_if_eq (tgt := 70) hx hb dX2_fits_65 (by decide) hf (fun hc hf => ?_) (fun hc hf => ?_)
        · refine lv_iinc (v := zI (x3 + 1)) (lv' := [(3, .int (zI (x3 + 1))), (0, .ref nO), (1, .int (zI 6)), (2, .ref nP6)]) hx hb dX2_fits_70 hl (k := 3) rfl (zI_add _ _) (by decide) rfl (fun ls hl => ?_)
          refine lv_goto (tgt := 21) hx hb dX2_fits_73 (by decide) ?_
          have hf := zq_some hf
          exact hf _ _ _ hP hD hS (lv_sub hl [1, 2, 3, 0] rfl)
        · refine lv_iconst (v := zI 0) hx hb dX2_fits_68 rfl ?_
          have hf := zq_some hf
          cases hf
          exact W.zret hx hb hr rfl (fun t ht hW => ⟨⟨_, (), rfl, rfl, by rw [ht]; exact hP, hD⟩, hS.F ht⟩) hS.2.2 dX2_fits_69
      · refine lv_iconst (v := zI 1) hx hb dX2_fits_76 rfl ?_
        have hf := zq_some hf
        cases hf
        exact W.zret hx hb hr rfl (fun t ht hW => ⟨⟨_, (), rfl, rfl, by rw [ht]; exact hP, hD⟩, hS.F ht⟩) hS.2.2 dX2_fits_77
    )
  unfold f_X2_fits at hf
  refine lv_aload_n hx hb dX2_fits_0 rfl (lv_at hl 0 rfl) ?_
  refine va_get (D := D) (ci := 1) (v := .ref nQl) (C := RX2) (T := TX2) (N := 8) hx hb hts u_X2_fits_X2 hown hK.1 hP 0 rfl rfl 3 (by decide) (hts _ m_X2_fits_1) (fun _ h9 => h9) rfl dX2_fits_1 ?_
  refine lv_iload_n hx hb dX2_fits_4 rfl (lv_at hl 1 rfl) ?_
  obtain ⟨hg, hf⟩ := zq_gd hf
  have hs9 : p1 = 0 ∨ p1 = 1 ∨ p1 = 2 ∨ p1 = 3 ∨ p1 = 4 ∨ p1 = 5 ∨ p1 = 6 := by have h1 := hg.1; have h2 := hg.2; omega
  rcases hs9 with rfl | rfl | rfl | rfl | rfl | rfl | rfl
  · refine zz_aald (i := 0) (a2 := nP0) hx hb hK hP 3 4 rfl rfl (Nat.le_of_ble_eq_true rfl) hg rfl dX2_fits_5 ?_
    refine lv_astore_n (lv' := [(2, .ref nP0), (0, .ref nO), (1, .int (zI 0))]) hx hb dX2_fits_6 rfl hl (by decide) rfl (fun ls hl => ?_)
    refine lv_aload_n hx hb dX2_fits_7 rfl (lv_at hl 0 rfl) ?_
    refine lv_aload_n hx hb dX2_fits_8 rfl (lv_at hl 1 rfl) ?_
    refine va_get (D := D) (ci := 1) (v := .ref nQl) (C := RX2) (T := TX2) (N := 8) hx hb hts u_X2_fits_X2 hown hK.1 hP 0 rfl rfl 3 (by decide) (hts _ m_X2_fits_1) (fun _ h9 => h9) rfl dX2_fits_9 ?_
    refine lv_iload_n hx hb dX2_fits_12 rfl (lv_at hl 2 rfl) ?_
    refine lv_iconst (v := zI 1) hx hb dX2_fits_13 rfl ?_
    refine zz_isub hx hb dX2_fits_14 ?_
    obtain ⟨hg, hf⟩ := zq_gd hf
    exact absurd hg (by decide)
  · refine zz_aald (i := 1) (a2 := nP1) hx hb hK hP 3 4 rfl rfl (Nat.le_of_ble_eq_true rfl) hg rfl dX2_fits_5 ?_
    refine lv_astore_n (lv' := [(2, .ref nP1), (0, .ref nO), (1, .int (zI 1))]) hx hb dX2_fits_6 rfl hl (by decide) rfl (fun ls hl => ?_)
    refine lv_aload_n hx hb dX2_fits_7 rfl (lv_at hl 0 rfl) ?_
    refine lv_aload_n hx hb dX2_fits_8 rfl (lv_at hl 1 rfl) ?_
    refine va_get (D := D) (ci := 1) (v := .ref nQl) (C := RX2) (T := TX2) (N := 8) hx hb hts u_X2_fits_X2 hown hK.1 hP 0 rfl rfl 3 (by decide) (hts _ m_X2_fits_1) (fun _ h9 => h9) rfl dX2_fits_9 ?_
    refine lv_iload_n hx hb dX2_fits_12 rfl (lv_at hl 2 rfl) ?_
    refine lv_iconst (v := zI 1) hx hb dX2_fits_13 rfl ?_
    refine zz_isub hx hb dX2_fits_14 ?_
    obtain ⟨hg, hf⟩ := zq_gd hf
    refine zz_aald (i := (1 - 1)) (a2 := nP0) hx hb hK hP 3 4 rfl rfl (Nat.le_of_ble_eq_true rfl) hg rfl dX2_fits_15 ?_
    obtain ⟨⟨clu_16, cll_16, chu_16, chl_16⟩, hc16, hf⟩ := zq_bind hf
    refine zcallVv (wr := [eO nO 1 [.ref nQt, .ref nQn, .ref nQg, .ref nQl, .int (zI nz), .int (zI nr), .int (zI nb), .int (zI ne)], eA nQt (cy 0) 7 nT, eA nQn (cy 0) 7 nN, eR nQl (cy 4) 7 [nP0, nP1, nP2, nP3, nP4, nP5, nP6], eO nP2 3 [.int (zI (nLU 2)), .int (zI (nLL 2)), .int (zI (nHU 2)), .int (zI (nHL 2))], eO nP3 3 [.int (zI (nLU 3)), .int (zI (nLL 3)), .int (zI (nHU 3)), .int (zI (nHL 3))], eO nP4 3 [.int (zI (nLU 4)), .int (zI (nLL 4)), .int (zI (nHU 4)), .int (zI (nHL 4))], eO nP5 3 [.int (zI (nLU 5)), .int (zI (nLL 5)), .int (zI (nHU 5)), .int (zI (nHL 5))], eO nP6 3 [.int (zI (nLU 6)), .int (zI (nLL 6)), .int (zI (nHU 6)), .int (zI (nHL 6))]]) (rest := []) ⟨hx, hb, hml, hown, hts⟩ (c_X4_take l D cy nP1 nP0 s.heap.size (nLU 1) (nLL 1) (nHU 1) (nHL 1) (nLU 0) (nLL 0) (nHU 0) (nHL 0) hc16) (cwV 1 hts gX2_fits_X4_take rfl rfl rfl (by decide +kernel) ⟨Nat.le_of_ble_eq_true rfl, Nat.le_of_ble_eq_true rfl⟩) hK hP hD hS hA [5, 4] [0, 1, 2, 3, 6, 7, 8, 9, 10] rfl rfl rfl rfl (by decide) (va_recv hK.1 hP (ci := 3) (q0 := 5) rfl rfl) rfl hl.1 rfl (Nat.le_of_ble_eq_true rfl) dX2_fits_16 ⟨Nat.zero_le _, Nat.zero_le _⟩ (fun H locs hP hD hS => ?_)
    have hP : va_P D vwCl [eO nO 1 [.ref nQt, .ref nQn, .ref nQg, .ref nQl, .int (zI nz), .int (zI nr), .int (zI nb), .int (zI ne)], eA nQt (cy 0) 7 nT, eA nQn (cy 0) 7 nN, eR nQl (cy 4) 7 [nP0, nP1, nP2, nP3, nP4, nP5, nP6], eO nP0 3 [.int (zI (nLU 0)), .int (zI (nLL 0)), .int (zI (nHU 0)), .int (zI (nHL 0))], eO nP1 3 [.int (zI clu_16), .int (zI cll_16), .int (zI chu_16), .int (zI chl_16)], eO nP2 3 [.int (zI (nLU 2)), .int (zI (nLL 2)), .int (zI (nHU 2)), .int (zI (nHL 2))], eO nP3 3 [.int (zI (nLU 3)), .int (zI (nLL 3)), .int (zI (nHU 3)), .int (zI (nHL 3))], eO nP4 3 [.int (zI (nLU 4)), .int (zI (nLL 4)), .int (zI (nHU 4)), .int (zI (nHL 4))], eO nP5 3 [.int (zI (nLU 5)), .int (zI (nLL 5)), .int (zI (nHU 5)), .int (zI (nHL 5))], eO nP6 3 [.int (zI (nLU 6)), .int (zI (nLL 6)), .int (zI (nHU 6)), .int (zI (nHL 6))]] H := hP.sub [0, 1, 2, 3, 10, 9, 4, 5, 6, 7, 8] rfl
    have hD : va_D A [eO nO 1 [.ref nQt, .ref nQn, .ref nQg, .ref nQl, .int (zI nz), .int (zI nr), .int (zI nb), .int (zI ne)], eA nQt (cy 0) 7 nT, eA nQn (cy 0) 7 nN, eR nQl (cy 4) 7 [nP0, nP1, nP2, nP3, nP4, nP5, nP6], eO nP0 3 [.int (zI (nLU 0)), .int (zI (nLL 0)), .int (zI (nHU 0)), .int (zI (nHL 0))], eO nP1 3 [.int (zI clu_16), .int (zI cll_16), .int (zI chu_16), .int (zI chl_16)], eO nP2 3 [.int (zI (nLU 2)), .int (zI (nLL 2)), .int (zI (nHU 2)), .int (zI (nHL 2))], eO nP3 3 [.int (zI (nLU 3)), .int (zI (nLL 3)), .int (zI (nHU 3)), .int (zI (nHL 3))], eO nP4 3 [.int (zI (nLU 4)), .int (zI (nLL 4)), .int (zI (nHU 4)), .int (zI (nHL 4))], eO nP5 3 [.int (zI (nLU 5)), .int (zI (nLL 5)), .int (zI (nHU 5)), .int (zI (nHL 5))], eO nP6 3 [.int (zI (nLU 6)), .int (zI (nLL 6)), .int (zI (nHU 6)), .int (zI (nHL 6))]] := hD.sub [0, 1, 2, 3, 10, 9, 4, 5, 6, 7, 8] rfl rfl
    refine lv_iconst (v := zI 0) hx hb dX2_fits_19 rfl ?_
    refine lv_istore_n (lv' := [(3, .int (zI 0)), (2, .ref nP1), (0, .ref nO), (1, .int (zI 1))]) hx hb dX2_fits_20 rfl hl (by decide) rfl (fun ls hl => ?_)
    exact key _ (zq_eq hf) _ _ _ hP hD hS (lv_sub hl [2, 3, 1, 0] rfl)
  · refine zz_aald (i := 2) (a2 := nP2) hx hb hK hP 3 4 rfl rfl (Nat.le_of_ble_eq_true rfl) hg rfl dX2_fits_5 ?_
    refine lv_astore_n (lv' := [(2, .ref nP2), (0, .ref nO), (1, .int (zI 2))]) hx hb dX2_fits_6 rfl hl (by decide) rfl (fun ls hl => ?_)
    refine lv_aload_n hx hb dX2_fits_7 rfl (lv_at hl 0 rfl) ?_
    refine lv_aload_n hx hb dX2_fits_8 rfl (lv_at hl 1 rfl) ?_
    refine va_get (D := D) (ci := 1) (v := .ref nQl) (C := RX2) (T := TX2) (N := 8) hx hb hts u_X2_fits_X2 hown hK.1 hP 0 rfl rfl 3 (by decide) (hts _ m_X2_fits_1) (fun _ h9 => h9) rfl dX2_fits_9 ?_
    refine lv_iload_n hx hb dX2_fits_12 rfl (lv_at hl 2 rfl) ?_
    refine lv_iconst (v := zI 1) hx hb dX2_fits_13 rfl ?_
    refine zz_isub hx hb dX2_fits_14 ?_
    obtain ⟨hg, hf⟩ := zq_gd hf
    refine zz_aald (i := (2 - 1)) (a2 := nP1) hx hb hK hP 3 4 rfl rfl (Nat.le_of_ble_eq_true rfl) hg rfl dX2_fits_15 ?_
    obtain ⟨⟨clu_16, cll_16, chu_16, chl_16⟩, hc16, hf⟩ := zq_bind hf
    refine zcallVv (wr := [eO nO 1 [.ref nQt, .ref nQn, .ref nQg, .ref nQl, .int (zI nz), .int (zI nr), .int (zI nb), .int (zI ne)], eA nQt (cy 0) 7 nT, eA nQn (cy 0) 7 nN, eR nQl (cy 4) 7 [nP0, nP1, nP2, nP3, nP4, nP5, nP6], eO nP0 3 [.int (zI (nLU 0)), .int (zI (nLL 0)), .int (zI (nHU 0)), .int (zI (nHL 0))], eO nP3 3 [.int (zI (nLU 3)), .int (zI (nLL 3)), .int (zI (nHU 3)), .int (zI (nHL 3))], eO nP4 3 [.int (zI (nLU 4)), .int (zI (nLL 4)), .int (zI (nHU 4)), .int (zI (nHL 4))], eO nP5 3 [.int (zI (nLU 5)), .int (zI (nLL 5)), .int (zI (nHU 5)), .int (zI (nHL 5))], eO nP6 3 [.int (zI (nLU 6)), .int (zI (nLL 6)), .int (zI (nHU 6)), .int (zI (nHL 6))]]) (rest := []) ⟨hx, hb, hml, hown, hts⟩ (c_X4_take l D cy nP2 nP1 s.heap.size (nLU 2) (nLL 2) (nHU 2) (nHL 2) (nLU 1) (nLL 1) (nHU 1) (nHL 1) hc16) (cwV 1 hts gX2_fits_X4_take rfl rfl rfl (by decide +kernel) ⟨Nat.le_of_ble_eq_true rfl, Nat.le_of_ble_eq_true rfl⟩) hK hP hD hS hA [6, 5] [0, 1, 2, 3, 4, 7, 8, 9, 10] rfl rfl rfl rfl (by decide) (va_recv hK.1 hP (ci := 3) (q0 := 6) rfl rfl) rfl hl.1 rfl (Nat.le_of_ble_eq_true rfl) dX2_fits_16 ⟨Nat.zero_le _, Nat.zero_le _⟩ (fun H locs hP hD hS => ?_)
    have hP : va_P D vwCl [eO nO 1 [.ref nQt, .ref nQn, .ref nQg, .ref nQl, .int (zI nz), .int (zI nr), .int (zI nb), .int (zI ne)], eA nQt (cy 0) 7 nT, eA nQn (cy 0) 7 nN, eR nQl (cy 4) 7 [nP0, nP1, nP2, nP3, nP4, nP5, nP6], eO nP0 3 [.int (zI (nLU 0)), .int (zI (nLL 0)), .int (zI (nHU 0)), .int (zI (nHL 0))], eO nP1 3 [.int (zI (nLU 1)), .int (zI (nLL 1)), .int (zI (nHU 1)), .int (zI (nHL 1))], eO nP2 3 [.int (zI clu_16), .int (zI cll_16), .int (zI chu_16), .int (zI chl_16)], eO nP3 3 [.int (zI (nLU 3)), .int (zI (nLL 3)), .int (zI (nHU 3)), .int (zI (nHL 3))], eO nP4 3 [.int (zI (nLU 4)), .int (zI (nLL 4)), .int (zI (nHU 4)), .int (zI (nHL 4))], eO nP5 3 [.int (zI (nLU 5)), .int (zI (nLL 5)), .int (zI (nHU 5)), .int (zI (nHL 5))], eO nP6 3 [.int (zI (nLU 6)), .int (zI (nLL 6)), .int (zI (nHU 6)), .int (zI (nHL 6))]] H := hP.sub [0, 1, 2, 3, 4, 10, 9, 5, 6, 7, 8] rfl
    have hD : va_D A [eO nO 1 [.ref nQt, .ref nQn, .ref nQg, .ref nQl, .int (zI nz), .int (zI nr), .int (zI nb), .int (zI ne)], eA nQt (cy 0) 7 nT, eA nQn (cy 0) 7 nN, eR nQl (cy 4) 7 [nP0, nP1, nP2, nP3, nP4, nP5, nP6], eO nP0 3 [.int (zI (nLU 0)), .int (zI (nLL 0)), .int (zI (nHU 0)), .int (zI (nHL 0))], eO nP1 3 [.int (zI (nLU 1)), .int (zI (nLL 1)), .int (zI (nHU 1)), .int (zI (nHL 1))], eO nP2 3 [.int (zI clu_16), .int (zI cll_16), .int (zI chu_16), .int (zI chl_16)], eO nP3 3 [.int (zI (nLU 3)), .int (zI (nLL 3)), .int (zI (nHU 3)), .int (zI (nHL 3))], eO nP4 3 [.int (zI (nLU 4)), .int (zI (nLL 4)), .int (zI (nHU 4)), .int (zI (nHL 4))], eO nP5 3 [.int (zI (nLU 5)), .int (zI (nLL 5)), .int (zI (nHU 5)), .int (zI (nHL 5))], eO nP6 3 [.int (zI (nLU 6)), .int (zI (nLL 6)), .int (zI (nHU 6)), .int (zI (nHL 6))]] := hD.sub [0, 1, 2, 3, 4, 10, 9, 5, 6, 7, 8] rfl rfl
    refine lv_iconst (v := zI 0) hx hb dX2_fits_19 rfl ?_
    refine lv_istore_n (lv' := [(3, .int (zI 0)), (2, .ref nP2), (0, .ref nO), (1, .int (zI 2))]) hx hb dX2_fits_20 rfl hl (by decide) rfl (fun ls hl => ?_)
    exact key _ (zq_eq hf) _ _ _ hP hD hS (lv_sub hl [2, 3, 1, 0] rfl)
  · refine zz_aald (i := 3) (a2 := nP3) hx hb hK hP 3 4 rfl rfl (Nat.le_of_ble_eq_true rfl) hg rfl dX2_fits_5 ?_
    refine lv_astore_n (lv' := [(2, .ref nP3), (0, .ref nO), (1, .int (zI 3))]) hx hb dX2_fits_6 rfl hl (by decide) rfl (fun ls hl => ?_)
    refine lv_aload_n hx hb dX2_fits_7 rfl (lv_at hl 0 rfl) ?_
    refine lv_aload_n hx hb dX2_fits_8 rfl (lv_at hl 1 rfl) ?_
    refine va_get (D := D) (ci := 1) (v := .ref nQl) (C := RX2) (T := TX2) (N := 8) hx hb hts u_X2_fits_X2 hown hK.1 hP 0 rfl rfl 3 (by decide) (hts _ m_X2_fits_1) (fun _ h9 => h9) rfl dX2_fits_9 ?_
    refine lv_iload_n hx hb dX2_fits_12 rfl (lv_at hl 2 rfl) ?_
    refine lv_iconst (v := zI 1) hx hb dX2_fits_13 rfl ?_
    refine zz_isub hx hb dX2_fits_14 ?_
    obtain ⟨hg, hf⟩ := zq_gd hf
    refine zz_aald (i := (3 - 1)) (a2 := nP2) hx hb hK hP 3 4 rfl rfl (Nat.le_of_ble_eq_true rfl) hg rfl dX2_fits_15 ?_
    obtain ⟨⟨clu_16, cll_16, chu_16, chl_16⟩, hc16, hf⟩ := zq_bind hf
    refine zcallVv (wr := [eO nO 1 [.ref nQt, .ref nQn, .ref nQg, .ref nQl, .int (zI nz), .int (zI nr), .int (zI nb), .int (zI ne)], eA nQt (cy 0) 7 nT, eA nQn (cy 0) 7 nN, eR nQl (cy 4) 7 [nP0, nP1, nP2, nP3, nP4, nP5, nP6], eO nP0 3 [.int (zI (nLU 0)), .int (zI (nLL 0)), .int (zI (nHU 0)), .int (zI (nHL 0))], eO nP1 3 [.int (zI (nLU 1)), .int (zI (nLL 1)), .int (zI (nHU 1)), .int (zI (nHL 1))], eO nP4 3 [.int (zI (nLU 4)), .int (zI (nLL 4)), .int (zI (nHU 4)), .int (zI (nHL 4))], eO nP5 3 [.int (zI (nLU 5)), .int (zI (nLL 5)), .int (zI (nHU 5)), .int (zI (nHL 5))], eO nP6 3 [.int (zI (nLU 6)), .int (zI (nLL 6)), .int (zI (nHU 6)), .int (zI (nHL 6))]]) (rest := []) ⟨hx, hb, hml, hown, hts⟩ (c_X4_take l D cy nP3 nP2 s.heap.size (nLU 3) (nLL 3) (nHU 3) (nHL 3) (nLU 2) (nLL 2) (nHU 2) (nHL 2) hc16) (cwV 1 hts gX2_fits_X4_take rfl rfl rfl (by decide +kernel) ⟨Nat.le_of_ble_eq_true rfl, Nat.le_of_ble_eq_true rfl⟩) hK hP hD hS hA [7, 6] [0, 1, 2, 3, 4, 5, 8, 9, 10] rfl rfl rfl rfl (by decide) (va_recv hK.1 hP (ci := 3) (q0 := 7) rfl rfl) rfl hl.1 rfl (Nat.le_of_ble_eq_true rfl) dX2_fits_16 ⟨Nat.zero_le _, Nat.zero_le _⟩ (fun H locs hP hD hS => ?_)
    have hP : va_P D vwCl [eO nO 1 [.ref nQt, .ref nQn, .ref nQg, .ref nQl, .int (zI nz), .int (zI nr), .int (zI nb), .int (zI ne)], eA nQt (cy 0) 7 nT, eA nQn (cy 0) 7 nN, eR nQl (cy 4) 7 [nP0, nP1, nP2, nP3, nP4, nP5, nP6], eO nP0 3 [.int (zI (nLU 0)), .int (zI (nLL 0)), .int (zI (nHU 0)), .int (zI (nHL 0))], eO nP1 3 [.int (zI (nLU 1)), .int (zI (nLL 1)), .int (zI (nHU 1)), .int (zI (nHL 1))], eO nP2 3 [.int (zI (nLU 2)), .int (zI (nLL 2)), .int (zI (nHU 2)), .int (zI (nHL 2))], eO nP3 3 [.int (zI clu_16), .int (zI cll_16), .int (zI chu_16), .int (zI chl_16)], eO nP4 3 [.int (zI (nLU 4)), .int (zI (nLL 4)), .int (zI (nHU 4)), .int (zI (nHL 4))], eO nP5 3 [.int (zI (nLU 5)), .int (zI (nLL 5)), .int (zI (nHU 5)), .int (zI (nHL 5))], eO nP6 3 [.int (zI (nLU 6)), .int (zI (nLL 6)), .int (zI (nHU 6)), .int (zI (nHL 6))]] H := hP.sub [0, 1, 2, 3, 4, 5, 10, 9, 6, 7, 8] rfl
    have hD : va_D A [eO nO 1 [.ref nQt, .ref nQn, .ref nQg, .ref nQl, .int (zI nz), .int (zI nr), .int (zI nb), .int (zI ne)], eA nQt (cy 0) 7 nT, eA nQn (cy 0) 7 nN, eR nQl (cy 4) 7 [nP0, nP1, nP2, nP3, nP4, nP5, nP6], eO nP0 3 [.int (zI (nLU 0)), .int (zI (nLL 0)), .int (zI (nHU 0)), .int (zI (nHL 0))], eO nP1 3 [.int (zI (nLU 1)), .int (zI (nLL 1)), .int (zI (nHU 1)), .int (zI (nHL 1))], eO nP2 3 [.int (zI (nLU 2)), .int (zI (nLL 2)), .int (zI (nHU 2)), .int (zI (nHL 2))], eO nP3 3 [.int (zI clu_16), .int (zI cll_16), .int (zI chu_16), .int (zI chl_16)], eO nP4 3 [.int (zI (nLU 4)), .int (zI (nLL 4)), .int (zI (nHU 4)), .int (zI (nHL 4))], eO nP5 3 [.int (zI (nLU 5)), .int (zI (nLL 5)), .int (zI (nHU 5)), .int (zI (nHL 5))], eO nP6 3 [.int (zI (nLU 6)), .int (zI (nLL 6)), .int (zI (nHU 6)), .int (zI (nHL 6))]] := hD.sub [0, 1, 2, 3, 4, 5, 10, 9, 6, 7, 8] rfl rfl
    refine lv_iconst (v := zI 0) hx hb dX2_fits_19 rfl ?_
    refine lv_istore_n (lv' := [(3, .int (zI 0)), (2, .ref nP3), (0, .ref nO), (1, .int (zI 3))]) hx hb dX2_fits_20 rfl hl (by decide) rfl (fun ls hl => ?_)
    exact key _ (zq_eq hf) _ _ _ hP hD hS (lv_sub hl [2, 3, 1, 0] rfl)
  · refine zz_aald (i := 4) (a2 := nP4) hx hb hK hP 3 4 rfl rfl (Nat.le_of_ble_eq_true rfl) hg rfl dX2_fits_5 ?_
    refine lv_astore_n (lv' := [(2, .ref nP4), (0, .ref nO), (1, .int (zI 4))]) hx hb dX2_fits_6 rfl hl (by decide) rfl (fun ls hl => ?_)
    refine lv_aload_n hx hb dX2_fits_7 rfl (lv_at hl 0 rfl) ?_
    refine lv_aload_n hx hb dX2_fits_8 rfl (lv_at hl 1 rfl) ?_
    refine va_get (D := D) (ci := 1) (v := .ref nQl) (C := RX2) (T := TX2) (N := 8) hx hb hts u_X2_fits_X2 hown hK.1 hP 0 rfl rfl 3 (by decide) (hts _ m_X2_fits_1) (fun _ h9 => h9) rfl dX2_fits_9 ?_
    refine lv_iload_n hx hb dX2_fits_12 rfl (lv_at hl 2 rfl) ?_
    refine lv_iconst (v := zI 1) hx hb dX2_fits_13 rfl ?_
    refine zz_isub hx hb dX2_fits_14 ?_
    obtain ⟨hg, hf⟩ := zq_gd hf
    refine zz_aald (i := (4 - 1)) (a2 := nP3) hx hb hK hP 3 4 rfl rfl (Nat.le_of_ble_eq_true rfl) hg rfl dX2_fits_15 ?_
    obtain ⟨⟨clu_16, cll_16, chu_16, chl_16⟩, hc16, hf⟩ := zq_bind hf
    refine zcallVv (wr := [eO nO 1 [.ref nQt, .ref nQn, .ref nQg, .ref nQl, .int (zI nz), .int (zI nr), .int (zI nb), .int (zI ne)], eA nQt (cy 0) 7 nT, eA nQn (cy 0) 7 nN, eR nQl (cy 4) 7 [nP0, nP1, nP2, nP3, nP4, nP5, nP6], eO nP0 3 [.int (zI (nLU 0)), .int (zI (nLL 0)), .int (zI (nHU 0)), .int (zI (nHL 0))], eO nP1 3 [.int (zI (nLU 1)), .int (zI (nLL 1)), .int (zI (nHU 1)), .int (zI (nHL 1))], eO nP2 3 [.int (zI (nLU 2)), .int (zI (nLL 2)), .int (zI (nHU 2)), .int (zI (nHL 2))], eO nP5 3 [.int (zI (nLU 5)), .int (zI (nLL 5)), .int (zI (nHU 5)), .int (zI (nHL 5))], eO nP6 3 [.int (zI (nLU 6)), .int (zI (nLL 6)), .int (zI (nHU 6)), .int (zI (nHL 6))]]) (rest := []) ⟨hx, hb, hml, hown, hts⟩ (c_X4_take l D cy nP4 nP3 s.heap.size (nLU 4) (nLL 4) (nHU 4) (nHL 4) (nLU 3) (nLL 3) (nHU 3) (nHL 3) hc16) (cwV 1 hts gX2_fits_X4_take rfl rfl rfl (by decide +kernel) ⟨Nat.le_of_ble_eq_true rfl, Nat.le_of_ble_eq_true rfl⟩) hK hP hD hS hA [8, 7] [0, 1, 2, 3, 4, 5, 6, 9, 10] rfl rfl rfl rfl (by decide) (va_recv hK.1 hP (ci := 3) (q0 := 8) rfl rfl) rfl hl.1 rfl (Nat.le_of_ble_eq_true rfl) dX2_fits_16 ⟨Nat.zero_le _, Nat.zero_le _⟩ (fun H locs hP hD hS => ?_)
    have hP : va_P D vwCl [eO nO 1 [.ref nQt, .ref nQn, .ref nQg, .ref nQl, .int (zI nz), .int (zI nr), .int (zI nb), .int (zI ne)], eA nQt (cy 0) 7 nT, eA nQn (cy 0) 7 nN, eR nQl (cy 4) 7 [nP0, nP1, nP2, nP3, nP4, nP5, nP6], eO nP0 3 [.int (zI (nLU 0)), .int (zI (nLL 0)), .int (zI (nHU 0)), .int (zI (nHL 0))], eO nP1 3 [.int (zI (nLU 1)), .int (zI (nLL 1)), .int (zI (nHU 1)), .int (zI (nHL 1))], eO nP2 3 [.int (zI (nLU 2)), .int (zI (nLL 2)), .int (zI (nHU 2)), .int (zI (nHL 2))], eO nP3 3 [.int (zI (nLU 3)), .int (zI (nLL 3)), .int (zI (nHU 3)), .int (zI (nHL 3))], eO nP4 3 [.int (zI clu_16), .int (zI cll_16), .int (zI chu_16), .int (zI chl_16)], eO nP5 3 [.int (zI (nLU 5)), .int (zI (nLL 5)), .int (zI (nHU 5)), .int (zI (nHL 5))], eO nP6 3 [.int (zI (nLU 6)), .int (zI (nLL 6)), .int (zI (nHU 6)), .int (zI (nHL 6))]] H := hP.sub [0, 1, 2, 3, 4, 5, 6, 10, 9, 7, 8] rfl
    have hD : va_D A [eO nO 1 [.ref nQt, .ref nQn, .ref nQg, .ref nQl, .int (zI nz), .int (zI nr), .int (zI nb), .int (zI ne)], eA nQt (cy 0) 7 nT, eA nQn (cy 0) 7 nN, eR nQl (cy 4) 7 [nP0, nP1, nP2, nP3, nP4, nP5, nP6], eO nP0 3 [.int (zI (nLU 0)), .int (zI (nLL 0)), .int (zI (nHU 0)), .int (zI (nHL 0))], eO nP1 3 [.int (zI (nLU 1)), .int (zI (nLL 1)), .int (zI (nHU 1)), .int (zI (nHL 1))], eO nP2 3 [.int (zI (nLU 2)), .int (zI (nLL 2)), .int (zI (nHU 2)), .int (zI (nHL 2))], eO nP3 3 [.int (zI (nLU 3)), .int (zI (nLL 3)), .int (zI (nHU 3)), .int (zI (nHL 3))], eO nP4 3 [.int (zI clu_16), .int (zI cll_16), .int (zI chu_16), .int (zI chl_16)], eO nP5 3 [.int (zI (nLU 5)), .int (zI (nLL 5)), .int (zI (nHU 5)), .int (zI (nHL 5))], eO nP6 3 [.int (zI (nLU 6)), .int (zI (nLL 6)), .int (zI (nHU 6)), .int (zI (nHL 6))]] := hD.sub [0, 1, 2, 3, 4, 5, 6, 10, 9, 7, 8] rfl rfl
    refine lv_iconst (v := zI 0) hx hb dX2_fits_19 rfl ?_
    refine lv_istore_n (lv' := [(3, .int (zI 0)), (2, .ref nP4), (0, .ref nO), (1, .int (zI 4))]) hx hb dX2_fits_20 rfl hl (by decide) rfl (fun ls hl => ?_)
    exact key _ (zq_eq hf) _ _ _ hP hD hS (lv_sub hl [2, 3, 1, 0] rfl)
  · refine zz_aald (i := 5) (a2 := nP5) hx hb hK hP 3 4 rfl rfl (Nat.le_of_ble_eq_true rfl) hg rfl dX2_fits_5 ?_
    refine lv_astore_n (lv' := [(2, .ref nP5), (0, .ref nO), (1, .int (zI 5))]) hx hb dX2_fits_6 rfl hl (by decide) rfl (fun ls hl => ?_)
    refine lv_aload_n hx hb dX2_fits_7 rfl (lv_at hl 0 rfl) ?_
    refine lv_aload_n hx hb dX2_fits_8 rfl (lv_at hl 1 rfl) ?_
    refine va_get (D := D) (ci := 1) (v := .ref nQl) (C := RX2) (T := TX2) (N := 8) hx hb hts u_X2_fits_X2 hown hK.1 hP 0 rfl rfl 3 (by decide) (hts _ m_X2_fits_1) (fun _ h9 => h9) rfl dX2_fits_9 ?_
    refine lv_iload_n hx hb dX2_fits_12 rfl (lv_at hl 2 rfl) ?_
    refine lv_iconst (v := zI 1) hx hb dX2_fits_13 rfl ?_
    refine zz_isub hx hb dX2_fits_14 ?_
    obtain ⟨hg, hf⟩ := zq_gd hf
    refine zz_aald (i := (5 - 1)) (a2 := nP4) hx hb hK hP 3 4 rfl rfl (Nat.le_of_ble_eq_true rfl) hg rfl dX2_fits_15 ?_
    obtain ⟨⟨clu_16, cll_16, chu_16, chl_16⟩, hc16, hf⟩ := zq_bind hf
    refine zcallVv (wr := [eO nO 1 [.ref nQt, .ref nQn, .ref nQg, .ref nQl, .int (zI nz), .int (zI nr), .int (zI nb), .int (zI ne)], eA nQt (cy 0) 7 nT, eA nQn (cy 0) 7 nN, eR nQl (cy 4) 7 [nP0, nP1, nP2, nP3, nP4, nP5, nP6], eO nP0 3 [.int (zI (nLU 0)), .int (zI (nLL 0)), .int (zI (nHU 0)), .int (zI (nHL 0))], eO nP1 3 [.int (zI (nLU 1)), .int (zI (nLL 1)), .int (zI (nHU 1)), .int (zI (nHL 1))], eO nP2 3 [.int (zI (nLU 2)), .int (zI (nLL 2)), .int (zI (nHU 2)), .int (zI (nHL 2))], eO nP3 3 [.int (zI (nLU 3)), .int (zI (nLL 3)), .int (zI (nHU 3)), .int (zI (nHL 3))], eO nP6 3 [.int (zI (nLU 6)), .int (zI (nLL 6)), .int (zI (nHU 6)), .int (zI (nHL 6))]]) (rest := []) ⟨hx, hb, hml, hown, hts⟩ (c_X4_take l D cy nP5 nP4 s.heap.size (nLU 5) (nLL 5) (nHU 5) (nHL 5) (nLU 4) (nLL 4) (nHU 4) (nHL 4) hc16) (cwV 1 hts gX2_fits_X4_take rfl rfl rfl (by decide +kernel) ⟨Nat.le_of_ble_eq_true rfl, Nat.le_of_ble_eq_true rfl⟩) hK hP hD hS hA [9, 8] [0, 1, 2, 3, 4, 5, 6, 7, 10] rfl rfl rfl rfl (by decide) (va_recv hK.1 hP (ci := 3) (q0 := 9) rfl rfl) rfl hl.1 rfl (Nat.le_of_ble_eq_true rfl) dX2_fits_16 ⟨Nat.zero_le _, Nat.zero_le _⟩ (fun H locs hP hD hS => ?_)
    have hP : va_P D vwCl [eO nO 1 [.ref nQt, .ref nQn, .ref nQg, .ref nQl, .int (zI nz), .int (zI nr), .int (zI nb), .int (zI ne)], eA nQt (cy 0) 7 nT, eA nQn (cy 0) 7 nN, eR nQl (cy 4) 7 [nP0, nP1, nP2, nP3, nP4, nP5, nP6], eO nP0 3 [.int (zI (nLU 0)), .int (zI (nLL 0)), .int (zI (nHU 0)), .int (zI (nHL 0))], eO nP1 3 [.int (zI (nLU 1)), .int (zI (nLL 1)), .int (zI (nHU 1)), .int (zI (nHL 1))], eO nP2 3 [.int (zI (nLU 2)), .int (zI (nLL 2)), .int (zI (nHU 2)), .int (zI (nHL 2))], eO nP3 3 [.int (zI (nLU 3)), .int (zI (nLL 3)), .int (zI (nHU 3)), .int (zI (nHL 3))], eO nP4 3 [.int (zI (nLU 4)), .int (zI (nLL 4)), .int (zI (nHU 4)), .int (zI (nHL 4))], eO nP5 3 [.int (zI clu_16), .int (zI cll_16), .int (zI chu_16), .int (zI chl_16)], eO nP6 3 [.int (zI (nLU 6)), .int (zI (nLL 6)), .int (zI (nHU 6)), .int (zI (nHL 6))]] H := hP.sub [0, 1, 2, 3, 4, 5, 6, 7, 10, 9, 8] rfl
    have hD : va_D A [eO nO 1 [.ref nQt, .ref nQn, .ref nQg, .ref nQl, .int (zI nz), .int (zI nr), .int (zI nb), .int (zI ne)], eA nQt (cy 0) 7 nT, eA nQn (cy 0) 7 nN, eR nQl (cy 4) 7 [nP0, nP1, nP2, nP3, nP4, nP5, nP6], eO nP0 3 [.int (zI (nLU 0)), .int (zI (nLL 0)), .int (zI (nHU 0)), .int (zI (nHL 0))], eO nP1 3 [.int (zI (nLU 1)), .int (zI (nLL 1)), .int (zI (nHU 1)), .int (zI (nHL 1))], eO nP2 3 [.int (zI (nLU 2)), .int (zI (nLL 2)), .int (zI (nHU 2)), .int (zI (nHL 2))], eO nP3 3 [.int (zI (nLU 3)), .int (zI (nLL 3)), .int (zI (nHU 3)), .int (zI (nHL 3))], eO nP4 3 [.int (zI (nLU 4)), .int (zI (nLL 4)), .int (zI (nHU 4)), .int (zI (nHL 4))], eO nP5 3 [.int (zI clu_16), .int (zI cll_16), .int (zI chu_16), .int (zI chl_16)], eO nP6 3 [.int (zI (nLU 6)), .int (zI (nLL 6)), .int (zI (nHU 6)), .int (zI (nHL 6))]] := hD.sub [0, 1, 2, 3, 4, 5, 6, 7, 10, 9, 8] rfl rfl
    refine lv_iconst (v := zI 0) hx hb dX2_fits_19 rfl ?_
    refine lv_istore_n (lv' := [(3, .int (zI 0)), (2, .ref nP5), (0, .ref nO), (1, .int (zI 5))]) hx hb dX2_fits_20 rfl hl (by decide) rfl (fun ls hl => ?_)
    exact key _ (zq_eq hf) _ _ _ hP hD hS (lv_sub hl [2, 3, 1, 0] rfl)
  · refine zz_aald (i := 6) (a2 := nP6) hx hb hK hP 3 4 rfl rfl (Nat.le_of_ble_eq_true rfl) hg rfl dX2_fits_5 ?_
    refine lv_astore_n (lv' := [(2, .ref nP6), (0, .ref nO), (1, .int (zI 6))]) hx hb dX2_fits_6 rfl hl (by decide) rfl (fun ls hl => ?_)
    refine lv_aload_n hx hb dX2_fits_7 rfl (lv_at hl 0 rfl) ?_
    refine lv_aload_n hx hb dX2_fits_8 rfl (lv_at hl 1 rfl) ?_
    refine va_get (D := D) (ci := 1) (v := .ref nQl) (C := RX2) (T := TX2) (N := 8) hx hb hts u_X2_fits_X2 hown hK.1 hP 0 rfl rfl 3 (by decide) (hts _ m_X2_fits_1) (fun _ h9 => h9) rfl dX2_fits_9 ?_
    refine lv_iload_n hx hb dX2_fits_12 rfl (lv_at hl 2 rfl) ?_
    refine lv_iconst (v := zI 1) hx hb dX2_fits_13 rfl ?_
    refine zz_isub hx hb dX2_fits_14 ?_
    obtain ⟨hg, hf⟩ := zq_gd hf
    refine zz_aald (i := (6 - 1)) (a2 := nP5) hx hb hK hP 3 4 rfl rfl (Nat.le_of_ble_eq_true rfl) hg rfl dX2_fits_15 ?_
    obtain ⟨⟨clu_16, cll_16, chu_16, chl_16⟩, hc16, hf⟩ := zq_bind hf
    refine zcallVv (wr := [eO nO 1 [.ref nQt, .ref nQn, .ref nQg, .ref nQl, .int (zI nz), .int (zI nr), .int (zI nb), .int (zI ne)], eA nQt (cy 0) 7 nT, eA nQn (cy 0) 7 nN, eR nQl (cy 4) 7 [nP0, nP1, nP2, nP3, nP4, nP5, nP6], eO nP0 3 [.int (zI (nLU 0)), .int (zI (nLL 0)), .int (zI (nHU 0)), .int (zI (nHL 0))], eO nP1 3 [.int (zI (nLU 1)), .int (zI (nLL 1)), .int (zI (nHU 1)), .int (zI (nHL 1))], eO nP2 3 [.int (zI (nLU 2)), .int (zI (nLL 2)), .int (zI (nHU 2)), .int (zI (nHL 2))], eO nP3 3 [.int (zI (nLU 3)), .int (zI (nLL 3)), .int (zI (nHU 3)), .int (zI (nHL 3))], eO nP4 3 [.int (zI (nLU 4)), .int (zI (nLL 4)), .int (zI (nHU 4)), .int (zI (nHL 4))]]) (rest := []) ⟨hx, hb, hml, hown, hts⟩ (c_X4_take l D cy nP6 nP5 s.heap.size (nLU 6) (nLL 6) (nHU 6) (nHL 6) (nLU 5) (nLL 5) (nHU 5) (nHL 5) hc16) (cwV 1 hts gX2_fits_X4_take rfl rfl rfl (by decide +kernel) ⟨Nat.le_of_ble_eq_true rfl, Nat.le_of_ble_eq_true rfl⟩) hK hP hD hS hA [10, 9] [0, 1, 2, 3, 4, 5, 6, 7, 8] rfl rfl rfl rfl (by decide) (va_recv hK.1 hP (ci := 3) (q0 := 10) rfl rfl) rfl hl.1 rfl (Nat.le_of_ble_eq_true rfl) dX2_fits_16 ⟨Nat.zero_le _, Nat.zero_le _⟩ (fun H locs hP hD hS => ?_)
    have hP : va_P D vwCl [eO nO 1 [.ref nQt, .ref nQn, .ref nQg, .ref nQl, .int (zI nz), .int (zI nr), .int (zI nb), .int (zI ne)], eA nQt (cy 0) 7 nT, eA nQn (cy 0) 7 nN, eR nQl (cy 4) 7 [nP0, nP1, nP2, nP3, nP4, nP5, nP6], eO nP0 3 [.int (zI (nLU 0)), .int (zI (nLL 0)), .int (zI (nHU 0)), .int (zI (nHL 0))], eO nP1 3 [.int (zI (nLU 1)), .int (zI (nLL 1)), .int (zI (nHU 1)), .int (zI (nHL 1))], eO nP2 3 [.int (zI (nLU 2)), .int (zI (nLL 2)), .int (zI (nHU 2)), .int (zI (nHL 2))], eO nP3 3 [.int (zI (nLU 3)), .int (zI (nLL 3)), .int (zI (nHU 3)), .int (zI (nHL 3))], eO nP4 3 [.int (zI (nLU 4)), .int (zI (nLL 4)), .int (zI (nHU 4)), .int (zI (nHL 4))], eO nP5 3 [.int (zI (nLU 5)), .int (zI (nLL 5)), .int (zI (nHU 5)), .int (zI (nHL 5))], eO nP6 3 [.int (zI clu_16), .int (zI cll_16), .int (zI chu_16), .int (zI chl_16)]] H := hP.sub [0, 1, 2, 3, 4, 5, 6, 7, 8, 10, 9] rfl
    have hD : va_D A [eO nO 1 [.ref nQt, .ref nQn, .ref nQg, .ref nQl, .int (zI nz), .int (zI nr), .int (zI nb), .int (zI ne)], eA nQt (cy 0) 7 nT, eA nQn (cy 0) 7 nN, eR nQl (cy 4) 7 [nP0, nP1, nP2, nP3, nP4, nP5, nP6], eO nP0 3 [.int (zI (nLU 0)), .int (zI (nLL 0)), .int (zI (nHU 0)), .int (zI (nHL 0))], eO nP1 3 [.int (zI (nLU 1)), .int (zI (nLL 1)), .int (zI (nHU 1)), .int (zI (nHL 1))], eO nP2 3 [.int (zI (nLU 2)), .int (zI (nLL 2)), .int (zI (nHU 2)), .int (zI (nHL 2))], eO nP3 3 [.int (zI (nLU 3)), .int (zI (nLL 3)), .int (zI (nHU 3)), .int (zI (nHL 3))], eO nP4 3 [.int (zI (nLU 4)), .int (zI (nLL 4)), .int (zI (nHU 4)), .int (zI (nHL 4))], eO nP5 3 [.int (zI (nLU 5)), .int (zI (nLL 5)), .int (zI (nHU 5)), .int (zI (nHL 5))], eO nP6 3 [.int (zI clu_16), .int (zI cll_16), .int (zI chu_16), .int (zI chl_16)]] := hD.sub [0, 1, 2, 3, 4, 5, 6, 7, 8, 10, 9] rfl rfl
    refine lv_iconst (v := zI 0) hx hb dX2_fits_19 rfl ?_
    refine lv_istore_n (lv' := [(3, .int (zI 0)), (2, .ref nP6), (0, .ref nO), (1, .int (zI 6))]) hx hb dX2_fits_20 rfl hl (by decide) rfl (fun ls hl => ?_)
    exact key _ (zq_eq hf) _ _ _ hP hD hS (lv_sub hl [2, 3, 1, 0] rfl)
