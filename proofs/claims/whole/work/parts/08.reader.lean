noncomputable def f_X5_put (p1 : Int) (rn : Int) (rL : Nat → Int) : Option (Int × Int × (Nat → Int)) :=
  gd (zR rn ∧ zR 100) <|
  if rn < 100 then
    gd (zin rn 100) <|
    some ((rn + 1), (rn + 1), (zup rL rn (zChr p1)))
  else
    some ((-3), rn, rL)
theorem m_X5_put_1 : (.fieldLink RX5 15 "PulseTurns$Reader" "length" "I" : Cond) ∈ wsX5_put := List.mem_of_getElem? (i := 1) rfl
theorem m_X5_put_2 : (.fieldLink RX5 9 "PulseTurns$Reader" "letters" "[C" : Cond) ∈ wsX5_put := List.mem_of_getElem? (i := 2) rfl
theorem u_X5_put_X5 : ∀ w ∈ wsX50, w ∈ wsX5_put := fun w h => List.mem_cons_of_mem _ (List.mem_append_right _ h)
set_option maxRecDepth 100000 in
set_option maxHeartbeats 4000000 in
theorem c_X5_put (l : Launch) (D : va_G) (cy : Nat → ClassId) (rO rQ : Nat) (sz : Nat) (p1 : Int) (rn : Int) (rw : Int) (rb : Int) (ri : Int) (rL : Nat → Int) {r : Int} {rn' : Int} {rL' : Nat → Int} (hf : f_X5_put p1 rn rL = some (r, rn', rL')) : zMi l yX5_put wsX5_put ({ frames := 0, cells := 0, slots := 0, locals := 0 }) D cy sz [.ref rO, .int (zI p1)] [eO rO 4 [.ref rQ, .int (zI rn), .int (zI rw), .int (zI rb), .int (zI ri)], eA rQ (cy 1) 100 rL] [eO rO 4 [.ref rQ, .int (zI rn'), .int (zI rw), .int (zI rb), .int (zI ri)], eA rQ (cy 1) 100 rL'] (zI r) := by
  refine Met.ofW (cc := cX5_put) (maxL := 2) (ret := (some .int)) (by decide) rfl ?_
  intro p e s m args below meth c s₁ B hml hv
  obtain ⟨rfl, hsz, hP, hK, hD0⟩ := hv
  have hx := B.exec
  have hb := B.bytes
  have hr := B.returns
  have hts := atoms_spec (ws := wsX5_put) B.pre
  have hown : s.vm.findClass RX5 = some m.cls := findClass_of_methodNamed B.named
  have hlocks := B.notSynchronized
  subst hsz
  have hD := hD0.self (sz := s.heap.size)
  generalize hAe : va_A [eO rO 4 [.ref rQ, .int (zI rn), .int (zI rw), .int (zI rb), .int (zI ri)], eA rQ (cy 1) 100 rL] s.heap.size = A at hD ⊢
  have hA : ∀ q : Nat, s.heap.size ≤ q → A q := fun q h => by rw [← hAe]; exact Or.inr h
  have hS : va_S A s.heap s.heap [] := va_S.rf
  have hl := lv_entry ([.ref rO, .int (zI p1)]) (n := 2) (Nat.le_of_ble_eq_true rfl)
  rw [lg_entry_eq]
  generalize (lg_sl ([.ref rO, .int (zI p1)]) ++ List.replicate (2 - (lg_sl ([.ref rO, .int (zI p1)])).length) Slot.unset).toArray = ls at hl ⊢
  have hl : lv_has ls 2 [(0, .ref rO), (1, .int (zI p1))] := hl
  have hf := zq_of hf
  unfold f_X5_put at hf
  refine lv_aload_n hx hb dX5_put_0 rfl (lv_at hl 0 rfl) ?_
  refine va_get (D := D) (ci := 4) (v := .int (zI rn)) (C := RX5) (T := TX5) (N := 5) hx hb hts u_X5_put_X5 hown hK.1 hP 0 rfl rfl 1 (by decide) (hts _ m_X5_put_1) (fun _ h9 => h9) rfl dX5_put_1 ?_
  refine lv_bipush (v := zI 100) hx hb dX5_put_4 (by decide) ?_
  refine zz_icmp_lt (tgt := 12) hx hb dX5_put_6 (by decide) hf (fun hc hf => ?_) (fun hc hf => ?_)
  · refine lv_aload_n hx hb dX5_put_12 rfl (lv_at hl 0 rfl) ?_
    refine va_get (D := D) (ci := 4) (v := .ref rQ) (C := RX5) (T := TX5) (N := 5) hx hb hts u_X5_put_X5 hown hK.1 hP 0 rfl rfl 0 (by decide) (hts _ m_X5_put_2) (fun _ h9 => h9) rfl dX5_put_13 ?_
    refine lv_aload_n hx hb dX5_put_16 rfl (lv_at hl 0 rfl) ?_
    refine va_get (D := D) (ci := 4) (v := .int (zI rn)) (C := RX5) (T := TX5) (N := 5) hx hb hts u_X5_put_X5 hown hK.1 hP 0 rfl rfl 1 (by decide) (hts _ m_X5_put_1) (fun _ h9 => h9) rfl dX5_put_17 ?_
    refine lv_iload_n hx hb dX5_put_20 rfl (lv_at hl 1 rfl) ?_
    refine zz_i2c hx hb dX5_put_21 ?_
    obtain ⟨hg, hf⟩ := zq_gd hf
    refine zz_cast (i := rn) hx hb hK hP hD hS 1 rfl (Nat.le_of_ble_eq_true rfl) hg (zChr_nar _) dX5_put_22 (fun H locs hP hD hS => ?_)
    have hP : va_P D vwCl [eO rO 4 [.ref rQ, .int (zI rn), .int (zI rw), .int (zI rb), .int (zI ri)], eA rQ (cy 1) 100 (zup rL rn (zChr p1))] H := hP
    have hD : va_D A [eO rO 4 [.ref rQ, .int (zI rn), .int (zI rw), .int (zI rb), .int (zI ri)], eA rQ (cy 1) 100 (zup rL rn (zChr p1))] := hD
    refine lv_aload_n hx hb dX5_put_23 rfl (lv_at hl 0 rfl) ?_
    refine lv_dup hx hb dX5_put_24 rfl ?_
    refine va_get (D := D) (ci := 4) (v := .int (zI rn)) (C := RX5) (T := TX5) (N := 5) hx hb hts u_X5_put_X5 hown hK.1 hP 0 rfl rfl 1 (by decide) (hts _ m_X5_put_1) (fun _ h9 => h9) rfl dX5_put_25 ?_
    refine lv_iconst (v := zI 1) hx hb dX5_put_28 rfl ?_
    refine zz_iadd hx hb dX5_put_29 ?_
    refine va_put (D := D) (ci := 4) (v := .int (zI (rn + 1))) (ty := .int) (C := RX5) (T := TX5) (N := 5) hx hb hts u_X5_put_X5 tyX5 tyX5_ok nmX5 hown hK.1 hP hD hS 0 rfl rfl 1 (by decide) (hts _ m_X5_put_1) (fun _ h9 => h9) rfl (tyX5_ok 1 (by decide)) rfl rfl (Nat.le_of_ble_eq_true rfl) dX5_put_30 (fun H locs hP hD hS => ?_)
    have hP : va_P D vwCl [eO rO 4 [.ref rQ, .int (zI (rn + 1)), .int (zI rw), .int (zI rb), .int (zI ri)], eA rQ (cy 1) 100 (zup rL rn (zChr p1))] H := hP
    have hD : va_D A [eO rO 4 [.ref rQ, .int (zI (rn + 1)), .int (zI rw), .int (zI rb), .int (zI ri)], eA rQ (cy 1) 100 (zup rL rn (zChr p1))] := hD
    refine lv_aload_n hx hb dX5_put_33 rfl (lv_at hl 0 rfl) ?_
    refine va_get (D := D) (ci := 4) (v := .int (zI (rn + 1))) (C := RX5) (T := TX5) (N := 5) hx hb hts u_X5_put_X5 hown hK.1 hP 0 rfl rfl 1 (by decide) (hts _ m_X5_put_1) (fun _ h9 => h9) rfl dX5_put_34 ?_
    have hf := zq_some hf
    cases hf
    exact W.iret hx hb hr (fun t ht hW => ⟨⟨_, (), rfl, rfl, by rw [ht]; exact hP, hD⟩, hS.F ht⟩) hS.2.2 dX5_put_37
  · refine lv_bipush (v := zI (-3)) hx hb dX5_put_9 (by decide) ?_
    have hf := zq_some hf
    cases hf
    exact W.iret hx hb hr (fun t ht hW => ⟨⟨_, (), rfl, rfl, by rw [ht]; exact hP, hD⟩, hS.F ht⟩) hS.2.2 dX5_put_11

noncomputable def f_X5_wipe (rn : Int) : Option (Int × Int) :=
  some (rn, 0)
theorem m_X5_wipe_1 : (.fieldLink RX5 15 "PulseTurns$Reader" "length" "I" : Cond) ∈ wsX5_wipe := List.mem_of_getElem? (i := 1) rfl
theorem u_X5_wipe_X5 : ∀ w ∈ wsX50, w ∈ wsX5_wipe := fun w h => List.mem_cons_of_mem _ (List.mem_append_right _ h)
set_option maxRecDepth 100000 in
set_option maxHeartbeats 4000000 in
theorem c_X5_wipe (l : Launch) (D : va_G) (cy : Nat → ClassId) (rO rQ : Nat) (sz : Nat) (rn : Int) (rw : Int) (rb : Int) (ri : Int) {r : Int} {rn' : Int} (hf : f_X5_wipe rn = some (r, rn')) : zMi l yX5_wipe wsX5_wipe ({ frames := 0, cells := 0, slots := 0, locals := 0 }) D cy sz [.ref rO] [eO rO 4 [.ref rQ, .int (zI rn), .int (zI rw), .int (zI rb), .int (zI ri)]] [eO rO 4 [.ref rQ, .int (zI rn'), .int (zI rw), .int (zI rb), .int (zI ri)]] (zI r) := by
  refine Met.ofW (cc := cX5_wipe) (maxL := 2) (ret := (some .int)) (by decide) rfl ?_
  intro p e s m args below meth c s₁ B hml hv
  obtain ⟨rfl, hsz, hP, hK, hD0⟩ := hv
  have hx := B.exec
  have hb := B.bytes
  have hr := B.returns
  have hts := atoms_spec (ws := wsX5_wipe) B.pre
  have hown : s.vm.findClass RX5 = some m.cls := findClass_of_methodNamed B.named
  have hlocks := B.notSynchronized
  subst hsz
  have hD := hD0.self (sz := s.heap.size)
  generalize hAe : va_A [eO rO 4 [.ref rQ, .int (zI rn), .int (zI rw), .int (zI rb), .int (zI ri)]] s.heap.size = A at hD ⊢
  have hA : ∀ q : Nat, s.heap.size ≤ q → A q := fun q h => by rw [← hAe]; exact Or.inr h
  have hS : va_S A s.heap s.heap [] := va_S.rf
  have hl := lv_entry ([.ref rO]) (n := 2) (Nat.le_of_ble_eq_true rfl)
  rw [lg_entry_eq]
  generalize (lg_sl ([.ref rO]) ++ List.replicate (2 - (lg_sl ([.ref rO])).length) Slot.unset).toArray = ls at hl ⊢
  have hl : lv_has ls 2 [(0, .ref rO)] := hl
  have hf := zq_of hf
  unfold f_X5_wipe at hf
  refine lv_aload_n hx hb dX5_wipe_0 rfl (lv_at hl 0 rfl) ?_
  refine va_get (D := D) (ci := 4) (v := .int (zI rn)) (C := RX5) (T := TX5) (N := 5) hx hb hts u_X5_wipe_X5 hown hK.1 hP 0 rfl rfl 1 (by decide) (hts _ m_X5_wipe_1) (fun _ h9 => h9) rfl dX5_wipe_1 ?_
  refine lv_istore_n (lv' := [(1, .int (zI rn)), (0, .ref rO)]) hx hb dX5_wipe_4 rfl hl (by decide) rfl (fun ls hl => ?_)
  refine lv_aload_n hx hb dX5_wipe_5 rfl (lv_at hl 1 rfl) ?_
  refine lv_iconst (v := zI 0) hx hb dX5_wipe_6 rfl ?_
  refine va_put (D := D) (ci := 4) (v := .int (zI 0)) (ty := .int) (C := RX5) (T := TX5) (N := 5) hx hb hts u_X5_wipe_X5 tyX5 tyX5_ok nmX5 hown hK.1 hP hD hS 0 rfl rfl 1 (by decide) (hts _ m_X5_wipe_1) (fun _ h9 => h9) rfl (tyX5_ok 1 (by decide)) rfl rfl (Nat.le_of_ble_eq_true rfl) dX5_wipe_7 (fun H locs hP hD hS => ?_)
  have hP : va_P D vwCl [eO rO 4 [.ref rQ, .int (zI 0), .int (zI rw), .int (zI rb), .int (zI ri)]] H := hP
  have hD : va_D A [eO rO 4 [.ref rQ, .int (zI 0), .int (zI rw), .int (zI rb), .int (zI ri)]] := hD
  refine lv_iload_n hx hb dX5_wipe_10 rfl (lv_at hl 0 rfl) ?_
  have hf := zq_some hf
  cases hf
  exact W.iret hx hb hr (fun t ht hW => ⟨⟨_, (), rfl, rfl, by rw [ht]; exact hP, hD⟩, hS.F ht⟩) hS.2.2 dX5_wipe_11

noncomputable def f_X5_isDigit (p1 : Int) (rL : Nat → Int) : Option (Int) :=
  gd (zin p1 100) <|
  gd (zR (rL (Int.toNat p1)) ∧ zR 48) <|
  if (rL (Int.toNat p1)) < 48 then
    some 0
  else
    gd (zin p1 100) <|
    gd (zR (rL (Int.toNat p1)) ∧ zR 57) <|
    if (rL (Int.toNat p1)) ≤ 57 then
      some 1
    else
      some 0
theorem m_X5_isDigit_1 : (.fieldLink RX5 9 "PulseTurns$Reader" "letters" "[C" : Cond) ∈ wsX5_isDigit := List.mem_of_getElem? (i := 1) rfl
theorem u_X5_isDigit_X5 : ∀ w ∈ wsX50, w ∈ wsX5_isDigit := fun w h => List.mem_cons_of_mem _ (List.mem_append_right _ h)
set_option maxRecDepth 100000 in
set_option maxHeartbeats 4000000 in
theorem c_X5_isDigit (l : Launch) (D : va_G) (cy : Nat → ClassId) (rO rQ : Nat) (sz : Nat) (p1 : Int) (rn : Int) (rw : Int) (rb : Int) (ri : Int) (rL : Nat → Int) {r : Int} (hf : f_X5_isDigit p1 rL = some r) : zMi l yX5_isDigit wsX5_isDigit ({ frames := 0, cells := 0, slots := 0, locals := 0 }) D cy sz [.ref rO, .int (zI p1)] [eO rO 4 [.ref rQ, .int (zI rn), .int (zI rw), .int (zI rb), .int (zI ri)], eA rQ (cy 1) 100 rL] [eO rO 4 [.ref rQ, .int (zI rn), .int (zI rw), .int (zI rb), .int (zI ri)], eA rQ (cy 1) 100 rL] (zI r) := by
  refine Met.ofW (cc := cX5_isDigit) (maxL := 2) (ret := (some .boolean)) (by decide) rfl ?_
  intro p e s m args below meth c s₁ B hml hv
  obtain ⟨rfl, hsz, hP, hK, hD0⟩ := hv
  have hx := B.exec
  have hb := B.bytes
  have hr := B.returns
  have hts := atoms_spec (ws := wsX5_isDigit) B.pre
  have hown : s.vm.findClass RX5 = some m.cls := findClass_of_methodNamed B.named
  have hlocks := B.notSynchronized
  subst hsz
  have hD := hD0.self (sz := s.heap.size)
  generalize hAe : va_A [eO rO 4 [.ref rQ, .int (zI rn), .int (zI rw), .int (zI rb), .int (zI ri)], eA rQ (cy 1) 100 rL] s.heap.size = A at hD ⊢
  have hA : ∀ q : Nat, s.heap.size ≤ q → A q := fun q h => by rw [← hAe]; exact Or.inr h
  have hS : va_S A s.heap s.heap [] := va_S.rf
  have hl := lv_entry ([.ref rO, .int (zI p1)]) (n := 2) (Nat.le_of_ble_eq_true rfl)
  rw [lg_entry_eq]
  generalize (lg_sl ([.ref rO, .int (zI p1)]) ++ List.replicate (2 - (lg_sl ([.ref rO, .int (zI p1)])).length) Slot.unset).toArray = ls at hl ⊢
  have hl : lv_has ls 2 [(0, .ref rO), (1, .int (zI p1))] := hl
  have hf := zq_of hf
  unfold f_X5_isDigit at hf
  refine lv_aload_n hx hb dX5_isDigit_0 rfl (lv_at hl 0 rfl) ?_
  refine va_get (D := D) (ci := 4) (v := .ref rQ) (C := RX5) (T := TX5) (N := 5) hx hb hts u_X5_isDigit_X5 hown hK.1 hP 0 rfl rfl 0 (by decide) (hts _ m_X5_isDigit_1) (fun _ h9 => h9) rfl dX5_isDigit_1 ?_
  refine lv_iload_n hx hb dX5_isDigit_4 rfl (lv_at hl 1 rfl) ?_
  obtain ⟨hg, hf⟩ := zq_gd hf
  refine zz_cald (i := p1) hx hb hK hP 1 rfl (Nat.le_of_ble_eq_true rfl) hg dX5_isDigit_5 ?_
  refine lv_bipush (v := zI 48) hx hb dX5_isDigit_6 (by decide) ?_
  refine zz_icmp_lt (tgt := 26) hx hb dX5_isDigit_8 (by decide) hf (fun hc hf => ?_) (fun hc hf => ?_)
  · refine lv_iconst (v := zI 0) hx hb dX5_isDigit_26 rfl ?_
    have hf := zq_some hf
    cases hf
    exact W.zret hx hb hr rfl (fun t ht hW => ⟨⟨_, (), rfl, rfl, by rw [ht]; exact hP, hD⟩, hS.F ht⟩) hS.2.2 dX5_isDigit_27
  · refine lv_aload_n hx hb dX5_isDigit_11 rfl (lv_at hl 0 rfl) ?_
    refine va_get (D := D) (ci := 4) (v := .ref rQ) (C := RX5) (T := TX5) (N := 5) hx hb hts u_X5_isDigit_X5 hown hK.1 hP 0 rfl rfl 0 (by decide) (hts _ m_X5_isDigit_1) (fun _ h9 => h9) rfl dX5_isDigit_12 ?_
    refine lv_iload_n hx hb dX5_isDigit_15 rfl (lv_at hl 1 rfl) ?_
    obtain ⟨hg, hf⟩ := zq_gd hf
    refine zz_cald (i := p1) hx hb hK hP 1 rfl (Nat.le_of_ble_eq_true rfl) hg dX5_isDigit_16 ?_
    refine lv_bipush (v := zI 57) hx hb dX5_isDigit_17 (by decide) ?_
    refine zz_icmp_gt (tgt := 26) hx hb dX5_isDigit_19 (by decide) hf (fun hc hf => ?_) (fun hc hf => ?_)
    · refine lv_iconst (v := zI 1) hx hb dX5_isDigit_22 rfl ?_
      refine lv_goto (tgt := 27) hx hb dX5_isDigit_23 (by decide) ?_
      have hf := zq_some hf
      cases hf
      exact W.zret hx hb hr rfl (fun t ht hW => ⟨⟨_, (), rfl, rfl, by rw [ht]; exact hP, hD⟩, hS.F ht⟩) hS.2.2 dX5_isDigit_27
    · refine lv_iconst (v := zI 0) hx hb dX5_isDigit_26 rfl ?_
      have hf := zq_some hf
      cases hf
      exact W.zret hx hb hr rfl (fun t ht hW => ⟨⟨_, (), rfl, rfl, by rw [ht]; exact hP, hD⟩, hS.F ht⟩) hS.2.2 dX5_isDigit_27

noncomputable def st_X5_lastOfToken (p1 : Int) (rn : Int) (rL : Nat → Int) : (Int × Int) → Option ((Int × Int) ⊕ (Int)) := fun (x2, x3) =>
  gd (zR x3 ∧ zR rn) <|
  if x3 < rn then
    (f_X5_isDigit p1 rL).bind fun r16 =>
    gd (zR r16) <|
    if r16 = 0 then
      some (.inr x2)
    else
      (f_X5_isDigit x3 rL).bind fun r24 =>
      gd (zR r24) <|
      if r24 = 0 then
        some (.inr x2)
      else
        some (.inl (x3, (x3 + 1)))
  else
    some (.inr x2)
noncomputable def f_X5_lastOfToken (p1 : Int) (rn : Int) (rL : Nat → Int) : Option (Int) :=
  zlt (p1 + 1) fun v5 =>
  zev (st_X5_lastOfToken p1 rn rL) (p1, v5)
theorem m_X5_lastOfToken_1 : (.fieldLink RX5 15 "PulseTurns$Reader" "length" "I" : Cond) ∈ wsX5_lastOfToken := List.mem_of_getElem? (i := 1) rfl
theorem u_X5_lastOfToken_X5 : ∀ w ∈ wsX50, w ∈ wsX5_lastOfToken := fun w h => List.mem_cons_of_mem _ (List.mem_append_right _ h)
set_option maxRecDepth 100000 in
set_option maxHeartbeats 4000000 in
theorem c_X5_lastOfToken (l : Launch) (D : va_G) (cy : Nat → ClassId) (rO rQ : Nat) (sz : Nat) (p1 : Int) (rn : Int) (rw : Int) (rb : Int) (ri : Int) (rL : Nat → Int) {r : Int} (hf : f_X5_lastOfToken p1 rn rL = some r) : zMi l yX5_lastOfToken wsX5_lastOfToken ({ frames := 1, cells := 0, slots := 0, locals := 21 }) D cy sz [.ref rO, .int (zI p1)] [eO rO 4 [.ref rQ, .int (zI rn), .int (zI rw), .int (zI rb), .int (zI ri)], eA rQ (cy 1) 100 rL] [eO rO 4 [.ref rQ, .int (zI rn), .int (zI rw), .int (zI rb), .int (zI ri)], eA rQ (cy 1) 100 rL] (zI r) := by
  refine Met.ofW (cc := cX5_lastOfToken) (maxL := 4) (ret := (some .int)) (by decide) rfl ?_
  intro p e s m args below meth c s₁ B hml hv
  obtain ⟨rfl, hsz, hP, hK, hD0⟩ := hv
  have hx := B.exec
  have hb := B.bytes
  have hr := B.returns
  have hts := atoms_spec (ws := wsX5_lastOfToken) B.pre
  have hown : s.vm.findClass RX5 = some m.cls := findClass_of_methodNamed B.named
  have hlocks := B.notSynchronized
  subst hsz
  have hD := hD0.self (sz := s.heap.size)
  generalize hAe : va_A [eO rO 4 [.ref rQ, .int (zI rn), .int (zI rw), .int (zI rb), .int (zI ri)], eA rQ (cy 1) 100 rL] s.heap.size = A at hD ⊢
  have hA : ∀ q : Nat, s.heap.size ≤ q → A q := fun q h => by rw [← hAe]; exact Or.inr h
  have hS : va_S A s.heap s.heap [] := va_S.rf
  have hl := lv_entry ([.ref rO, .int (zI p1)]) (n := 4) (Nat.le_of_ble_eq_true rfl)
  rw [lg_entry_eq]
  generalize (lg_sl ([.ref rO, .int (zI p1)]) ++ List.replicate (4 - (lg_sl ([.ref rO, .int (zI p1)])).length) Slot.unset).toArray = ls at hl ⊢
  have hl : lv_has ls 4 [(0, .ref rO), (1, .int (zI p1))] := hl
  have hf := zq_of hf
  have key := zloop (st := st_X5_lastOfToken p1 rn rL) (res := r) (K := fun (x2, x3) => ∀ (H : Heap) (locs : List Loc) (ls : Array Slot), va_P D vwCl [eO rO 4 [.ref rQ, .int (zI rn), .int (zI rw), .int (zI rb), .int (zI ri)], eA rQ (cy 1) 100 rL] H → va_D A [eO rO 4 [.ref rQ, .int (zI rn), .int (zI rw), .int (zI rb), .int (zI ri)], eA rQ (cy 1) 100 rL] → va_S A s.heap H locs → lv_has ls 4 [(0, .ref rO), (1, .int (zI p1)), (2, .int (zI x2)), (3, .int (zI x3))] → zGi p l e wsX5_lastOfToken ({ frames := 1, cells := 0, slots := 0, locals := 21 }) s m [.ref rO, .int (zI p1)] below meth c A D [eO rO 4 [.ref rQ, .int (zI rn), .int (zI rw), .int (zI rb), .int (zI ri)], eA rQ (cy 1) 100 rL] (zI r) H locs (F0 m 6 ls [])) (by
    rintro ⟨x2, x3⟩ hf
    intro H locs ls hP hD hS hl
    unfold st_X5_lastOfToken at hf
    try dsimp only at hf
    refine lv_iload_n hx hb dX5_lastOfToken_6 rfl (lv_at hl 3 rfl) ?_
    refine lv_aload_n hx hb dX5_lastOfToken_7 rfl (lv_at hl 0 rfl) ?_
    refine va_get (D := D) (ci := 4) (v := .int (zI rn)) (C := RX5) (T := TX5) (N := 5) hx hb hts u_X5_lastOfToken_X5 hown hK.1 hP 0 rfl rfl 1 (by decide) (hts _ m_X5_lastOfToken_1) (fun _ h9 => h9) rfl dX5_lastOfToken_8 ?_
    refine zz_icmp_ge (tgt := 38) hx hb dX5_lastOfToken_11 (by decide) hf (fun hc hf => ?_) (fun hc hf => ?_)
    · refine lv_aload_n hx hb dX5_lastOfToken_14 rfl (lv_at hl 0 rfl) ?_
      refine lv_iload_n hx hb dX5_lastOfToken_15 rfl (lv_at hl 1 rfl) ?_
      obtain ⟨r16, hc16, hf⟩ := zq_bind hf
      refine zcallVi (wr := []) (rest := []) ⟨hx, hb, hml, hown, hts⟩ (c_X5_isDigit l D cy rO rQ H.size p1 rn rw rb ri rL hc16) (cwV 1 hts gX5_lastOfToken_X5_isDigit rfl rfl rfl (by decide +kernel) ⟨Nat.le_of_ble_eq_true rfl, Nat.le_of_ble_eq_true rfl⟩) hK hP hD hS hA [0, 1] [] rfl rfl rfl rfl (by decide) (va_recv hK.1 hP (ci := 4) (q0 := 0) rfl rfl) rfl hl.1 rfl (Nat.le_of_ble_eq_true rfl) dX5_lastOfToken_16 ⟨Nat.zero_le _, Nat.zero_le _⟩ (fun H locs hP hD hS => ?_)
      have hP : va_P D vwCl [eO rO 4 [.ref rQ, .int (zI rn), .int (zI rw), .int (zI rb), .int (zI ri)], eA rQ (cy 1) 100 rL] H := hP.sub [0, 1] rfl
      have hD : va_D A [eO rO 4 [.ref rQ, .int (zI rn), .int (zI rw), .int (zI rb), .int (zI ri)], eA rQ (cy 1) 100 rL] := hD.sub [0, 1] rfl rfl
      refine zz_if_eq (tgt := 38) hx hb dX5_lastOfToken_19 (by decide) hf (fun hc hf => ?_) (fun hc hf => ?_)
      · refine lv_iload_n hx hb dX5_lastOfToken_38 rfl (lv_at hl 2 rfl) ?_
        have hf := zq_some hf
        cases hf
        exact W.iret hx hb hr (fun t ht hW => ⟨⟨_, (), rfl, rfl, by rw [ht]; exact hP, hD⟩, hS.F ht⟩) hS.2.2 dX5_lastOfToken_39
      · refine lv_aload_n hx hb dX5_lastOfToken_22 rfl (lv_at hl 0 rfl) ?_
        refine lv_iload_n hx hb dX5_lastOfToken_23 rfl (lv_at hl 3 rfl) ?_
        obtain ⟨r24, hc24, hf⟩ := zq_bind hf
        refine zcallVi (wr := []) (rest := []) ⟨hx, hb, hml, hown, hts⟩ (c_X5_isDigit l D cy rO rQ H.size x3 rn rw rb ri rL hc24) (cwV 1 hts gX5_lastOfToken_X5_isDigit rfl rfl rfl (by decide +kernel) ⟨Nat.le_of_ble_eq_true rfl, Nat.le_of_ble_eq_true rfl⟩) hK hP hD hS hA [0, 1] [] rfl rfl rfl rfl (by decide) (va_recv hK.1 hP (ci := 4) (q0 := 0) rfl rfl) rfl hl.1 rfl (Nat.le_of_ble_eq_true rfl) dX5_lastOfToken_24 ⟨Nat.zero_le _, Nat.zero_le _⟩ (fun H locs hP hD hS => ?_)
        have hP : va_P D vwCl [eO rO 4 [.ref rQ, .int (zI rn), .int (zI rw), .int (zI rb), .int (zI ri)], eA rQ (cy 1) 100 rL] H := hP.sub [0, 1] rfl
        have hD : va_D A [eO rO 4 [.ref rQ, .int (zI rn), .int (zI rw), .int (zI rb), .int (zI ri)], eA rQ (cy 1) 100 rL] := hD.sub [0, 1] rfl rfl
        refine zz_if_eq (tgt := 38) hx hb dX5_lastOfToken_27 (by decide) hf (fun hc hf => ?_) (fun hc hf => ?_)
        · refine lv_iload_n hx hb dX5_lastOfToken_38 rfl (lv_at hl 2 rfl) ?_
          have hf := zq_some hf
          cases hf
          exact W.iret hx hb hr (fun t ht hW => ⟨⟨_, (), rfl, rfl, by rw [ht]; exact hP, hD⟩, hS.F ht⟩) hS.2.2 dX5_lastOfToken_39
        · refine lv_iload_n hx hb dX5_lastOfToken_30 rfl (lv_at hl 3 rfl) ?_
          refine lv_istore_n (lv' := [(2, .int (zI x3)), (0, .ref rO), (1, .int (zI p1)), (3, .int (zI x3))]) hx hb dX5_lastOfToken_31 rfl hl (by decide) rfl (fun ls hl => ?_)
          refine lv_iinc (v := zI (x3 + 1)) (lv' := [(3, .int (zI (x3 + 1))), (2, .int (zI x3)), (0, .ref rO), (1, .int (zI p1))]) hx hb dX5_lastOfToken_32 hl (k := 3) rfl (zI_add _ _) (by decide) rfl (fun ls hl => ?_)
          refine lv_goto (tgt := 6) hx hb dX5_lastOfToken_35 (by decide) ?_
          have hf := zq_some hf
          exact hf _ _ _ hP hD hS (lv_sub hl [2, 3, 1, 0] rfl)
    · refine lv_iload_n hx hb dX5_lastOfToken_38 rfl (lv_at hl 2 rfl) ?_
      have hf := zq_some hf
      cases hf
      exact W.iret hx hb hr (fun t ht hW => ⟨⟨_, (), rfl, rfl, by rw [ht]; exact hP, hD⟩, hS.F ht⟩) hS.2.2 dX5_lastOfToken_39
    )
  unfold f_X5_lastOfToken at hf
  refine lv_iload_n hx hb dX5_lastOfToken_0 rfl (lv_at hl 1 rfl) ?_
  refine lv_istore_n (lv' := [(2, .int (zI p1)), (0, .ref rO), (1, .int (zI p1))]) hx hb dX5_lastOfToken_1 rfl hl (by decide) rfl (fun ls hl => ?_)
  refine lv_iload_n hx hb dX5_lastOfToken_2 rfl (lv_at hl 2 rfl) ?_
  refine lv_iconst (v := zI 1) hx hb dX5_lastOfToken_3 rfl ?_
  refine zz_iadd hx hb dX5_lastOfToken_4 ?_
  obtain ⟨v5, e5, hf⟩ := zq_lt hf
  refine zz_top e5 ?_
  refine lv_istore_n (lv' := [(3, .int (zI v5)), (2, .int (zI p1)), (0, .ref rO), (1, .int (zI p1))]) hx hb dX5_lastOfToken_5 rfl hl (by decide) rfl (fun ls hl => ?_)
  exact key _ (zq_eq hf) _ _ _ hP hD hS (lv_sub hl [2, 3, 1, 0] rfl)

noncomputable def st_X5_valueOfToken (p2 : Int) (rL : Nat → Int) : (Int × Int) → Option ((Int × Int) ⊕ (Int)) := fun (x3, x4) =>
  gd (zR x4 ∧ zR p2) <|
  if x4 ≤ p2 then
    gd (zR x3 ∧ zR 10000) <|
    if x3 < 10000 then
      gd (zin x4 100) <|
      zlt ((x3 * 10) + ((rL (Int.toNat x4)) - 48)) fun v59 =>
      some (.inl (v59, (x4 + 1)))
    else
      gd (zR x3 ∧ zR 10000) <|
      if x3 < 10000 then
        some (.inr x3)
      else
        some (.inr (-1))
  else
    gd (zR x3 ∧ zR 10000) <|
    if x3 < 10000 then
      some (.inr x3)
    else
      some (.inr (-1))
noncomputable def f_X5_valueOfToken (p1 : Int) (p2 : Int) (rL : Nat → Int) : Option (Int) :=
  (f_X5_isDigit p1 rL).bind fun r2 =>
  gd (zR r2) <|
  if r2 = 0 then
    some (-1)
  else
    gd (zin p1 100) <|
    gd (zR (rL (Int.toNat p1)) ∧ zR 48) <|
    if (rL (Int.toNat p1)) = 48 then
      gd (zR p2 ∧ zR p1) <|
      if p2 ≤ p1 then
        zev (st_X5_valueOfToken p2 rL) (0, p1)
      else
        some (-1)
    else
      zev (st_X5_valueOfToken p2 rL) (0, p1)
theorem m_X5_valueOfToken_1 : (.fieldLink RX5 9 "PulseTurns$Reader" "letters" "[C" : Cond) ∈ wsX5_valueOfToken := List.mem_of_getElem? (i := 1) rfl
theorem u_X5_valueOfToken_X5 : ∀ w ∈ wsX50, w ∈ wsX5_valueOfToken := fun w h => List.mem_cons_of_mem _ (List.mem_append_right _ h)
set_option maxRecDepth 100000 in
set_option maxHeartbeats 4000000 in
theorem c_X5_valueOfToken (l : Launch) (D : va_G) (cy : Nat → ClassId) (rO rQ : Nat) (sz : Nat) (p1 : Int) (p2 : Int) (rn : Int) (rw : Int) (rb : Int) (ri : Int) (rL : Nat → Int) {r : Int} (hf : f_X5_valueOfToken p1 p2 rL = some r) : zMi l yX5_valueOfToken wsX5_valueOfToken ({ frames := 1, cells := 0, slots := 0, locals := 21 }) D cy sz [.ref rO, .int (zI p1), .int (zI p2)] [eO rO 4 [.ref rQ, .int (zI rn), .int (zI rw), .int (zI rb), .int (zI ri)], eA rQ (cy 1) 100 rL] [eO rO 4 [.ref rQ, .int (zI rn), .int (zI rw), .int (zI rb), .int (zI ri)], eA rQ (cy 1) 100 rL] (zI r) := by
  refine Met.ofW (cc := cX5_valueOfToken) (maxL := 5) (ret := (some .int)) (by decide) rfl ?_
  intro p e s m args below meth c s₁ B hml hv
  obtain ⟨rfl, hsz, hP, hK, hD0⟩ := hv
  have hx := B.exec
  have hb := B.bytes
  have hr := B.returns
  have hts := atoms_spec (ws := wsX5_valueOfToken) B.pre
  have hown : s.vm.findClass RX5 = some m.cls := findClass_of_methodNamed B.named
  have hlocks := B.notSynchronized
  subst hsz
  have hD := hD0.self (sz := s.heap.size)
  generalize hAe : va_A [eO rO 4 [.ref rQ, .int (zI rn), .int (zI rw), .int (zI rb), .int (zI ri)], eA rQ (cy 1) 100 rL] s.heap.size = A at hD ⊢
  have hA : ∀ q : Nat, s.heap.size ≤ q → A q := fun q h => by rw [← hAe]; exact Or.inr h
  have hS : va_S A s.heap s.heap [] := va_S.rf
  have hl := lv_entry ([.ref rO, .int (zI p1), .int (zI p2)]) (n := 5) (Nat.le_of_ble_eq_true rfl)
  rw [lg_entry_eq]
  generalize (lg_sl ([.ref rO, .int (zI p1), .int (zI p2)]) ++ List.replicate (5 - (lg_sl ([.ref rO, .int (zI p1), .int (zI p2)])).length) Slot.unset).toArray = ls at hl ⊢
  have hl : lv_has ls 5 [(0, .ref rO), (1, .int (zI p1)), (2, .int (zI p2))] := hl
  have hf := zq_of hf
  have key := zloop (st := st_X5_valueOfToken p2 rL) (res := r) (K := fun (x3, x4) => ∀ (H : Heap) (locs : List Loc) (ls : Array Slot), va_P D vwCl [eO rO 4 [.ref rQ, .int (zI rn), .int (zI rw), .int (zI rb), .int (zI ri)], eA rQ (cy 1) 100 rL] H → va_D A [eO rO 4 [.ref rQ, .int (zI rn), .int (zI rw), .int (zI rb), .int (zI ri)], eA rQ (cy 1) 100 rL] → va_S A s.heap H locs → lv_has ls 5 [(0, .ref rO), (1, .int (zI p1)), (2, .int (zI p2)), (3, .int (zI x3)), (4, .int (zI x4))] → zGi p l e wsX5_valueOfToken ({ frames := 1, cells := 0, slots := 0, locals := 21 }) s m [.ref rO, .int (zI p1), .int (zI p2)] below meth c A D [eO rO 4 [.ref rQ, .int (zI rn), .int (zI rw), .int (zI rb), .int (zI ri)], eA rQ (cy 1) 100 rL] (zI r) H locs (F0 m 31 ls [])) (by
    rintro ⟨x3, x4⟩ hf
    intro H locs ls hP hD hS hl
    unfold st_X5_valueOfToken at hf
    try dsimp only at hf
    refine lv_iload hx hb dX5_valueOfToken_31 (lv_at hl 4 rfl) ?_
    refine lv_iload_n hx hb dX5_valueOfToken_33 rfl (lv_at hl 2 rfl) ?_
    refine zz_icmp_gt (tgt := 66) hx hb dX5_valueOfToken_34 (by decide) hf (fun hc hf => ?_) (fun hc hf => ?_)
    · refine lv_iload_n hx hb dX5_valueOfToken_37 rfl (lv_at hl 3 rfl) ?_
      refine lv_sipush (v := zI 10000) hx hb dX5_valueOfToken_38 (by decide) ?_
      refine zz_icmp_ge (tgt := 66) hx hb dX5_valueOfToken_41 (by decide) hf (fun hc hf => ?_) (fun hc hf => ?_)
      · refine lv_iload_n hx hb dX5_valueOfToken_44 rfl (lv_at hl 3 rfl) ?_
        refine lv_bipush (v := zI 10) hx hb dX5_valueOfToken_45 (by decide) ?_
        refine zz_imul hx hb dX5_valueOfToken_47 ?_
        refine lv_aload_n hx hb dX5_valueOfToken_48 rfl (lv_at hl 0 rfl) ?_
        refine va_get (D := D) (ci := 4) (v := .ref rQ) (C := RX5) (T := TX5) (N := 5) hx hb hts u_X5_valueOfToken_X5 hown hK.1 hP 0 rfl rfl 0 (by decide) (hts _ m_X5_valueOfToken_1) (fun _ h9 => h9) rfl dX5_valueOfToken_49 ?_
        refine lv_iload hx hb dX5_valueOfToken_52 (lv_at hl 4 rfl) ?_
        obtain ⟨hg, hf⟩ := zq_gd hf
        refine zz_cald (i := x4) hx hb hK hP 1 rfl (Nat.le_of_ble_eq_true rfl) hg dX5_valueOfToken_54 ?_
        refine lv_bipush (v := zI 48) hx hb dX5_valueOfToken_55 (by decide) ?_
        refine zz_isub hx hb dX5_valueOfToken_57 ?_
        refine zz_iadd hx hb dX5_valueOfToken_58 ?_
        obtain ⟨v59, e59, hf⟩ := zq_lt hf
        refine zz_top e59 ?_
        refine lv_istore_n (lv' := [(3, .int (zI v59)), (0, .ref rO), (1, .int (zI p1)), (2, .int (zI p2)), (4, .int (zI x4))]) hx hb dX5_valueOfToken_59 rfl hl (by decide) rfl (fun ls hl => ?_)
        refine lv_iinc (v := zI (x4 + 1)) (lv' := [(4, .int (zI (x4 + 1))), (3, .int (zI v59)), (0, .ref rO), (1, .int (zI p1)), (2, .int (zI p2))]) hx hb dX5_valueOfToken_60 hl (k := 4) rfl (zI_add _ _) (by decide) rfl (fun ls hl => ?_)
        refine lv_goto (tgt := 31) hx hb dX5_valueOfToken_63 (by decide) ?_
        have hf := zq_some hf
        exact hf _ _ _ hP hD hS (lv_sub hl [2, 3, 4, 1, 0] rfl)
      · refine lv_iload_n hx hb dX5_valueOfToken_66 rfl (lv_at hl 3 rfl) ?_
        refine lv_sipush (v := zI 10000) hx hb dX5_valueOfToken_67 (by decide) ?_
        refine zz_icmp_ge (tgt := 77) hx hb dX5_valueOfToken_70 (by decide) hf (fun hc hf => ?_) (fun hc hf => ?_)
        · refine lv_iload_n hx hb dX5_valueOfToken_73 rfl (lv_at hl 3 rfl) ?_
          refine lv_goto (tgt := 78) hx hb dX5_valueOfToken_74 (by decide) ?_
          have hf := zq_some hf
          cases hf
          exact W.iret hx hb hr (fun t ht hW => ⟨⟨_, (), rfl, rfl, by rw [ht]; exact hP, hD⟩, hS.F ht⟩) hS.2.2 dX5_valueOfToken_78
        · refine lv_iconst (v := zI (-1)) hx hb dX5_valueOfToken_77 rfl ?_
          have hf := zq_some hf
          cases hf
          exact W.iret hx hb hr (fun t ht hW => ⟨⟨_, (), rfl, rfl, by rw [ht]; exact hP, hD⟩, hS.F ht⟩) hS.2.2 dX5_valueOfToken_78
    · refine lv_iload_n hx hb dX5_valueOfToken_66 rfl (lv_at hl 3 rfl) ?_
      refine lv_sipush (v := zI 10000) hx hb dX5_valueOfToken_67 (by decide) ?_
      refine zz_icmp_ge (tgt := 77) hx hb dX5_valueOfToken_70 (by decide) hf (fun hc hf => ?_) (fun hc hf => ?_)
      · refine lv_iload_n hx hb dX5_valueOfToken_73 rfl (lv_at hl 3 rfl) ?_
        refine lv_goto (tgt := 78) hx hb dX5_valueOfToken_74 (by decide) ?_
        have hf := zq_some hf
        cases hf
        exact W.iret hx hb hr (fun t ht hW => ⟨⟨_, (), rfl, rfl, by rw [ht]; exact hP, hD⟩, hS.F ht⟩) hS.2.2 dX5_valueOfToken_78
      · refine lv_iconst (v := zI (-1)) hx hb dX5_valueOfToken_77 rfl ?_
        have hf := zq_some hf
        cases hf
        exact W.iret hx hb hr (fun t ht hW => ⟨⟨_, (), rfl, rfl, by rw [ht]; exact hP, hD⟩, hS.F ht⟩) hS.2.2 dX5_valueOfToken_78
    )
  unfold f_X5_valueOfToken at hf
  refine lv_aload_n hx hb dX5_valueOfToken_0 rfl (lv_at hl 0 rfl) ?_
  refine lv_iload_n hx hb dX5_valueOfToken_1 rfl (lv_at hl 1 rfl) ?_
  obtain ⟨r2, hc2, hf⟩ := zq_bind hf
  refine zcallVi (wr := []) (rest := []) ⟨hx, hb, hml, hown, hts⟩ (c_X5_isDigit l D cy rO rQ s.heap.size p1 rn rw rb ri rL hc2) (cwV 1 hts gX5_valueOfToken_X5_isDigit rfl rfl rfl (by decide +kernel) ⟨Nat.le_of_ble_eq_true rfl, Nat.le_of_ble_eq_true rfl⟩) hK hP hD hS hA [0, 1] [] rfl rfl rfl rfl (by decide) (va_recv hK.1 hP (ci := 4) (q0 := 0) rfl rfl) rfl hl.1 rfl (Nat.le_of_ble_eq_true rfl) dX5_valueOfToken_2 ⟨Nat.zero_le _, Nat.zero_le _⟩ (fun H locs hP hD hS => ?_)
  have hP : va_P D vwCl [eO rO 4 [.ref rQ, .int (zI rn), .int (zI rw), .int (zI rb), .int (zI ri)], eA rQ (cy 1) 100 rL] H := hP.sub [0, 1] rfl
  have hD : va_D A [eO rO 4 [.ref rQ, .int (zI rn), .int (zI rw), .int (zI rb), .int (zI ri)], eA rQ (cy 1) 100 rL] := hD.sub [0, 1] rfl rfl
  refine zz_if_eq (tgt := 24) hx hb dX5_valueOfToken_5 (by decide) hf (fun hc hf => ?_) (fun hc hf => ?_)
  · refine lv_iconst (v := zI (-1)) hx hb dX5_valueOfToken_24 rfl ?_
    have hf := zq_some hf
    cases hf
    exact W.iret hx hb hr (fun t ht hW => ⟨⟨_, (), rfl, rfl, by rw [ht]; exact hP, hD⟩, hS.F ht⟩) hS.2.2 dX5_valueOfToken_25
  · refine lv_aload_n hx hb dX5_valueOfToken_8 rfl (lv_at hl 0 rfl) ?_
    refine va_get (D := D) (ci := 4) (v := .ref rQ) (C := RX5) (T := TX5) (N := 5) hx hb hts u_X5_valueOfToken_X5 hown hK.1 hP 0 rfl rfl 0 (by decide) (hts _ m_X5_valueOfToken_1) (fun _ h9 => h9) rfl dX5_valueOfToken_9 ?_
    refine lv_iload_n hx hb dX5_valueOfToken_12 rfl (lv_at hl 1 rfl) ?_
    obtain ⟨hg, hf⟩ := zq_gd hf
    refine zz_cald (i := p1) hx hb hK hP 1 rfl (Nat.le_of_ble_eq_true rfl) hg dX5_valueOfToken_13 ?_
    refine lv_bipush (v := zI 48) hx hb dX5_valueOfToken_14 (by decide) ?_
    refine zz_icmp_ne (tgt := 26) hx hb dX5_valueOfToken_16 (by decide) hf (fun hc hf => ?_) (fun hc hf => ?_)
    · refine lv_iload_n hx hb dX5_valueOfToken_19 rfl (lv_at hl 2 rfl) ?_
      refine lv_iload_n hx hb dX5_valueOfToken_20 rfl (lv_at hl 1 rfl) ?_
      refine zz_icmp_le (tgt := 26) hx hb dX5_valueOfToken_21 (by decide) hf (fun hc hf => ?_) (fun hc hf => ?_)
      · refine lv_iconst (v := zI 0) hx hb dX5_valueOfToken_26 rfl ?_
        refine lv_istore_n (lv' := [(3, .int (zI 0)), (0, .ref rO), (1, .int (zI p1)), (2, .int (zI p2))]) hx hb dX5_valueOfToken_27 rfl hl (by decide) rfl (fun ls hl => ?_)
        refine lv_iload_n hx hb dX5_valueOfToken_28 rfl (lv_at hl 2 rfl) ?_
        refine lv_istore (lv' := [(4, .int (zI p1)), (3, .int (zI 0)), (0, .ref rO), (1, .int (zI p1)), (2, .int (zI p2))]) hx hb dX5_valueOfToken_29 hl (by decide) rfl (fun ls hl => ?_)
        exact key _ (zq_eq hf) _ _ _ hP hD hS (lv_sub hl [2, 3, 4, 1, 0] rfl)
      · refine lv_iconst (v := zI (-1)) hx hb dX5_valueOfToken_24 rfl ?_
        have hf := zq_some hf
        cases hf
        exact W.iret hx hb hr (fun t ht hW => ⟨⟨_, (), rfl, rfl, by rw [ht]; exact hP, hD⟩, hS.F ht⟩) hS.2.2 dX5_valueOfToken_25
    · refine lv_iconst (v := zI 0) hx hb dX5_valueOfToken_26 rfl ?_
      refine lv_istore_n (lv' := [(3, .int (zI 0)), (0, .ref rO), (1, .int (zI p1)), (2, .int (zI p2))]) hx hb dX5_valueOfToken_27 rfl hl (by decide) rfl (fun ls hl => ?_)
      refine lv_iload_n hx hb dX5_valueOfToken_28 rfl (lv_at hl 2 rfl) ?_
      refine lv_istore (lv' := [(4, .int (zI p1)), (3, .int (zI 0)), (0, .ref rO), (1, .int (zI p1)), (2, .int (zI p2))]) hx hb dX5_valueOfToken_29 hl (by decide) rfl (fun ls hl => ?_)
      exact key _ (zq_eq hf) _ _ _ hP hD hS (lv_sub hl [2, 3, 4, 1, 0] rfl)

noncomputable def f_X5_takesItem (p1 : Int) (rw : Int) (rb : Int) (az : Int) : Option (Int × Int × Int) :=
  gd (zR p1 ∧ zR 98) <|
  if p1 = 98 then
    gd (zR rb) <|
    if rb = 0 then
      some (1, 1, 1)
    else
      gd (zR p1 ∧ zR 116) <|
      if p1 = 116 then
        gd (zR az ∧ zR 7) <|
        if az < 7 then
          some (1, 4, rb)
        else
          some (0, rw, rb)
      else
        some (0, rw, rb)
  else
    gd (zR p1 ∧ zR 116) <|
    if p1 = 116 then
      gd (zR az ∧ zR 7) <|
      if az < 7 then
        some (1, 4, rb)
      else
        some (0, rw, rb)
    else
      some (0, rw, rb)
theorem m_X5_takesItem_1 : (.fieldLink RX5 27 "PulseTurns$Reader" "boxTold" "Z" : Cond) ∈ wsX5_takesItem := List.mem_of_getElem? (i := 1) rfl
theorem m_X5_takesItem_2 : (.fieldLink RX5 24 "PulseTurns$Reader" "awaited" "I" : Cond) ∈ wsX5_takesItem := List.mem_of_getElem? (i := 2) rfl
theorem m_X5_takesItem_3 : (.fieldLink RX5 77 "PulseTurns$Hearing" "size" "I" : Cond) ∈ wsX5_takesItem := List.mem_of_getElem? (i := 3) rfl
theorem u_X5_takesItem_X1 : ∀ w ∈ wsX10, w ∈ wsX5_takesItem := fun w h => List.mem_cons_of_mem _ (List.mem_append_right _ h)
theorem u_X5_takesItem_X5 : ∀ w ∈ wsX50, w ∈ wsX5_takesItem := fun w h => List.mem_cons_of_mem _ (List.mem_append_left _ (List.mem_append_right _ h))
set_option maxRecDepth 100000 in
set_option maxHeartbeats 4000000 in
theorem c_X5_takesItem (l : Launch) (D : va_G) (cy : Nat → ClassId) (rO rQ aO aQ : Nat) (sz : Nat) (p1 : Int) (rn : Int) (rw : Int) (rb : Int) (ri : Int) (az : Int) (alo : Int) (ahi : Int) (asl : Int) {r : Int} {rw' : Int} {rb' : Int} (hf : f_X5_takesItem p1 rw rb az = some (r, rw', rb')) : zMi l yX5_takesItem wsX5_takesItem ({ frames := 0, cells := 0, slots := 0, locals := 0 }) D cy sz [.ref rO, .int (zI p1), .ref aO] [eO rO 4 [.ref rQ, .int (zI rn), .int (zI rw), .int (zI rb), .int (zI ri)], eO aO 0 [.ref aQ, .int (zI az), .int (zI alo), .int (zI ahi), .int (zI asl)]] [eO rO 4 [.ref rQ, .int (zI rn), .int (zI rw'), .int (zI rb'), .int (zI ri)], eO aO 0 [.ref aQ, .int (zI az), .int (zI alo), .int (zI ahi), .int (zI asl)]] (zI r) := by
  refine Met.ofW (cc := cX5_takesItem) (maxL := 3) (ret := (some .boolean)) (by decide) rfl ?_
  intro p e s m args below meth c s₁ B hml hv
  obtain ⟨rfl, hsz, hP, hK, hD0⟩ := hv
  have hx := B.exec
  have hb := B.bytes
  have hr := B.returns
  have hts := atoms_spec (ws := wsX5_takesItem) B.pre
  have hown : s.vm.findClass RX5 = some m.cls := findClass_of_methodNamed B.named
  have hlocks := B.notSynchronized
  subst hsz
  have hD := hD0.self (sz := s.heap.size)
  generalize hAe : va_A [eO rO 4 [.ref rQ, .int (zI rn), .int (zI rw), .int (zI rb), .int (zI ri)], eO aO 0 [.ref aQ, .int (zI az), .int (zI alo), .int (zI ahi), .int (zI asl)]] s.heap.size = A at hD ⊢
  have hA : ∀ q : Nat, s.heap.size ≤ q → A q := fun q h => by rw [← hAe]; exact Or.inr h
  have hS : va_S A s.heap s.heap [] := va_S.rf
  have hl := lv_entry ([.ref rO, .int (zI p1), .ref aO]) (n := 3) (Nat.le_of_ble_eq_true rfl)
  rw [lg_entry_eq]
  generalize (lg_sl ([.ref rO, .int (zI p1), .ref aO]) ++ List.replicate (3 - (lg_sl ([.ref rO, .int (zI p1), .ref aO])).length) Slot.unset).toArray = ls at hl ⊢
  have hl : lv_has ls 3 [(0, .ref rO), (1, .int (zI p1)), (2, .ref aO)] := hl
  have hf := zq_of hf
  unfold f_X5_takesItem at hf
  refine lv_iload_n hx hb dX5_takesItem_0 rfl (lv_at hl 1 rfl) ?_
  refine lv_bipush (v := zI 98) hx hb dX5_takesItem_1 (by decide) ?_
  refine zz_icmp_ne (tgt := 25) hx hb dX5_takesItem_3 (by decide) hf (fun hc hf => ?_) (fun hc hf => ?_)
  · refine lv_aload_n hx hb dX5_takesItem_6 rfl (lv_at hl 0 rfl) ?_
    refine va_get (D := D) (ci := 4) (v := .int (zI rb)) (C := RX5) (T := TX5) (N := 5) hx hb hts u_X5_takesItem_X5 hown hK.1 hP 0 rfl rfl 3 (by decide) (hts _ m_X5_takesItem_1) (fun _ h9 => h9) rfl dX5_takesItem_7 ?_
    refine zz_if_ne (tgt := 25) hx hb dX5_takesItem_10 (by decide) hf (fun hc hf => ?_) (fun hc hf => ?_)
    · refine lv_aload_n hx hb dX5_takesItem_13 rfl (lv_at hl 0 rfl) ?_
      refine lv_iconst (v := zI 1) hx hb dX5_takesItem_14 rfl ?_
      refine va_put (D := D) (ci := 4) (v := .int (zI 1)) (ty := .boolean) (C := RX5) (T := TX5) (N := 5) hx hb hts u_X5_takesItem_X5 tyX5 tyX5_ok nmX5 hown hK.1 hP hD hS 0 rfl rfl 3 (by decide) (hts _ m_X5_takesItem_1) (fun _ h9 => h9) rfl (tyX5_ok 3 (by decide)) rfl rfl (Nat.le_of_ble_eq_true rfl) dX5_takesItem_15 (fun H locs hP hD hS => ?_)
      have hP : va_P D vwCl [eO rO 4 [.ref rQ, .int (zI rn), .int (zI rw), .int (zI 1), .int (zI ri)], eO aO 0 [.ref aQ, .int (zI az), .int (zI alo), .int (zI ahi), .int (zI asl)]] H := hP
      have hD : va_D A [eO rO 4 [.ref rQ, .int (zI rn), .int (zI rw), .int (zI 1), .int (zI ri)], eO aO 0 [.ref aQ, .int (zI az), .int (zI alo), .int (zI ahi), .int (zI asl)]] := hD
      refine lv_aload_n hx hb dX5_takesItem_18 rfl (lv_at hl 0 rfl) ?_
      refine lv_iconst (v := zI 1) hx hb dX5_takesItem_19 rfl ?_
      refine va_put (D := D) (ci := 4) (v := .int (zI 1)) (ty := .int) (C := RX5) (T := TX5) (N := 5) hx hb hts u_X5_takesItem_X5 tyX5 tyX5_ok nmX5 hown hK.1 hP hD hS 0 rfl rfl 2 (by decide) (hts _ m_X5_takesItem_2) (fun _ h9 => h9) rfl (tyX5_ok 2 (by decide)) rfl rfl (Nat.le_of_ble_eq_true rfl) dX5_takesItem_20 (fun H locs hP hD hS => ?_)
      have hP : va_P D vwCl [eO rO 4 [.ref rQ, .int (zI rn), .int (zI 1), .int (zI 1), .int (zI ri)], eO aO 0 [.ref aQ, .int (zI az), .int (zI alo), .int (zI ahi), .int (zI asl)]] H := hP
      have hD : va_D A [eO rO 4 [.ref rQ, .int (zI rn), .int (zI 1), .int (zI 1), .int (zI ri)], eO aO 0 [.ref aQ, .int (zI az), .int (zI alo), .int (zI ahi), .int (zI asl)]] := hD
      refine lv_iconst (v := zI 1) hx hb dX5_takesItem_23 rfl ?_
      have hf := zq_some hf
      cases hf
      exact W.zret hx hb hr rfl (fun t ht hW => ⟨⟨_, (), rfl, rfl, by rw [ht]; exact hP, hD⟩, hS.F ht⟩) hS.2.2 dX5_takesItem_24
    · refine lv_iload_n hx hb dX5_takesItem_25 rfl (lv_at hl 1 rfl) ?_
      refine lv_bipush (v := zI 116) hx hb dX5_takesItem_26 (by decide) ?_
      refine zz_icmp_ne (tgt := 47) hx hb dX5_takesItem_28 (by decide) hf (fun hc hf => ?_) (fun hc hf => ?_)
      · refine lv_aload_n hx hb dX5_takesItem_31 rfl (lv_at hl 2 rfl) ?_
        refine va_get (D := D) (ci := 0) (v := .int (zI az)) (C := RX1) (T := TX1) (N := 5) hx hb hts u_X5_takesItem_X1 hown hK.1 hP 1 rfl rfl 1 (by decide) (hts _ m_X5_takesItem_3) (fun _ h9 => h9) rfl dX5_takesItem_32 ?_
        refine lv_bipush (v := zI 7) hx hb dX5_takesItem_35 (by decide) ?_
        refine zz_icmp_ge (tgt := 47) hx hb dX5_takesItem_37 (by decide) hf (fun hc hf => ?_) (fun hc hf => ?_)
        · refine lv_aload_n hx hb dX5_takesItem_40 rfl (lv_at hl 0 rfl) ?_
          refine lv_iconst (v := zI 4) hx hb dX5_takesItem_41 rfl ?_
          refine va_put (D := D) (ci := 4) (v := .int (zI 4)) (ty := .int) (C := RX5) (T := TX5) (N := 5) hx hb hts u_X5_takesItem_X5 tyX5 tyX5_ok nmX5 hown hK.1 hP hD hS 0 rfl rfl 2 (by decide) (hts _ m_X5_takesItem_2) (fun _ h9 => h9) rfl (tyX5_ok 2 (by decide)) rfl rfl (Nat.le_of_ble_eq_true rfl) dX5_takesItem_42 (fun H locs hP hD hS => ?_)
          have hP : va_P D vwCl [eO rO 4 [.ref rQ, .int (zI rn), .int (zI 4), .int (zI rb), .int (zI ri)], eO aO 0 [.ref aQ, .int (zI az), .int (zI alo), .int (zI ahi), .int (zI asl)]] H := hP
          have hD : va_D A [eO rO 4 [.ref rQ, .int (zI rn), .int (zI 4), .int (zI rb), .int (zI ri)], eO aO 0 [.ref aQ, .int (zI az), .int (zI alo), .int (zI ahi), .int (zI asl)]] := hD
          refine lv_iconst (v := zI 1) hx hb dX5_takesItem_45 rfl ?_
          have hf := zq_some hf
          cases hf
          exact W.zret hx hb hr rfl (fun t ht hW => ⟨⟨_, (), rfl, rfl, by rw [ht]; exact hP, hD⟩, hS.F ht⟩) hS.2.2 dX5_takesItem_46
        · refine lv_iconst (v := zI 0) hx hb dX5_takesItem_47 rfl ?_
          have hf := zq_some hf
          cases hf
          exact W.zret hx hb hr rfl (fun t ht hW => ⟨⟨_, (), rfl, rfl, by rw [ht]; exact hP, hD⟩, hS.F ht⟩) hS.2.2 dX5_takesItem_48
      · refine lv_iconst (v := zI 0) hx hb dX5_takesItem_47 rfl ?_
        have hf := zq_some hf
        cases hf
        exact W.zret hx hb hr rfl (fun t ht hW => ⟨⟨_, (), rfl, rfl, by rw [ht]; exact hP, hD⟩, hS.F ht⟩) hS.2.2 dX5_takesItem_48
  · refine lv_iload_n hx hb dX5_takesItem_25 rfl (lv_at hl 1 rfl) ?_
    refine lv_bipush (v := zI 116) hx hb dX5_takesItem_26 (by decide) ?_
    refine zz_icmp_ne (tgt := 47) hx hb dX5_takesItem_28 (by decide) hf (fun hc hf => ?_) (fun hc hf => ?_)
    · refine lv_aload_n hx hb dX5_takesItem_31 rfl (lv_at hl 2 rfl) ?_
      refine va_get (D := D) (ci := 0) (v := .int (zI az)) (C := RX1) (T := TX1) (N := 5) hx hb hts u_X5_takesItem_X1 hown hK.1 hP 1 rfl rfl 1 (by decide) (hts _ m_X5_takesItem_3) (fun _ h9 => h9) rfl dX5_takesItem_32 ?_
      refine lv_bipush (v := zI 7) hx hb dX5_takesItem_35 (by decide) ?_
      refine zz_icmp_ge (tgt := 47) hx hb dX5_takesItem_37 (by decide) hf (fun hc hf => ?_) (fun hc hf => ?_)
      · refine lv_aload_n hx hb dX5_takesItem_40 rfl (lv_at hl 0 rfl) ?_
        refine lv_iconst (v := zI 4) hx hb dX5_takesItem_41 rfl ?_
        refine va_put (D := D) (ci := 4) (v := .int (zI 4)) (ty := .int) (C := RX5) (T := TX5) (N := 5) hx hb hts u_X5_takesItem_X5 tyX5 tyX5_ok nmX5 hown hK.1 hP hD hS 0 rfl rfl 2 (by decide) (hts _ m_X5_takesItem_2) (fun _ h9 => h9) rfl (tyX5_ok 2 (by decide)) rfl rfl (Nat.le_of_ble_eq_true rfl) dX5_takesItem_42 (fun H locs hP hD hS => ?_)
        have hP : va_P D vwCl [eO rO 4 [.ref rQ, .int (zI rn), .int (zI 4), .int (zI rb), .int (zI ri)], eO aO 0 [.ref aQ, .int (zI az), .int (zI alo), .int (zI ahi), .int (zI asl)]] H := hP
        have hD : va_D A [eO rO 4 [.ref rQ, .int (zI rn), .int (zI 4), .int (zI rb), .int (zI ri)], eO aO 0 [.ref aQ, .int (zI az), .int (zI alo), .int (zI ahi), .int (zI asl)]] := hD
        refine lv_iconst (v := zI 1) hx hb dX5_takesItem_45 rfl ?_
        have hf := zq_some hf
        cases hf
        exact W.zret hx hb hr rfl (fun t ht hW => ⟨⟨_, (), rfl, rfl, by rw [ht]; exact hP, hD⟩, hS.F ht⟩) hS.2.2 dX5_takesItem_46
      · refine lv_iconst (v := zI 0) hx hb dX5_takesItem_47 rfl ?_
        have hf := zq_some hf
        cases hf
        exact W.zret hx hb hr rfl (fun t ht hW => ⟨⟨_, (), rfl, rfl, by rw [ht]; exact hP, hD⟩, hS.F ht⟩) hS.2.2 dX5_takesItem_48
    · refine lv_iconst (v := zI 0) hx hb dX5_takesItem_47 rfl ?_
      have hf := zq_some hf
      cases hf
      exact W.zret hx hb hr rfl (fun t ht hW => ⟨⟨_, (), rfl, rfl, by rw [ht]; exact hP, hD⟩, hS.F ht⟩) hS.2.2 dX5_takesItem_48

noncomputable def f_X5_takesTime (p1 : Int) (rw : Int) (az : Int) (aT : Nat → Int) : Option (Int × Int × Int × (Nat → Int)) :=
  (f_X6_isTime p1).bind fun r1 =>
  gd (zR r1) <|
  if r1 = 0 then
    some (0, rw, az, aT)
  else
    (f_X1_hears p1 az aT).bind fun r9 =>
    gd (zR r9) <|
    if r9 = 0 then
      (f_X1_place p1 az aT).bind fun (r19, az_19, aT_19) =>
      some (1, 5, az_19, aT_19)
    else
      some (0, rw, az, aT)
theorem m_X5_takesTime_1 : (.fieldLink RX5 24 "PulseTurns$Reader" "awaited" "I" : Cond) ∈ wsX5_takesTime := List.mem_of_getElem? (i := 1) rfl
theorem m_X5_takesTime_2 : (.static yX6_isTime : Cond) ∈ wsX5_takesTime := List.mem_of_getElem? (i := 2) rfl
theorem m_X5_takesTime_3 : (.initialized RX6 : Cond) ∈ wsX5_takesTime := List.mem_of_getElem? (i := 3) rfl
theorem u_X5_takesTime_X5 : ∀ w ∈ wsX50, w ∈ wsX5_takesTime := fun w h => List.mem_cons_of_mem _ (List.mem_append_left _ (List.mem_append_right _ h))
set_option maxRecDepth 100000 in
set_option maxHeartbeats 4000000 in
theorem c_X5_takesTime (l : Launch) (D : va_G) (cy : Nat → ClassId) (rO rQ aO aQ : Nat) (sz : Nat) (p1 : Int) (rn : Int) (rw : Int) (rb : Int) (ri : Int) (az : Int) (alo : Int) (ahi : Int) (asl : Int) (aT : Nat → Int) {r : Int} {rw' : Int} {az' : Int} {aT' : Nat → Int} (hf : f_X5_takesTime p1 rw az aT = some (r, rw', az', aT')) : zMi l yX5_takesTime wsX5_takesTime ({ frames := 1, cells := 0, slots := 0, locals := 23 }) D cy sz [.ref rO, .int (zI p1), .ref aO] [eO rO 4 [.ref rQ, .int (zI rn), .int (zI rw), .int (zI rb), .int (zI ri)], eO aO 0 [.ref aQ, .int (zI az), .int (zI alo), .int (zI ahi), .int (zI asl)], eA aQ (cy 0) 7 aT] [eO rO 4 [.ref rQ, .int (zI rn), .int (zI rw'), .int (zI rb), .int (zI ri)], eO aO 0 [.ref aQ, .int (zI az'), .int (zI alo), .int (zI ahi), .int (zI asl)], eA aQ (cy 0) 7 aT'] (zI r) := by
  refine Met.ofW (cc := cX5_takesTime) (maxL := 3) (ret := (some .boolean)) (by decide) rfl ?_
  intro p e s m args below meth c s₁ B hml hv
  obtain ⟨rfl, hsz, hP, hK, hD0⟩ := hv
  have hx := B.exec
  have hb := B.bytes
  have hr := B.returns
  have hts := atoms_spec (ws := wsX5_takesTime) B.pre
  have hown : s.vm.findClass RX5 = some m.cls := findClass_of_methodNamed B.named
  have hlocks := B.notSynchronized
  subst hsz
  have hD := hD0.self (sz := s.heap.size)
  generalize hAe : va_A [eO rO 4 [.ref rQ, .int (zI rn), .int (zI rw), .int (zI rb), .int (zI ri)], eO aO 0 [.ref aQ, .int (zI az), .int (zI alo), .int (zI ahi), .int (zI asl)], eA aQ (cy 0) 7 aT] s.heap.size = A at hD ⊢
  have hA : ∀ q : Nat, s.heap.size ≤ q → A q := fun q h => by rw [← hAe]; exact Or.inr h
  have hS : va_S A s.heap s.heap [] := va_S.rf
  have hl := lv_entry ([.ref rO, .int (zI p1), .ref aO]) (n := 3) (Nat.le_of_ble_eq_true rfl)
  rw [lg_entry_eq]
  generalize (lg_sl ([.ref rO, .int (zI p1), .ref aO]) ++ List.replicate (3 - (lg_sl ([.ref rO, .int (zI p1), .ref aO])).length) Slot.unset).toArray = ls at hl ⊢
  have hl : lv_has ls 3 [(0, .ref rO), (1, .int (zI p1)), (2, .ref aO)] := hl
  have hf := zq_of hf
  unfold f_X5_takesTime at hf
  refine lv_iload_n hx hb dX5_takesTime_0 rfl (lv_at hl 1 rfl) ?_
  obtain ⟨r1, hc1, hf⟩ := zq_bind hf
  refine zcallNi (wr := [eO rO 4 [.ref rQ, .int (zI rn), .int (zI rw), .int (zI rb), .int (zI ri)], eO aO 0 [.ref aQ, .int (zI az), .int (zI alo), .int (zI ahi), .int (zI asl)], eA aQ (cy 0) 7 aT]) (rest := []) ⟨hx, hb, hml, hown, hts⟩ (c_X6_isTime l D cy s.heap.size p1 hc1) ⟨va_cnB 1 hts gX5_takesTime_X6_isTime_n80 rfl rfl rfl hK.2.2.2.2.2.2.2.1 (hts _ m_X5_takesTime_3) (by decide +kernel) ⟨Nat.le_of_ble_eq_true rfl, Nat.le_of_ble_eq_true rfl⟩, hts _ m_X5_takesTime_2, trivial⟩ hK hP hD hS hA [] [0, 1, 2] rfl rfl rfl rfl (by decide) rfl hl.1 rfl (Nat.le_of_ble_eq_true rfl) dX5_takesTime_1 ⟨Nat.zero_le _, Nat.zero_le _⟩ (fun H locs hP hD hS => ?_)
  have hP : va_P D vwCl [eO rO 4 [.ref rQ, .int (zI rn), .int (zI rw), .int (zI rb), .int (zI ri)], eO aO 0 [.ref aQ, .int (zI az), .int (zI alo), .int (zI ahi), .int (zI asl)], eA aQ (cy 0) 7 aT] H := hP.sub [0, 1, 2] rfl
  have hD : va_D A [eO rO 4 [.ref rQ, .int (zI rn), .int (zI rw), .int (zI rb), .int (zI ri)], eO aO 0 [.ref aQ, .int (zI az), .int (zI alo), .int (zI ahi), .int (zI asl)], eA aQ (cy 0) 7 aT] := hD.sub [0, 1, 2] rfl rfl
  refine zz_if_eq (tgt := 15) hx hb dX5_takesTime_4 (by decide) hf (fun hc hf => ?_) (fun hc hf => ?_)
  · refine lv_iconst (v := zI 0) hx hb dX5_takesTime_15 rfl ?_
    have hf := zq_some hf
    cases hf
    exact W.zret hx hb hr rfl (fun t ht hW => ⟨⟨_, (), rfl, rfl, by rw [ht]; exact hP, hD⟩, hS.F ht⟩) hS.2.2 dX5_takesTime_16
  · refine lv_aload_n hx hb dX5_takesTime_7 rfl (lv_at hl 2 rfl) ?_
    refine lv_iload_n hx hb dX5_takesTime_8 rfl (lv_at hl 1 rfl) ?_
    obtain ⟨r9, hc9, hf⟩ := zq_bind hf
    refine zcallVi (wr := [eO rO 4 [.ref rQ, .int (zI rn), .int (zI rw), .int (zI rb), .int (zI ri)]]) (rest := []) ⟨hx, hb, hml, hown, hts⟩ (c_X1_hears l D cy aO aQ H.size p1 az alo ahi asl aT hc9) (cwV 1 hts gX5_takesTime_X1_hears rfl rfl rfl (by decide +kernel) ⟨Nat.le_of_ble_eq_true rfl, Nat.le_of_ble_eq_true rfl⟩) hK hP hD hS hA [1, 2] [0] rfl rfl rfl rfl (by decide) (va_recv hK.1 hP (ci := 0) (q0 := 1) rfl rfl) rfl hl.1 rfl (Nat.le_of_ble_eq_true rfl) dX5_takesTime_9 ⟨Nat.zero_le _, Nat.zero_le _⟩ (fun H locs hP hD hS => ?_)
    have hP : va_P D vwCl [eO rO 4 [.ref rQ, .int (zI rn), .int (zI rw), .int (zI rb), .int (zI ri)], eO aO 0 [.ref aQ, .int (zI az), .int (zI alo), .int (zI ahi), .int (zI asl)], eA aQ (cy 0) 7 aT] H := hP.sub [0, 1, 2] rfl
    have hD : va_D A [eO rO 4 [.ref rQ, .int (zI rn), .int (zI rw), .int (zI rb), .int (zI ri)], eO aO 0 [.ref aQ, .int (zI az), .int (zI alo), .int (zI ahi), .int (zI asl)], eA aQ (cy 0) 7 aT] := hD.sub [0, 1, 2] rfl rfl
    refine zz_if_eq (tgt := 17) hx hb dX5_takesTime_12 (by decide) hf (fun hc hf => ?_) (fun hc hf => ?_)
    · refine lv_aload_n hx hb dX5_takesTime_17 rfl (lv_at hl 2 rfl) ?_
      refine lv_iload_n hx hb dX5_takesTime_18 rfl (lv_at hl 1 rfl) ?_
      obtain ⟨⟨r19, az_19, aT_19⟩, hc19, hf⟩ := zq_bind hf
      refine zcallVi (wr := [eO rO 4 [.ref rQ, .int (zI rn), .int (zI rw), .int (zI rb), .int (zI ri)]]) (rest := []) ⟨hx, hb, hml, hown, hts⟩ (c_X1_place l D cy aO aQ H.size p1 az alo ahi asl aT hc19) (cwV 1 hts gX5_takesTime_X1_place rfl rfl rfl (by decide +kernel) ⟨Nat.le_of_ble_eq_true rfl, Nat.le_of_ble_eq_true rfl⟩) hK hP hD hS hA [1, 2] [0] rfl rfl rfl rfl (by decide) (va_recv hK.1 hP (ci := 0) (q0 := 1) rfl rfl) rfl hl.1 rfl (Nat.le_of_ble_eq_true rfl) dX5_takesTime_19 ⟨Nat.zero_le _, Nat.zero_le _⟩ (fun H locs hP hD hS => ?_)
      have hP : va_P D vwCl [eO rO 4 [.ref rQ, .int (zI rn), .int (zI rw), .int (zI rb), .int (zI ri)], eO aO 0 [.ref aQ, .int (zI az_19), .int (zI alo), .int (zI ahi), .int (zI asl)], eA aQ (cy 0) 7 aT_19] H := hP.sub [0, 1, 2] rfl
      have hD : va_D A [eO rO 4 [.ref rQ, .int (zI rn), .int (zI rw), .int (zI rb), .int (zI ri)], eO aO 0 [.ref aQ, .int (zI az_19), .int (zI alo), .int (zI ahi), .int (zI asl)], eA aQ (cy 0) 7 aT_19] := hD.sub [0, 1, 2] rfl rfl
      refine lv_pop hx hb dX5_takesTime_22 rfl ?_
      refine lv_aload_n hx hb dX5_takesTime_23 rfl (lv_at hl 0 rfl) ?_
      refine lv_iconst (v := zI 5) hx hb dX5_takesTime_24 rfl ?_
      refine va_put (D := D) (ci := 4) (v := .int (zI 5)) (ty := .int) (C := RX5) (T := TX5) (N := 5) hx hb hts u_X5_takesTime_X5 tyX5 tyX5_ok nmX5 hown hK.1 hP hD hS 0 rfl rfl 2 (by decide) (hts _ m_X5_takesTime_1) (fun _ h9 => h9) rfl (tyX5_ok 2 (by decide)) rfl rfl (Nat.le_of_ble_eq_true rfl) dX5_takesTime_25 (fun H locs hP hD hS => ?_)
      have hP : va_P D vwCl [eO rO 4 [.ref rQ, .int (zI rn), .int (zI 5), .int (zI rb), .int (zI ri)], eO aO 0 [.ref aQ, .int (zI az_19), .int (zI alo), .int (zI ahi), .int (zI asl)], eA aQ (cy 0) 7 aT_19] H := hP
      have hD : va_D A [eO rO 4 [.ref rQ, .int (zI rn), .int (zI 5), .int (zI rb), .int (zI ri)], eO aO 0 [.ref aQ, .int (zI az_19), .int (zI alo), .int (zI ahi), .int (zI asl)], eA aQ (cy 0) 7 aT_19] := hD
      refine lv_iconst (v := zI 1) hx hb dX5_takesTime_28 rfl ?_
      have hf := zq_some hf
      cases hf
      exact W.zret hx hb hr rfl (fun t ht hW => ⟨⟨_, (), rfl, rfl, by rw [ht]; exact hP, hD⟩, hS.F ht⟩) hS.2.2 dX5_takesTime_29
    · refine lv_iconst (v := zI 0) hx hb dX5_takesTime_15 rfl ?_
      have hf := zq_some hf
      cases hf
      exact W.zret hx hb hr rfl (fun t ht hW => ⟨⟨_, (), rfl, rfl, by rw [ht]; exact hP, hD⟩, hS.F ht⟩) hS.2.2 dX5_takesTime_16

noncomputable def f_X5_takes (p1 : Int) (p2 : Int) (rw : Int) (rb : Int) (ri : Int) (az : Int) (alo : Int) (ahi : Int) (asl : Int) (aT : Nat → Int) : Option (Int × Int × Int × Int × Int × Int × Int × Int × (Nat → Int)) :=
  gd (zR rw) <|
  if rw = 0 then
    (f_X5_takesItem p1 rw rb az).bind fun (r43, rw_43, rb_43) =>
    gd (r43 = 0 ∨ r43 = 1) <|
    some (r43, rw_43, rb_43, ri, az, alo, ahi, asl, aT)
  else
  if rw = 1 then
    (f_X6_isLow p2).bind fun r58 =>
    gd (r58 = 0 ∨ r58 = 1) <|
    some (r58, 2, rb, ri, az, p2, ahi, asl, aT)
  else
  if rw = 2 then
    (f_X6_isHigh alo p2).bind fun r77 =>
    gd (r77 = 0 ∨ r77 = 1) <|
    some (r77, 3, rb, ri, az, alo, p2, asl, aT)
  else
  if rw = 3 then
    (f_X6_isSlack alo p2).bind fun r96 =>
    gd (r96 = 0 ∨ r96 = 1) <|
    some (r96, 5, rb, ri, az, alo, ahi, p2, aT)
  else
  if rw = 4 then
    (f_X5_takesTime p2 rw az aT).bind fun (r103, rw_103, az_103, aT_103) =>
    gd (r103 = 0 ∨ r103 = 1) <|
    some (r103, rw_103, rb, ri, az_103, alo, ahi, asl, aT_103)
  else
    gd (zR p1 ∧ zR 59) <|
    if p1 = 59 then
      some (1, 0, rb, (ri + 1), az, alo, ahi, asl, aT)
    else
      some (0, 0, rb, (ri + 1), az, alo, ahi, asl, aT)
theorem m_X5_takes_1 : (.fieldLink RX5 24 "PulseTurns$Reader" "awaited" "I" : Cond) ∈ wsX5_takes := List.mem_of_getElem? (i := 1) rfl
theorem m_X5_takes_2 : (.fieldLink RX5 54 "PulseTurns$Hearing" "low" "I" : Cond) ∈ wsX5_takes := List.mem_of_getElem? (i := 2) rfl
theorem m_X5_takes_3 : (.fieldLink RX5 60 "PulseTurns$Hearing" "high" "I" : Cond) ∈ wsX5_takes := List.mem_of_getElem? (i := 3) rfl
theorem m_X5_takes_4 : (.fieldLink RX5 67 "PulseTurns$Hearing" "slack" "I" : Cond) ∈ wsX5_takes := List.mem_of_getElem? (i := 4) rfl
theorem m_X5_takes_5 : (.fieldLink RX5 31 "PulseTurns$Reader" "items" "I" : Cond) ∈ wsX5_takes := List.mem_of_getElem? (i := 5) rfl
theorem m_X5_takes_13 : (.static yX6_isLow : Cond) ∈ wsX5_takes := List.mem_of_getElem? (i := 13) rfl
theorem m_X5_takes_14 : (.initialized RX6 : Cond) ∈ wsX5_takes := List.mem_of_getElem? (i := 14) rfl
theorem m_X5_takes_16 : (.static yX6_isHigh : Cond) ∈ wsX5_takes := List.mem_of_getElem? (i := 16) rfl
theorem m_X5_takes_18 : (.static yX6_isSlack : Cond) ∈ wsX5_takes := List.mem_of_getElem? (i := 18) rfl
theorem u_X5_takes_X1 : ∀ w ∈ wsX10, w ∈ wsX5_takes := fun w h => List.mem_cons_of_mem _ (List.mem_append_right _ h)
theorem u_X5_takes_X5 : ∀ w ∈ wsX50, w ∈ wsX5_takes := fun w h => List.mem_cons_of_mem _ (List.mem_append_left _ (List.mem_append_right _ h))
set_option maxRecDepth 100000 in
set_option maxHeartbeats 4000000 in
theorem c_X5_takes (l : Launch) (D : va_G) (cy : Nat → ClassId) (rO rQ aO aQ : Nat) (sz : Nat) (p1 : Int) (p2 : Int) (rn : Int) (rw : Int) (rb : Int) (ri : Int) (az : Int) (alo : Int) (ahi : Int) (asl : Int) (aT : Nat → Int) {r : Int} {rw' : Int} {rb' : Int} {ri' : Int} {az' : Int} {alo' : Int} {ahi' : Int} {asl' : Int} {aT' : Nat → Int} (hf : f_X5_takes p1 p2 rw rb ri az alo ahi asl aT = some (r, rw', rb', ri', az', alo', ahi', asl', aT')) : zMi l yX5_takes wsX5_takes ({ frames := 2, cells := 0, slots := 0, locals := 45 }) D cy sz [.ref rO, .int (zI p1), .int (zI p2), .ref aO] [eO rO 4 [.ref rQ, .int (zI rn), .int (zI rw), .int (zI rb), .int (zI ri)], eO aO 0 [.ref aQ, .int (zI az), .int (zI alo), .int (zI ahi), .int (zI asl)], eA aQ (cy 0) 7 aT] [eO rO 4 [.ref rQ, .int (zI rn), .int (zI rw'), .int (zI rb'), .int (zI ri')], eO aO 0 [.ref aQ, .int (zI az'), .int (zI alo'), .int (zI ahi'), .int (zI asl')], eA aQ (cy 0) 7 aT'] (zI r) := by
  refine Met.ofW (cc := cX5_takes) (maxL := 4) (ret := (some .boolean)) (by decide) rfl ?_
  intro p e s m args below meth c s₁ B hml hv
  obtain ⟨rfl, hsz, hP, hK, hD0⟩ := hv
  have hx := B.exec
  have hb := B.bytes
  have hr := B.returns
  have hts := atoms_spec (ws := wsX5_takes) B.pre
  have hown : s.vm.findClass RX5 = some m.cls := findClass_of_methodNamed B.named
  have hlocks := B.notSynchronized
  subst hsz
  have hD := hD0.self (sz := s.heap.size)
  generalize hAe : va_A [eO rO 4 [.ref rQ, .int (zI rn), .int (zI rw), .int (zI rb), .int (zI ri)], eO aO 0 [.ref aQ, .int (zI az), .int (zI alo), .int (zI ahi), .int (zI asl)], eA aQ (cy 0) 7 aT] s.heap.size = A at hD ⊢
  have hA : ∀ q : Nat, s.heap.size ≤ q → A q := fun q h => by rw [← hAe]; exact Or.inr h
  have hS : va_S A s.heap s.heap [] := va_S.rf
  have hl := lv_entry ([.ref rO, .int (zI p1), .int (zI p2), .ref aO]) (n := 4) (Nat.le_of_ble_eq_true rfl)
  rw [lg_entry_eq]
  generalize (lg_sl ([.ref rO, .int (zI p1), .int (zI p2), .ref aO]) ++ List.replicate (4 - (lg_sl ([.ref rO, .int (zI p1), .int (zI p2), .ref aO])).length) Slot.unset).toArray = ls at hl ⊢
  have hl : lv_has ls 4 [(0, .ref rO), (1, .int (zI p1)), (2, .int (zI p2)), (3, .ref aO)] := hl
  have hf := zq_of hf
  unfold f_X5_takes at hf
  refine lv_aload_n hx hb dX5_takes_0 rfl (lv_at hl 0 rfl) ?_
  refine va_get (D := D) (ci := 4) (v := .int (zI rw)) (C := RX5) (T := TX5) (N := 5) hx hb hts u_X5_takes_X5 hown hK.1 hP 0 rfl rfl 2 (by decide) (hts _ m_X5_takes_1) (fun _ h9 => h9) rfl dX5_takes_1 ?_
  obtain ⟨hg, hf⟩ := zq_gd hf
  by_cases hc0 : rw = 0
  · rw [if_pos hc0] at hf
    refine zz_swIn (v := 0) (tgt := 40) hx hb dX5_takes_4 hc0 (by decide) rfl (by decide) ?_
    refine lv_aload_n hx hb dX5_takes_40 rfl (lv_at hl 0 rfl) ?_
    refine lv_iload_n hx hb dX5_takes_41 rfl (lv_at hl 1 rfl) ?_
    refine lv_aload_n hx hb dX5_takes_42 rfl (lv_at hl 3 rfl) ?_
    obtain ⟨⟨r43, rw_43, rb_43⟩, hc43, hf⟩ := zq_bind hf
    refine zcallVi (wr := [eA aQ (cy 0) 7 aT]) (rest := []) ⟨hx, hb, hml, hown, hts⟩ (c_X5_takesItem l D cy rO rQ aO aQ s.heap.size p1 rn rw rb ri az alo ahi asl hc43) (cwV 2 hts gX5_takes_X5_takesItem rfl rfl rfl (by decide +kernel) ⟨Nat.le_of_ble_eq_true rfl, Nat.le_of_ble_eq_true rfl⟩) hK hP hD hS hA [0, 1] [2] rfl rfl rfl rfl (by decide) (va_recv hK.1 hP (ci := 4) (q0 := 0) rfl rfl) rfl hl.1 rfl (Nat.le_of_ble_eq_true rfl) dX5_takes_43 ⟨Nat.zero_le _, Nat.zero_le _⟩ (fun H locs hP hD hS => ?_)
    have hP : va_P D vwCl [eO rO 4 [.ref rQ, .int (zI rn), .int (zI rw_43), .int (zI rb_43), .int (zI ri)], eO aO 0 [.ref aQ, .int (zI az), .int (zI alo), .int (zI ahi), .int (zI asl)], eA aQ (cy 0) 7 aT] H := hP.sub [1, 2, 0] rfl
    have hD : va_D A [eO rO 4 [.ref rQ, .int (zI rn), .int (zI rw_43), .int (zI rb_43), .int (zI ri)], eO aO 0 [.ref aQ, .int (zI az), .int (zI alo), .int (zI ahi), .int (zI asl)], eA aQ (cy 0) 7 aT] := hD.sub [1, 2, 0] rfl rfl
    obtain ⟨hg, hf⟩ := zq_gd hf
    have hn9 : narrow .boolean (.int (zI r43)) = .int (zI r43) := by rcases hg with h | h <;> rw [h] <;> rfl
    have hf := zq_some hf
    cases hf
    exact W.zret hx hb hr hn9 (fun t ht hW => ⟨⟨_, (), rfl, rfl, by rw [ht]; exact hP, hD⟩, hS.F ht⟩) hS.2.2 dX5_takes_46
  rw [if_neg hc0] at hf
  by_cases hc1 : rw = 1
  · rw [if_pos hc1] at hf
    refine zz_swIn (v := 1) (tgt := 47) hx hb dX5_takes_4 hc1 (by decide) rfl (by decide) ?_
    refine lv_aload_n hx hb dX5_takes_47 rfl (lv_at hl 3 rfl) ?_
    refine lv_iload_n hx hb dX5_takes_48 rfl (lv_at hl 2 rfl) ?_
    refine va_put (D := D) (ci := 0) (v := .int (zI p2)) (ty := .int) (C := RX1) (T := TX1) (N := 5) hx hb hts u_X5_takes_X1 tyX1 tyX1_ok nmX1 hown hK.1 hP hD hS 1 rfl rfl 2 (by decide) (hts _ m_X5_takes_2) (fun _ h9 => h9) rfl (tyX1_ok 2 (by decide)) rfl rfl (Nat.le_of_ble_eq_true rfl) dX5_takes_49 (fun H locs hP hD hS => ?_)
    have hP : va_P D vwCl [eO rO 4 [.ref rQ, .int (zI rn), .int (zI rw), .int (zI rb), .int (zI ri)], eO aO 0 [.ref aQ, .int (zI az), .int (zI p2), .int (zI ahi), .int (zI asl)], eA aQ (cy 0) 7 aT] H := hP
    have hD : va_D A [eO rO 4 [.ref rQ, .int (zI rn), .int (zI rw), .int (zI rb), .int (zI ri)], eO aO 0 [.ref aQ, .int (zI az), .int (zI p2), .int (zI ahi), .int (zI asl)], eA aQ (cy 0) 7 aT] := hD
    refine lv_aload_n hx hb dX5_takes_52 rfl (lv_at hl 0 rfl) ?_
    refine lv_iconst (v := zI 2) hx hb dX5_takes_53 rfl ?_
    refine va_put (D := D) (ci := 4) (v := .int (zI 2)) (ty := .int) (C := RX5) (T := TX5) (N := 5) hx hb hts u_X5_takes_X5 tyX5 tyX5_ok nmX5 hown hK.1 hP hD hS 0 rfl rfl 2 (by decide) (hts _ m_X5_takes_1) (fun _ h9 => h9) rfl (tyX5_ok 2 (by decide)) rfl rfl (Nat.le_of_ble_eq_true rfl) dX5_takes_54 (fun H locs hP hD hS => ?_)
    have hP : va_P D vwCl [eO rO 4 [.ref rQ, .int (zI rn), .int (zI 2), .int (zI rb), .int (zI ri)], eO aO 0 [.ref aQ, .int (zI az), .int (zI p2), .int (zI ahi), .int (zI asl)], eA aQ (cy 0) 7 aT] H := hP
    have hD : va_D A [eO rO 4 [.ref rQ, .int (zI rn), .int (zI 2), .int (zI rb), .int (zI ri)], eO aO 0 [.ref aQ, .int (zI az), .int (zI p2), .int (zI ahi), .int (zI asl)], eA aQ (cy 0) 7 aT] := hD
    refine lv_iload_n hx hb dX5_takes_57 rfl (lv_at hl 2 rfl) ?_
    obtain ⟨r58, hc58, hf⟩ := zq_bind hf
    refine zcallNi (wr := [eO rO 4 [.ref rQ, .int (zI rn), .int (zI 2), .int (zI rb), .int (zI ri)], eO aO 0 [.ref aQ, .int (zI az), .int (zI p2), .int (zI ahi), .int (zI asl)], eA aQ (cy 0) 7 aT]) (rest := []) ⟨hx, hb, hml, hown, hts⟩ (c_X6_isLow l D cy H.size p2 hc58) ⟨va_cnB 1 hts gX5_takes_X6_isLow_n57 rfl rfl rfl hK.2.2.2.2.1 (hts _ m_X5_takes_14) (by decide +kernel) ⟨Nat.le_of_ble_eq_true rfl, Nat.le_of_ble_eq_true rfl⟩, hts _ m_X5_takes_13, trivial⟩ hK hP hD hS hA [] [0, 1, 2] rfl rfl rfl rfl (by decide) rfl hl.1 rfl (Nat.le_of_ble_eq_true rfl) dX5_takes_58 ⟨Nat.zero_le _, Nat.zero_le _⟩ (fun H locs hP hD hS => ?_)
    have hP : va_P D vwCl [eO rO 4 [.ref rQ, .int (zI rn), .int (zI 2), .int (zI rb), .int (zI ri)], eO aO 0 [.ref aQ, .int (zI az), .int (zI p2), .int (zI ahi), .int (zI asl)], eA aQ (cy 0) 7 aT] H := hP.sub [0, 1, 2] rfl
    have hD : va_D A [eO rO 4 [.ref rQ, .int (zI rn), .int (zI 2), .int (zI rb), .int (zI ri)], eO aO 0 [.ref aQ, .int (zI az), .int (zI p2), .int (zI ahi), .int (zI asl)], eA aQ (cy 0) 7 aT] := hD.sub [0, 1, 2] rfl rfl
    obtain ⟨hg, hf⟩ := zq_gd hf
    have hn9 : narrow .boolean (.int (zI r58)) = .int (zI r58) := by rcases hg with h | h <;> rw [h] <;> rfl
    have hf := zq_some hf
    cases hf
    exact W.zret hx hb hr hn9 (fun t ht hW => ⟨⟨_, (), rfl, rfl, by rw [ht]; exact hP, hD⟩, hS.F ht⟩) hS.2.2 dX5_takes_61
  rw [if_neg hc1] at hf
  by_cases hc2 : rw = 2
  · rw [if_pos hc2] at hf
    refine zz_swIn (v := 2) (tgt := 62) hx hb dX5_takes_4 hc2 (by decide) rfl (by decide) ?_
    refine lv_aload_n hx hb dX5_takes_62 rfl (lv_at hl 3 rfl) ?_
    refine lv_iload_n hx hb dX5_takes_63 rfl (lv_at hl 2 rfl) ?_
    refine va_put (D := D) (ci := 0) (v := .int (zI p2)) (ty := .int) (C := RX1) (T := TX1) (N := 5) hx hb hts u_X5_takes_X1 tyX1 tyX1_ok nmX1 hown hK.1 hP hD hS 1 rfl rfl 3 (by decide) (hts _ m_X5_takes_3) (fun _ h9 => h9) rfl (tyX1_ok 3 (by decide)) rfl rfl (Nat.le_of_ble_eq_true rfl) dX5_takes_64 (fun H locs hP hD hS => ?_)
    have hP : va_P D vwCl [eO rO 4 [.ref rQ, .int (zI rn), .int (zI rw), .int (zI rb), .int (zI ri)], eO aO 0 [.ref aQ, .int (zI az), .int (zI alo), .int (zI p2), .int (zI asl)], eA aQ (cy 0) 7 aT] H := hP
    have hD : va_D A [eO rO 4 [.ref rQ, .int (zI rn), .int (zI rw), .int (zI rb), .int (zI ri)], eO aO 0 [.ref aQ, .int (zI az), .int (zI alo), .int (zI p2), .int (zI asl)], eA aQ (cy 0) 7 aT] := hD
    refine lv_aload_n hx hb dX5_takes_67 rfl (lv_at hl 0 rfl) ?_
    refine lv_iconst (v := zI 3) hx hb dX5_takes_68 rfl ?_
    refine va_put (D := D) (ci := 4) (v := .int (zI 3)) (ty := .int) (C := RX5) (T := TX5) (N := 5) hx hb hts u_X5_takes_X5 tyX5 tyX5_ok nmX5 hown hK.1 hP hD hS 0 rfl rfl 2 (by decide) (hts _ m_X5_takes_1) (fun _ h9 => h9) rfl (tyX5_ok 2 (by decide)) rfl rfl (Nat.le_of_ble_eq_true rfl) dX5_takes_69 (fun H locs hP hD hS => ?_)
    have hP : va_P D vwCl [eO rO 4 [.ref rQ, .int (zI rn), .int (zI 3), .int (zI rb), .int (zI ri)], eO aO 0 [.ref aQ, .int (zI az), .int (zI alo), .int (zI p2), .int (zI asl)], eA aQ (cy 0) 7 aT] H := hP
    have hD : va_D A [eO rO 4 [.ref rQ, .int (zI rn), .int (zI 3), .int (zI rb), .int (zI ri)], eO aO 0 [.ref aQ, .int (zI az), .int (zI alo), .int (zI p2), .int (zI asl)], eA aQ (cy 0) 7 aT] := hD
    refine lv_aload_n hx hb dX5_takes_72 rfl (lv_at hl 3 rfl) ?_
    refine va_get (D := D) (ci := 0) (v := .int (zI alo)) (C := RX1) (T := TX1) (N := 5) hx hb hts u_X5_takes_X1 hown hK.1 hP 1 rfl rfl 2 (by decide) (hts _ m_X5_takes_2) (fun _ h9 => h9) rfl dX5_takes_73 ?_
    refine lv_iload_n hx hb dX5_takes_76 rfl (lv_at hl 2 rfl) ?_
    obtain ⟨r77, hc77, hf⟩ := zq_bind hf
    refine zcallNi (wr := [eO rO 4 [.ref rQ, .int (zI rn), .int (zI 3), .int (zI rb), .int (zI ri)], eO aO 0 [.ref aQ, .int (zI az), .int (zI alo), .int (zI p2), .int (zI asl)], eA aQ (cy 0) 7 aT]) (rest := []) ⟨hx, hb, hml, hown, hts⟩ (c_X6_isHigh l D cy H.size alo p2 hc77) ⟨va_cnB 2 hts gX5_takes_X6_isHigh_n63 rfl rfl rfl hK.2.2.2.2.2.1 (hts _ m_X5_takes_14) (by decide +kernel) ⟨Nat.le_of_ble_eq_true rfl, Nat.le_of_ble_eq_true rfl⟩, hts _ m_X5_takes_16, trivial⟩ hK hP hD hS hA [] [0, 1, 2] rfl rfl rfl rfl (by decide) rfl hl.1 rfl (Nat.le_of_ble_eq_true rfl) dX5_takes_77 ⟨Nat.zero_le _, Nat.zero_le _⟩ (fun H locs hP hD hS => ?_)
    have hP : va_P D vwCl [eO rO 4 [.ref rQ, .int (zI rn), .int (zI 3), .int (zI rb), .int (zI ri)], eO aO 0 [.ref aQ, .int (zI az), .int (zI alo), .int (zI p2), .int (zI asl)], eA aQ (cy 0) 7 aT] H := hP.sub [0, 1, 2] rfl
    have hD : va_D A [eO rO 4 [.ref rQ, .int (zI rn), .int (zI 3), .int (zI rb), .int (zI ri)], eO aO 0 [.ref aQ, .int (zI az), .int (zI alo), .int (zI p2), .int (zI asl)], eA aQ (cy 0) 7 aT] := hD.sub [0, 1, 2] rfl rfl
    obtain ⟨hg, hf⟩ := zq_gd hf
    have hn9 : narrow .boolean (.int (zI r77)) = .int (zI r77) := by rcases hg with h | h <;> rw [h] <;> rfl
    have hf := zq_some hf
    cases hf
    exact W.zret hx hb hr hn9 (fun t ht hW => ⟨⟨_, (), rfl, rfl, by rw [ht]; exact hP, hD⟩, hS.F ht⟩) hS.2.2 dX5_takes_80
  rw [if_neg hc2] at hf
  by_cases hc3 : rw = 3
  · rw [if_pos hc3] at hf
    refine zz_swIn (v := 3) (tgt := 81) hx hb dX5_takes_4 hc3 (by decide) rfl (by decide) ?_
    refine lv_aload_n hx hb dX5_takes_81 rfl (lv_at hl 3 rfl) ?_
    refine lv_iload_n hx hb dX5_takes_82 rfl (lv_at hl 2 rfl) ?_
    refine va_put (D := D) (ci := 0) (v := .int (zI p2)) (ty := .int) (C := RX1) (T := TX1) (N := 5) hx hb hts u_X5_takes_X1 tyX1 tyX1_ok nmX1 hown hK.1 hP hD hS 1 rfl rfl 4 (by decide) (hts _ m_X5_takes_4) (fun _ h9 => h9) rfl (tyX1_ok 4 (by decide)) rfl rfl (Nat.le_of_ble_eq_true rfl) dX5_takes_83 (fun H locs hP hD hS => ?_)
    have hP : va_P D vwCl [eO rO 4 [.ref rQ, .int (zI rn), .int (zI rw), .int (zI rb), .int (zI ri)], eO aO 0 [.ref aQ, .int (zI az), .int (zI alo), .int (zI ahi), .int (zI p2)], eA aQ (cy 0) 7 aT] H := hP
    have hD : va_D A [eO rO 4 [.ref rQ, .int (zI rn), .int (zI rw), .int (zI rb), .int (zI ri)], eO aO 0 [.ref aQ, .int (zI az), .int (zI alo), .int (zI ahi), .int (zI p2)], eA aQ (cy 0) 7 aT] := hD
    refine lv_aload_n hx hb dX5_takes_86 rfl (lv_at hl 0 rfl) ?_
    refine lv_iconst (v := zI 5) hx hb dX5_takes_87 rfl ?_
    refine va_put (D := D) (ci := 4) (v := .int (zI 5)) (ty := .int) (C := RX5) (T := TX5) (N := 5) hx hb hts u_X5_takes_X5 tyX5 tyX5_ok nmX5 hown hK.1 hP hD hS 0 rfl rfl 2 (by decide) (hts _ m_X5_takes_1) (fun _ h9 => h9) rfl (tyX5_ok 2 (by decide)) rfl rfl (Nat.le_of_ble_eq_true rfl) dX5_takes_88 (fun H locs hP hD hS => ?_)
    have hP : va_P D vwCl [eO rO 4 [.ref rQ, .int (zI rn), .int (zI 5), .int (zI rb), .int (zI ri)], eO aO 0 [.ref aQ, .int (zI az), .int (zI alo), .int (zI ahi), .int (zI p2)], eA aQ (cy 0) 7 aT] H := hP
    have hD : va_D A [eO rO 4 [.ref rQ, .int (zI rn), .int (zI 5), .int (zI rb), .int (zI ri)], eO aO 0 [.ref aQ, .int (zI az), .int (zI alo), .int (zI ahi), .int (zI p2)], eA aQ (cy 0) 7 aT] := hD
    refine lv_aload_n hx hb dX5_takes_91 rfl (lv_at hl 3 rfl) ?_
    refine va_get (D := D) (ci := 0) (v := .int (zI alo)) (C := RX1) (T := TX1) (N := 5) hx hb hts u_X5_takes_X1 hown hK.1 hP 1 rfl rfl 2 (by decide) (hts _ m_X5_takes_2) (fun _ h9 => h9) rfl dX5_takes_92 ?_
    refine lv_iload_n hx hb dX5_takes_95 rfl (lv_at hl 2 rfl) ?_
    obtain ⟨r96, hc96, hf⟩ := zq_bind hf
    refine zcallNi (wr := [eO rO 4 [.ref rQ, .int (zI rn), .int (zI 5), .int (zI rb), .int (zI ri)], eO aO 0 [.ref aQ, .int (zI az), .int (zI alo), .int (zI ahi), .int (zI p2)], eA aQ (cy 0) 7 aT]) (rest := []) ⟨hx, hb, hml, hown, hts⟩ (c_X6_isSlack l D cy H.size alo p2 hc96) ⟨va_cnB 2 hts gX5_takes_X6_isSlack_n70 rfl rfl rfl hK.2.2.2.2.2.2.1 (hts _ m_X5_takes_14) (by decide +kernel) ⟨Nat.le_of_ble_eq_true rfl, Nat.le_of_ble_eq_true rfl⟩, hts _ m_X5_takes_18, trivial⟩ hK hP hD hS hA [] [0, 1, 2] rfl rfl rfl rfl (by decide) rfl hl.1 rfl (Nat.le_of_ble_eq_true rfl) dX5_takes_96 ⟨Nat.zero_le _, Nat.zero_le _⟩ (fun H locs hP hD hS => ?_)
    have hP : va_P D vwCl [eO rO 4 [.ref rQ, .int (zI rn), .int (zI 5), .int (zI rb), .int (zI ri)], eO aO 0 [.ref aQ, .int (zI az), .int (zI alo), .int (zI ahi), .int (zI p2)], eA aQ (cy 0) 7 aT] H := hP.sub [0, 1, 2] rfl
    have hD : va_D A [eO rO 4 [.ref rQ, .int (zI rn), .int (zI 5), .int (zI rb), .int (zI ri)], eO aO 0 [.ref aQ, .int (zI az), .int (zI alo), .int (zI ahi), .int (zI p2)], eA aQ (cy 0) 7 aT] := hD.sub [0, 1, 2] rfl rfl
    obtain ⟨hg, hf⟩ := zq_gd hf
    have hn9 : narrow .boolean (.int (zI r96)) = .int (zI r96) := by rcases hg with h | h <;> rw [h] <;> rfl
    have hf := zq_some hf
    cases hf
    exact W.zret hx hb hr hn9 (fun t ht hW => ⟨⟨_, (), rfl, rfl, by rw [ht]; exact hP, hD⟩, hS.F ht⟩) hS.2.2 dX5_takes_99
  rw [if_neg hc3] at hf
  by_cases hc4 : rw = 4
  · rw [if_pos hc4] at hf
    refine zz_swIn (v := 4) (tgt := 100) hx hb dX5_takes_4 hc4 (by decide) rfl (by decide) ?_
    refine lv_aload_n hx hb dX5_takes_100 rfl (lv_at hl 0 rfl) ?_
    refine lv_iload_n hx hb dX5_takes_101 rfl (lv_at hl 2 rfl) ?_
    refine lv_aload_n hx hb dX5_takes_102 rfl (lv_at hl 3 rfl) ?_
    obtain ⟨⟨r103, rw_103, az_103, aT_103⟩, hc103, hf⟩ := zq_bind hf
    refine zcallVi (wr := []) (rest := []) ⟨hx, hb, hml, hown, hts⟩ (c_X5_takesTime l D cy rO rQ aO aQ s.heap.size p2 rn rw rb ri az alo ahi asl aT hc103) (cwV 2 hts gX5_takes_X5_takesTime rfl rfl rfl (by decide +kernel) ⟨Nat.le_of_ble_eq_true rfl, Nat.le_of_ble_eq_true rfl⟩) hK hP hD hS hA [0, 1, 2] [] rfl rfl rfl rfl (by decide) (va_recv hK.1 hP (ci := 4) (q0 := 0) rfl rfl) rfl hl.1 rfl (Nat.le_of_ble_eq_true rfl) dX5_takes_103 ⟨Nat.zero_le _, Nat.zero_le _⟩ (fun H locs hP hD hS => ?_)
    have hP : va_P D vwCl [eO rO 4 [.ref rQ, .int (zI rn), .int (zI rw_103), .int (zI rb), .int (zI ri)], eO aO 0 [.ref aQ, .int (zI az_103), .int (zI alo), .int (zI ahi), .int (zI asl)], eA aQ (cy 0) 7 aT_103] H := hP.sub [0, 1, 2] rfl
    have hD : va_D A [eO rO 4 [.ref rQ, .int (zI rn), .int (zI rw_103), .int (zI rb), .int (zI ri)], eO aO 0 [.ref aQ, .int (zI az_103), .int (zI alo), .int (zI ahi), .int (zI asl)], eA aQ (cy 0) 7 aT_103] := hD.sub [0, 1, 2] rfl rfl
    obtain ⟨hg, hf⟩ := zq_gd hf
    have hn9 : narrow .boolean (.int (zI r103)) = .int (zI r103) := by rcases hg with h | h <;> rw [h] <;> rfl
    have hf := zq_some hf
    cases hf
    exact W.zret hx hb hr hn9 (fun t ht hW => ⟨⟨_, (), rfl, rfl, by rw [ht]; exact hP, hD⟩, hS.F ht⟩) hS.2.2 dX5_takes_106
  rw [if_neg hc4] at hf
  refine zz_swOut (tgt := 107) hx hb dX5_takes_4 hg (by omega) (by decide) ?_
  refine lv_aload_n hx hb dX5_takes_107 rfl (lv_at hl 0 rfl) ?_
  refine lv_dup hx hb dX5_takes_108 rfl ?_
  refine va_get (D := D) (ci := 4) (v := .int (zI ri)) (C := RX5) (T := TX5) (N := 5) hx hb hts u_X5_takes_X5 hown hK.1 hP 0 rfl rfl 4 (by decide) (hts _ m_X5_takes_5) (fun _ h9 => h9) rfl dX5_takes_109 ?_
  refine lv_iconst (v := zI 1) hx hb dX5_takes_112 rfl ?_
  refine zz_iadd hx hb dX5_takes_113 ?_
  refine va_put (D := D) (ci := 4) (v := .int (zI (ri + 1))) (ty := .int) (C := RX5) (T := TX5) (N := 5) hx hb hts u_X5_takes_X5 tyX5 tyX5_ok nmX5 hown hK.1 hP hD hS 0 rfl rfl 4 (by decide) (hts _ m_X5_takes_5) (fun _ h9 => h9) rfl (tyX5_ok 4 (by decide)) rfl rfl (Nat.le_of_ble_eq_true rfl) dX5_takes_114 (fun H locs hP hD hS => ?_)
  have hP : va_P D vwCl [eO rO 4 [.ref rQ, .int (zI rn), .int (zI rw), .int (zI rb), .int (zI (ri + 1))], eO aO 0 [.ref aQ, .int (zI az), .int (zI alo), .int (zI ahi), .int (zI asl)], eA aQ (cy 0) 7 aT] H := hP
  have hD : va_D A [eO rO 4 [.ref rQ, .int (zI rn), .int (zI rw), .int (zI rb), .int (zI (ri + 1))], eO aO 0 [.ref aQ, .int (zI az), .int (zI alo), .int (zI ahi), .int (zI asl)], eA aQ (cy 0) 7 aT] := hD
  refine lv_aload_n hx hb dX5_takes_117 rfl (lv_at hl 0 rfl) ?_
  refine lv_iconst (v := zI 0) hx hb dX5_takes_118 rfl ?_
  refine va_put (D := D) (ci := 4) (v := .int (zI 0)) (ty := .int) (C := RX5) (T := TX5) (N := 5) hx hb hts u_X5_takes_X5 tyX5 tyX5_ok nmX5 hown hK.1 hP hD hS 0 rfl rfl 2 (by decide) (hts _ m_X5_takes_1) (fun _ h9 => h9) rfl (tyX5_ok 2 (by decide)) rfl rfl (Nat.le_of_ble_eq_true rfl) dX5_takes_119 (fun H locs hP hD hS => ?_)
  have hP : va_P D vwCl [eO rO 4 [.ref rQ, .int (zI rn), .int (zI 0), .int (zI rb), .int (zI (ri + 1))], eO aO 0 [.ref aQ, .int (zI az), .int (zI alo), .int (zI ahi), .int (zI asl)], eA aQ (cy 0) 7 aT] H := hP
  have hD : va_D A [eO rO 4 [.ref rQ, .int (zI rn), .int (zI 0), .int (zI rb), .int (zI (ri + 1))], eO aO 0 [.ref aQ, .int (zI az), .int (zI alo), .int (zI ahi), .int (zI asl)], eA aQ (cy 0) 7 aT] := hD
  refine lv_iload_n hx hb dX5_takes_122 rfl (lv_at hl 1 rfl) ?_
  refine lv_bipush (v := zI 59) hx hb dX5_takes_123 (by decide) ?_
  refine zz_icmp_ne (tgt := 132) hx hb dX5_takes_125 (by decide) hf (fun hc hf => ?_) (fun hc hf => ?_)
  · refine lv_iconst (v := zI 1) hx hb dX5_takes_128 rfl ?_
    refine lv_goto (tgt := 133) hx hb dX5_takes_129 (by decide) ?_
    have hf := zq_some hf
    cases hf
    exact W.zret hx hb hr rfl (fun t ht hW => ⟨⟨_, (), rfl, rfl, by rw [ht]; exact hP, hD⟩, hS.F ht⟩) hS.2.2 dX5_takes_133
  · refine lv_iconst (v := zI 0) hx hb dX5_takes_132 rfl ?_
    have hf := zq_some hf
    cases hf
    exact W.zret hx hb hr rfl (fun t ht hW => ⟨⟨_, (), rfl, rfl, by rw [ht]; exact hP, hD⟩, hS.F ht⟩) hS.2.2 dX5_takes_133

noncomputable def st_X5_read (rn : Int) (rL : Nat → Int) : (Int × Int × Int × Int × Int × Int × Int × Int × Int × (Nat → Int)) → Option ((Int × Int × Int × Int × Int × Int × Int × Int × Int × (Nat → Int)) ⊕ (Int × Int × Int × Int × Int × Int × Int × Int × (Nat → Int))) := fun (x2, x3, rw, rb, ri, az, alo, ahi, asl, aT) =>
  gd (zR x3 ∧ zR rn) <|
  if x3 < rn then
    gd (zR x3 ∧ zR x2) <|
    if x3 ≤ x2 then
      some (.inl (x2, (x3 + 1), rw, rb, ri, az, alo, ahi, asl, aT))
    else
      gd (zin x3 100) <|
      gd (zR (rL (Int.toNat x3)) ∧ zR 32) <|
      if (rL (Int.toNat x3)) = 32 then
        some (.inl (x2, (x3 + 1), rw, rb, ri, az, alo, ahi, asl, aT))
      else
        (f_X5_lastOfToken x3 rn rL).bind fun r49 =>
        gd (zin x3 100) <|
        (f_X5_valueOfToken x3 r49 rL).bind fun r63 =>
        (f_X5_takes (rL (Int.toNat x3)) r63 rw rb ri az alo ahi asl aT).bind fun (r67, rw_67, rb_67, ri_67, az_67, alo_67, ahi_67, asl_67, aT_67) =>
        gd (zR r67) <|
        if r67 = 0 then
          some (.inr (((-10) - x3), rw_67, rb_67, ri_67, az_67, alo_67, ahi_67, asl_67, aT_67))
        else
          some (.inl (r49, (x3 + 1), rw_67, rb_67, ri_67, az_67, alo_67, ahi_67, asl_67, aT_67))
  else
    gd (zR rw) <|
    if rw = 0 then
      some (.inr (ri, rw, rb, ri, az, alo, ahi, asl, aT))
    else
      some (.inr (((-10) - rn), rw, rb, ri, az, alo, ahi, asl, aT))
noncomputable def f_X5_read (rn : Int) (rL : Nat → Int) (aT : Nat → Int) : Option (Int × Int × Int × Int × Int × Int × Int × Int × (Nat → Int)) :=
  (f_X1_reset ).bind fun (az_1, alo_1, ahi_1, asl_1) =>
  zev (st_X5_read rn rL) ((-1), 0, 0, 0, 0, az_1, alo_1, ahi_1, asl_1, aT)
theorem m_X5_read_1 : (.fieldLink RX5 24 "PulseTurns$Reader" "awaited" "I" : Cond) ∈ wsX5_read := List.mem_of_getElem? (i := 1) rfl
theorem m_X5_read_2 : (.fieldLink RX5 27 "PulseTurns$Reader" "boxTold" "Z" : Cond) ∈ wsX5_read := List.mem_of_getElem? (i := 2) rfl
theorem m_X5_read_3 : (.fieldLink RX5 31 "PulseTurns$Reader" "items" "I" : Cond) ∈ wsX5_read := List.mem_of_getElem? (i := 3) rfl
theorem m_X5_read_4 : (.fieldLink RX5 15 "PulseTurns$Reader" "length" "I" : Cond) ∈ wsX5_read := List.mem_of_getElem? (i := 4) rfl
theorem m_X5_read_5 : (.fieldLink RX5 9 "PulseTurns$Reader" "letters" "[C" : Cond) ∈ wsX5_read := List.mem_of_getElem? (i := 5) rfl
theorem u_X5_read_X5 : ∀ w ∈ wsX50, w ∈ wsX5_read := fun w h => List.mem_cons_of_mem _ (List.mem_append_left _ (List.mem_append_right _ h))
set_option maxRecDepth 100000 in
set_option maxHeartbeats 4000000 in
theorem c_X5_read (l : Launch) (D : va_G) (cy : Nat → ClassId) (rO rQ aO aQ : Nat) (sz : Nat) (rn : Int) (rw : Int) (rb : Int) (ri : Int) (rL : Nat → Int) (az : Int) (alo : Int) (ahi : Int) (asl : Int) (aT : Nat → Int) {r : Int} {rw' : Int} {rb' : Int} {ri' : Int} {az' : Int} {alo' : Int} {ahi' : Int} {asl' : Int} {aT' : Nat → Int} (hf : f_X5_read rn rL aT = some (r, rw', rb', ri', az', alo', ahi', asl', aT')) : zMi l yX5_read wsX5_read ({ frames := 3, cells := 0, slots := 0, locals := 68 }) D cy sz [.ref rO, .ref aO] [eO rO 4 [.ref rQ, .int (zI rn), .int (zI rw), .int (zI rb), .int (zI ri)], eA rQ (cy 1) 100 rL, eO aO 0 [.ref aQ, .int (zI az), .int (zI alo), .int (zI ahi), .int (zI asl)], eA aQ (cy 0) 7 aT] [eO rO 4 [.ref rQ, .int (zI rn), .int (zI rw'), .int (zI rb'), .int (zI ri')], eA rQ (cy 1) 100 rL, eO aO 0 [.ref aQ, .int (zI az'), .int (zI alo'), .int (zI ahi'), .int (zI asl')], eA aQ (cy 0) 7 aT'] (zI r) := by
  refine Met.ofW (cc := cX5_read) (maxL := 4) (ret := (some .int)) (by decide) rfl ?_
  intro p e s m args below meth c s₁ B hml hv
  obtain ⟨rfl, hsz, hP, hK, hD0⟩ := hv
  have hx := B.exec
  have hb := B.bytes
  have hr := B.returns
  have hts := atoms_spec (ws := wsX5_read) B.pre
  have hown : s.vm.findClass RX5 = some m.cls := findClass_of_methodNamed B.named
  have hlocks := B.notSynchronized
  subst hsz
  have hD := hD0.self (sz := s.heap.size)
  generalize hAe : va_A [eO rO 4 [.ref rQ, .int (zI rn), .int (zI rw), .int (zI rb), .int (zI ri)], eA rQ (cy 1) 100 rL, eO aO 0 [.ref aQ, .int (zI az), .int (zI alo), .int (zI ahi), .int (zI asl)], eA aQ (cy 0) 7 aT] s.heap.size = A at hD ⊢
  have hA : ∀ q : Nat, s.heap.size ≤ q → A q := fun q h => by rw [← hAe]; exact Or.inr h
  have hS : va_S A s.heap s.heap [] := va_S.rf
  have hl := lv_entry ([.ref rO, .ref aO]) (n := 4) (Nat.le_of_ble_eq_true rfl)
  rw [lg_entry_eq]
  generalize (lg_sl ([.ref rO, .ref aO]) ++ List.replicate (4 - (lg_sl ([.ref rO, .ref aO])).length) Slot.unset).toArray = ls at hl ⊢
  have hl : lv_has ls 4 [(0, .ref rO), (1, .ref aO)] := hl
  have hf := zq_of hf
  have key := zloop (st := st_X5_read rn rL) (res := (r, rw', rb', ri', az', alo', ahi', asl', aT')) (K := fun (x2, x3, rw, rb, ri, az, alo, ahi, asl, aT) => ∀ (H : Heap) (locs : List Loc) (ls : Array Slot), va_P D vwCl [eO rO 4 [.ref rQ, .int (zI rn), .int (zI rw), .int (zI rb), .int (zI ri)], eA rQ (cy 1) 100 rL, eO aO 0 [.ref aQ, .int (zI az), .int (zI alo), .int (zI ahi), .int (zI asl)], eA aQ (cy 0) 7 aT] H → va_D A [eO rO 4 [.ref rQ, .int (zI rn), .int (zI rw), .int (zI rb), .int (zI ri)], eA rQ (cy 1) 100 rL, eO aO 0 [.ref aQ, .int (zI az), .int (zI alo), .int (zI ahi), .int (zI asl)], eA aQ (cy 0) 7 aT] → va_S A s.heap H locs → lv_has ls 4 [(0, .ref rO), (1, .ref aO), (2, .int (zI x2)), (3, .int (zI x3))] → zGi p l e wsX5_read ({ frames := 3, cells := 0, slots := 0, locals := 68 }) s m [.ref rO, .ref aO] below meth c A D [eO rO 4 [.ref rQ, .int (zI rn), .int (zI rw'), .int (zI rb'), .int (zI ri')], eA rQ (cy 1) 100 rL, eO aO 0 [.ref aQ, .int (zI az'), .int (zI alo'), .int (zI ahi'), .int (zI asl')], eA aQ (cy 0) 7 aT'] (zI r) H locs (F0 m 23 ls [])) (by
    rintro ⟨x2, x3, rw, rb, ri, az, alo, ahi, asl, aT⟩ hf
    intro H locs ls hP hD hS hl
    unfold st_X5_read at hf
    try dsimp only at hf
    refine lv_iload_n hx hb dX5_read_23 rfl (lv_at hl 3 rfl) ?_
    refine lv_aload_n hx hb dX5_read_24 rfl (lv_at hl 0 rfl) ?_
    refine va_get (D := D) (ci := 4) (v := .int (zI rn)) (C := RX5) (T := TX5) (N := 5) hx hb hts u_X5_read_X5 hown hK.1 hP 0 rfl rfl 1 (by decide) (hts _ m_X5_read_4) (fun _ h9 => h9) rfl dX5_read_25 ?_
    refine zz_icmp_ge (tgt := 84) hx hb dX5_read_28 (by decide) hf (fun hc hf => ?_) (fun hc hf => ?_)
    · refine lv_iload_n hx hb dX5_read_31 rfl (lv_at hl 3 rfl) ?_
      refine lv_iload_n hx hb dX5_read_32 rfl (lv_at hl 2 rfl) ?_
      refine zz_icmp_le (tgt := 78) hx hb dX5_read_33 (by decide) hf (fun hc hf => ?_) (fun hc hf => ?_)
      · refine lv_iinc (v := zI (x3 + 1)) (lv' := [(3, .int (zI (x3 + 1))), (0, .ref rO), (1, .ref aO), (2, .int (zI x2))]) hx hb dX5_read_78 hl (k := 3) rfl (zI_add _ _) (by decide) rfl (fun ls hl => ?_)
        refine lv_goto (tgt := 23) hx hb dX5_read_81 (by decide) ?_
        have hf := zq_some hf
        exact hf _ _ _ hP hD hS (lv_sub hl [1, 2, 3, 0] rfl)
      · refine lv_aload_n hx hb dX5_read_36 rfl (lv_at hl 0 rfl) ?_
        refine va_get (D := D) (ci := 4) (v := .ref rQ) (C := RX5) (T := TX5) (N := 5) hx hb hts u_X5_read_X5 hown hK.1 hP 0 rfl rfl 0 (by decide) (hts _ m_X5_read_5) (fun _ h9 => h9) rfl dX5_read_37 ?_
        refine lv_iload_n hx hb dX5_read_40 rfl (lv_at hl 3 rfl) ?_
        obtain ⟨hg, hf⟩ := zq_gd hf
        refine zz_cald (i := x3) hx hb hK hP 1 rfl (Nat.le_of_ble_eq_true rfl) hg dX5_read_41 ?_
        refine lv_bipush (v := zI 32) hx hb dX5_read_42 (by decide) ?_
        refine zz_icmp_eq (tgt := 78) hx hb dX5_read_44 (by decide) hf (fun hc hf => ?_) (fun hc hf => ?_)
        · refine lv_iinc (v := zI (x3 + 1)) (lv' := [(3, .int (zI (x3 + 1))), (0, .ref rO), (1, .ref aO), (2, .int (zI x2))]) hx hb dX5_read_78 hl (k := 3) rfl (zI_add _ _) (by decide) rfl (fun ls hl => ?_)
          refine lv_goto (tgt := 23) hx hb dX5_read_81 (by decide) ?_
          have hf := zq_some hf
          exact hf _ _ _ hP hD hS (lv_sub hl [1, 2, 3, 0] rfl)
        · refine lv_aload_n hx hb dX5_read_47 rfl (lv_at hl 0 rfl) ?_
          refine lv_iload_n hx hb dX5_read_48 rfl (lv_at hl 3 rfl) ?_
          obtain ⟨r49, hc49, hf⟩ := zq_bind hf
          refine zcallVi (wr := [eO aO 0 [.ref aQ, .int (zI az), .int (zI alo), .int (zI ahi), .int (zI asl)], eA aQ (cy 0) 7 aT]) (rest := []) ⟨hx, hb, hml, hown, hts⟩ (c_X5_lastOfToken l D cy rO rQ H.size x3 rn rw rb ri rL hc49) (cwV 1 hts gX5_read_X5_lastOfToken rfl rfl rfl (by decide +kernel) ⟨Nat.le_of_ble_eq_true rfl, Nat.le_of_ble_eq_true rfl⟩) hK hP hD hS hA [0, 1] [2, 3] rfl rfl rfl rfl (by decide) (va_recv hK.1 hP (ci := 4) (q0 := 0) rfl rfl) rfl hl.1 rfl (Nat.le_of_ble_eq_true rfl) dX5_read_49 ⟨Nat.zero_le _, Nat.zero_le _⟩ (fun H locs hP hD hS => ?_)
          have hP : va_P D vwCl [eO rO 4 [.ref rQ, .int (zI rn), .int (zI rw), .int (zI rb), .int (zI ri)], eA rQ (cy 1) 100 rL, eO aO 0 [.ref aQ, .int (zI az), .int (zI alo), .int (zI ahi), .int (zI asl)], eA aQ (cy 0) 7 aT] H := hP.sub [2, 3, 0, 1] rfl
          have hD : va_D A [eO rO 4 [.ref rQ, .int (zI rn), .int (zI rw), .int (zI rb), .int (zI ri)], eA rQ (cy 1) 100 rL, eO aO 0 [.ref aQ, .int (zI az), .int (zI alo), .int (zI ahi), .int (zI asl)], eA aQ (cy 0) 7 aT] := hD.sub [2, 3, 0, 1] rfl rfl
          refine lv_istore_n (lv' := [(2, .int (zI r49)), (0, .ref rO), (1, .ref aO), (3, .int (zI x3))]) hx hb dX5_read_52 rfl hl (by decide) rfl (fun ls hl => ?_)
          refine lv_aload_n hx hb dX5_read_53 rfl (lv_at hl 1 rfl) ?_
          refine lv_aload_n hx hb dX5_read_54 rfl (lv_at hl 1 rfl) ?_
          refine va_get (D := D) (ci := 4) (v := .ref rQ) (C := RX5) (T := TX5) (N := 5) hx hb hts u_X5_read_X5 hown hK.1 hP 0 rfl rfl 0 (by decide) (hts _ m_X5_read_5) (fun _ h9 => h9) rfl dX5_read_55 ?_
          refine lv_iload_n hx hb dX5_read_58 rfl (lv_at hl 3 rfl) ?_
          obtain ⟨hg, hf⟩ := zq_gd hf
          refine zz_cald (i := x3) hx hb hK hP 1 rfl (Nat.le_of_ble_eq_true rfl) hg dX5_read_59 ?_
          refine lv_aload_n hx hb dX5_read_60 rfl (lv_at hl 1 rfl) ?_
          refine lv_iload_n hx hb dX5_read_61 rfl (lv_at hl 3 rfl) ?_
          refine lv_iload_n hx hb dX5_read_62 rfl (lv_at hl 0 rfl) ?_
          obtain ⟨r63, hc63, hf⟩ := zq_bind hf
          refine zcallVi (wr := [eO aO 0 [.ref aQ, .int (zI az), .int (zI alo), .int (zI ahi), .int (zI asl)], eA aQ (cy 0) 7 aT]) (rest := [.int (zI (rL (Int.toNat x3))), .ref rO]) ⟨hx, hb, hml, hown, hts⟩ (c_X5_valueOfToken l D cy rO rQ H.size x3 r49 rn rw rb ri rL hc63) (cwV 2 hts gX5_read_X5_valueOfToken rfl rfl rfl (by decide +kernel) ⟨Nat.le_of_ble_eq_true rfl, Nat.le_of_ble_eq_true rfl⟩) hK hP hD hS hA [0, 1] [2, 3] rfl rfl rfl rfl (by decide) (va_recv hK.1 hP (ci := 4) (q0 := 0) rfl rfl) rfl hl.1 rfl (Nat.le_of_ble_eq_true rfl) dX5_read_63 ⟨Nat.zero_le _, Nat.zero_le _⟩ (fun H locs hP hD hS => ?_)
          have hP : va_P D vwCl [eO rO 4 [.ref rQ, .int (zI rn), .int (zI rw), .int (zI rb), .int (zI ri)], eA rQ (cy 1) 100 rL, eO aO 0 [.ref aQ, .int (zI az), .int (zI alo), .int (zI ahi), .int (zI asl)], eA aQ (cy 0) 7 aT] H := hP.sub [2, 3, 0, 1] rfl
          have hD : va_D A [eO rO 4 [.ref rQ, .int (zI rn), .int (zI rw), .int (zI rb), .int (zI ri)], eA rQ (cy 1) 100 rL, eO aO 0 [.ref aQ, .int (zI az), .int (zI alo), .int (zI ahi), .int (zI asl)], eA aQ (cy 0) 7 aT] := hD.sub [2, 3, 0, 1] rfl rfl
          refine lv_aload_n hx hb dX5_read_66 rfl (lv_at hl 2 rfl) ?_
          obtain ⟨⟨r67, rw_67, rb_67, ri_67, az_67, alo_67, ahi_67, asl_67, aT_67⟩, hc67, hf⟩ := zq_bind hf
          refine zcallVi (wr := [eA rQ (cy 1) 100 rL]) (rest := []) ⟨hx, hb, hml, hown, hts⟩ (c_X5_takes l D cy rO rQ aO aQ H.size (rL (Int.toNat x3)) r63 rn rw rb ri az alo ahi asl aT hc67) (cwV 3 hts gX5_read_X5_takes rfl rfl rfl (by decide +kernel) ⟨Nat.le_of_ble_eq_true rfl, Nat.le_of_ble_eq_true rfl⟩) hK hP hD hS hA [0, 2, 3] [1] rfl rfl rfl rfl (by decide) (va_recv hK.1 hP (ci := 4) (q0 := 0) rfl rfl) rfl hl.1 rfl (Nat.le_of_ble_eq_true rfl) dX5_read_67 ⟨Nat.zero_le _, Nat.zero_le _⟩ (fun H locs hP hD hS => ?_)
          have hP : va_P D vwCl [eO rO 4 [.ref rQ, .int (zI rn), .int (zI rw_67), .int (zI rb_67), .int (zI ri_67)], eA rQ (cy 1) 100 rL, eO aO 0 [.ref aQ, .int (zI az_67), .int (zI alo_67), .int (zI ahi_67), .int (zI asl_67)], eA aQ (cy 0) 7 aT_67] H := hP.sub [1, 0, 2, 3] rfl
          have hD : va_D A [eO rO 4 [.ref rQ, .int (zI rn), .int (zI rw_67), .int (zI rb_67), .int (zI ri_67)], eA rQ (cy 1) 100 rL, eO aO 0 [.ref aQ, .int (zI az_67), .int (zI alo_67), .int (zI ahi_67), .int (zI asl_67)], eA aQ (cy 0) 7 aT_67] := hD.sub [1, 0, 2, 3] rfl rfl
          refine zz_if_ne (tgt := 78) hx hb dX5_read_70 (by decide) hf (fun hc hf => ?_) (fun hc hf => ?_)
          · refine lv_bipush (v := zI (-10)) hx hb dX5_read_73 (by decide) ?_
            refine lv_iload_n hx hb dX5_read_75 rfl (lv_at hl 3 rfl) ?_
            refine zz_isub hx hb dX5_read_76 ?_
            have hf := zq_some hf
            cases hf
            exact W.iret hx hb hr (fun t ht hW => ⟨⟨_, (), rfl, rfl, by rw [ht]; exact hP, hD⟩, hS.F ht⟩) hS.2.2 dX5_read_77
          · refine lv_iinc (v := zI (x3 + 1)) (lv' := [(3, .int (zI (x3 + 1))), (2, .int (zI r49)), (0, .ref rO), (1, .ref aO)]) hx hb dX5_read_78 hl (k := 3) rfl (zI_add _ _) (by decide) rfl (fun ls hl => ?_)
            refine lv_goto (tgt := 23) hx hb dX5_read_81 (by decide) ?_
            have hf := zq_some hf
            exact hf _ _ _ hP hD hS (lv_sub hl [2, 3, 1, 0] rfl)
    · refine lv_aload_n hx hb dX5_read_84 rfl (lv_at hl 0 rfl) ?_
      refine va_get (D := D) (ci := 4) (v := .int (zI rw)) (C := RX5) (T := TX5) (N := 5) hx hb hts u_X5_read_X5 hown hK.1 hP 0 rfl rfl 2 (by decide) (hts _ m_X5_read_1) (fun _ h9 => h9) rfl dX5_read_85 ?_
      refine zz_if_ne (tgt := 98) hx hb dX5_read_88 (by decide) hf (fun hc hf => ?_) (fun hc hf => ?_)
      · refine lv_aload_n hx hb dX5_read_91 rfl (lv_at hl 0 rfl) ?_
        refine va_get (D := D) (ci := 4) (v := .int (zI ri)) (C := RX5) (T := TX5) (N := 5) hx hb hts u_X5_read_X5 hown hK.1 hP 0 rfl rfl 4 (by decide) (hts _ m_X5_read_3) (fun _ h9 => h9) rfl dX5_read_92 ?_
        refine lv_goto (tgt := 105) hx hb dX5_read_95 (by decide) ?_
        have hf := zq_some hf
        cases hf
        exact W.iret hx hb hr (fun t ht hW => ⟨⟨_, (), rfl, rfl, by rw [ht]; exact hP, hD⟩, hS.F ht⟩) hS.2.2 dX5_read_105
      · refine lv_bipush (v := zI (-10)) hx hb dX5_read_98 (by decide) ?_
        refine lv_aload_n hx hb dX5_read_100 rfl (lv_at hl 0 rfl) ?_
        refine va_get (D := D) (ci := 4) (v := .int (zI rn)) (C := RX5) (T := TX5) (N := 5) hx hb hts u_X5_read_X5 hown hK.1 hP 0 rfl rfl 1 (by decide) (hts _ m_X5_read_4) (fun _ h9 => h9) rfl dX5_read_101 ?_
        refine zz_isub hx hb dX5_read_104 ?_
        have hf := zq_some hf
        cases hf
        exact W.iret hx hb hr (fun t ht hW => ⟨⟨_, (), rfl, rfl, by rw [ht]; exact hP, hD⟩, hS.F ht⟩) hS.2.2 dX5_read_105
    )
  unfold f_X5_read at hf
  refine lv_aload_n hx hb dX5_read_0 rfl (lv_at hl 1 rfl) ?_
  obtain ⟨⟨az_1, alo_1, ahi_1, asl_1⟩, hc1, hf⟩ := zq_bind hf
  refine zcallVv (wr := [eO rO 4 [.ref rQ, .int (zI rn), .int (zI rw), .int (zI rb), .int (zI ri)], eA rQ (cy 1) 100 rL, eA aQ (cy 0) 7 aT]) (rest := []) ⟨hx, hb, hml, hown, hts⟩ (c_X1_reset l D cy aO aQ s.heap.size az alo ahi asl hc1) (cwV 0 hts gX5_read_X1_reset rfl rfl rfl (by decide +kernel) ⟨Nat.le_of_ble_eq_true rfl, Nat.le_of_ble_eq_true rfl⟩) hK hP hD hS hA [2] [0, 1, 3] rfl rfl rfl rfl (by decide) (va_recv hK.1 hP (ci := 0) (q0 := 2) rfl rfl) rfl hl.1 rfl (Nat.le_of_ble_eq_true rfl) dX5_read_1 ⟨Nat.zero_le _, Nat.zero_le _⟩ (fun H locs hP hD hS => ?_)
  have hP : va_P D vwCl [eO rO 4 [.ref rQ, .int (zI rn), .int (zI rw), .int (zI rb), .int (zI ri)], eA rQ (cy 1) 100 rL, eO aO 0 [.ref aQ, .int (zI az_1), .int (zI alo_1), .int (zI ahi_1), .int (zI asl_1)], eA aQ (cy 0) 7 aT] H := hP.sub [0, 1, 3, 2] rfl
  have hD : va_D A [eO rO 4 [.ref rQ, .int (zI rn), .int (zI rw), .int (zI rb), .int (zI ri)], eA rQ (cy 1) 100 rL, eO aO 0 [.ref aQ, .int (zI az_1), .int (zI alo_1), .int (zI ahi_1), .int (zI asl_1)], eA aQ (cy 0) 7 aT] := hD.sub [0, 1, 3, 2] rfl rfl
  refine lv_aload_n hx hb dX5_read_4 rfl (lv_at hl 0 rfl) ?_
  refine lv_iconst (v := zI 0) hx hb dX5_read_5 rfl ?_
  refine va_put (D := D) (ci := 4) (v := .int (zI 0)) (ty := .int) (C := RX5) (T := TX5) (N := 5) hx hb hts u_X5_read_X5 tyX5 tyX5_ok nmX5 hown hK.1 hP hD hS 0 rfl rfl 2 (by decide) (hts _ m_X5_read_1) (fun _ h9 => h9) rfl (tyX5_ok 2 (by decide)) rfl rfl (Nat.le_of_ble_eq_true rfl) dX5_read_6 (fun H locs hP hD hS => ?_)
  have hP : va_P D vwCl [eO rO 4 [.ref rQ, .int (zI rn), .int (zI 0), .int (zI rb), .int (zI ri)], eA rQ (cy 1) 100 rL, eO aO 0 [.ref aQ, .int (zI az_1), .int (zI alo_1), .int (zI ahi_1), .int (zI asl_1)], eA aQ (cy 0) 7 aT] H := hP
  have hD : va_D A [eO rO 4 [.ref rQ, .int (zI rn), .int (zI 0), .int (zI rb), .int (zI ri)], eA rQ (cy 1) 100 rL, eO aO 0 [.ref aQ, .int (zI az_1), .int (zI alo_1), .int (zI ahi_1), .int (zI asl_1)], eA aQ (cy 0) 7 aT] := hD
  refine lv_aload_n hx hb dX5_read_9 rfl (lv_at hl 0 rfl) ?_
  refine lv_iconst (v := zI 0) hx hb dX5_read_10 rfl ?_
  refine va_put (D := D) (ci := 4) (v := .int (zI 0)) (ty := .boolean) (C := RX5) (T := TX5) (N := 5) hx hb hts u_X5_read_X5 tyX5 tyX5_ok nmX5 hown hK.1 hP hD hS 0 rfl rfl 3 (by decide) (hts _ m_X5_read_2) (fun _ h9 => h9) rfl (tyX5_ok 3 (by decide)) rfl rfl (Nat.le_of_ble_eq_true rfl) dX5_read_11 (fun H locs hP hD hS => ?_)
  have hP : va_P D vwCl [eO rO 4 [.ref rQ, .int (zI rn), .int (zI 0), .int (zI 0), .int (zI ri)], eA rQ (cy 1) 100 rL, eO aO 0 [.ref aQ, .int (zI az_1), .int (zI alo_1), .int (zI ahi_1), .int (zI asl_1)], eA aQ (cy 0) 7 aT] H := hP
  have hD : va_D A [eO rO 4 [.ref rQ, .int (zI rn), .int (zI 0), .int (zI 0), .int (zI ri)], eA rQ (cy 1) 100 rL, eO aO 0 [.ref aQ, .int (zI az_1), .int (zI alo_1), .int (zI ahi_1), .int (zI asl_1)], eA aQ (cy 0) 7 aT] := hD
  refine lv_aload_n hx hb dX5_read_14 rfl (lv_at hl 0 rfl) ?_
  refine lv_iconst (v := zI 0) hx hb dX5_read_15 rfl ?_
  refine va_put (D := D) (ci := 4) (v := .int (zI 0)) (ty := .int) (C := RX5) (T := TX5) (N := 5) hx hb hts u_X5_read_X5 tyX5 tyX5_ok nmX5 hown hK.1 hP hD hS 0 rfl rfl 4 (by decide) (hts _ m_X5_read_3) (fun _ h9 => h9) rfl (tyX5_ok 4 (by decide)) rfl rfl (Nat.le_of_ble_eq_true rfl) dX5_read_16 (fun H locs hP hD hS => ?_)
  have hP : va_P D vwCl [eO rO 4 [.ref rQ, .int (zI rn), .int (zI 0), .int (zI 0), .int (zI 0)], eA rQ (cy 1) 100 rL, eO aO 0 [.ref aQ, .int (zI az_1), .int (zI alo_1), .int (zI ahi_1), .int (zI asl_1)], eA aQ (cy 0) 7 aT] H := hP
  have hD : va_D A [eO rO 4 [.ref rQ, .int (zI rn), .int (zI 0), .int (zI 0), .int (zI 0)], eA rQ (cy 1) 100 rL, eO aO 0 [.ref aQ, .int (zI az_1), .int (zI alo_1), .int (zI ahi_1), .int (zI asl_1)], eA aQ (cy 0) 7 aT] := hD
  refine lv_iconst (v := zI (-1)) hx hb dX5_read_19 rfl ?_
  refine lv_istore_n (lv' := [(2, .int (zI (-1))), (0, .ref rO), (1, .ref aO)]) hx hb dX5_read_20 rfl hl (by decide) rfl (fun ls hl => ?_)
  refine lv_iconst (v := zI 0) hx hb dX5_read_21 rfl ?_
  refine lv_istore_n (lv' := [(3, .int (zI 0)), (2, .int (zI (-1))), (0, .ref rO), (1, .ref aO)]) hx hb dX5_read_22 rfl hl (by decide) rfl (fun ls hl => ?_)
  exact key _ (zq_eq hf) _ _ _ hP hD hS (lv_sub hl [2, 3, 1, 0] rfl)
