noncomputable def f_X4_spread (p1 : Int) (p2 : Int) : Option (Int × Int × Int × Int) :=
  some (p1, 1, p2, 1)
theorem m_X4_spread_1 : (.fieldLink RX4 9 "PulseTurns$Periods" "lowUpper" "I" : Cond) ∈ wsX4_spread := List.mem_of_getElem? (i := 1) rfl
theorem m_X4_spread_2 : (.fieldLink RX4 15 "PulseTurns$Periods" "lowLower" "I" : Cond) ∈ wsX4_spread := List.mem_of_getElem? (i := 2) rfl
theorem m_X4_spread_3 : (.fieldLink RX4 18 "PulseTurns$Periods" "highUpper" "I" : Cond) ∈ wsX4_spread := List.mem_of_getElem? (i := 3) rfl
theorem m_X4_spread_4 : (.fieldLink RX4 21 "PulseTurns$Periods" "highLower" "I" : Cond) ∈ wsX4_spread := List.mem_of_getElem? (i := 4) rfl
theorem u_X4_spread_X4 : ∀ w ∈ wsX40, w ∈ wsX4_spread := fun w h => List.mem_cons_of_mem _ (List.mem_append_right _ h)
set_option maxRecDepth 100000 in
set_option maxHeartbeats 4000000 in
theorem c_X4_spread (l : Launch) (D : va_G) (cy : Nat → ClassId) (cO : Nat) (sz : Nat) (p1 : Int) (p2 : Int) (clu : Int) (cll : Int) (chu : Int) (chl : Int) {clu' : Int} {cll' : Int} {chu' : Int} {chl' : Int} (hf : f_X4_spread p1 p2 = some (clu', cll', chu', chl')) : zMv l yX4_spread wsX4_spread ({ frames := 0, cells := 0, slots := 0, locals := 0 }) D cy sz [.ref cO, .int (zI p1), .int (zI p2)] [eO cO 3 [.int (zI clu), .int (zI cll), .int (zI chu), .int (zI chl)]] [eO cO 3 [.int (zI clu'), .int (zI cll'), .int (zI chu'), .int (zI chl')]] := by
  refine Met.ofW (cc := cX4_spread) (maxL := 3) (ret := none) (by decide) rfl ?_
  intro p e s m args below meth c s₁ B hml hv
  obtain ⟨rfl, hsz, hP, hK, hD0⟩ := hv
  have hx := B.exec
  have hb := B.bytes
  have hr := B.returns
  have hts := atoms_spec (ws := wsX4_spread) B.pre
  have hown : s.vm.findClass RX4 = some m.cls := findClass_of_methodNamed B.named
  have hlocks := B.notSynchronized
  subst hsz
  have hD := hD0.self (sz := s.heap.size)
  generalize hAe : va_A [eO cO 3 [.int (zI clu), .int (zI cll), .int (zI chu), .int (zI chl)]] s.heap.size = A at hD ⊢
  have hA : ∀ q : Nat, s.heap.size ≤ q → A q := fun q h => by rw [← hAe]; exact Or.inr h
  have hS : va_S A s.heap s.heap [] := va_S.rf
  have hl := lv_entry ([.ref cO, .int (zI p1), .int (zI p2)]) (n := 3) (Nat.le_of_ble_eq_true rfl)
  rw [lg_entry_eq]
  generalize (lg_sl ([.ref cO, .int (zI p1), .int (zI p2)]) ++ List.replicate (3 - (lg_sl ([.ref cO, .int (zI p1), .int (zI p2)])).length) Slot.unset).toArray = ls at hl ⊢
  have hl : lv_has ls 3 [(0, .ref cO), (1, .int (zI p1)), (2, .int (zI p2))] := hl
  have hf := zq_of hf
  unfold f_X4_spread at hf
  refine lv_aload_n hx hb dX4_spread_0 rfl (lv_at hl 0 rfl) ?_
  refine lv_iload_n hx hb dX4_spread_1 rfl (lv_at hl 1 rfl) ?_
  refine va_put (D := D) (ci := 3) (v := .int (zI p1)) (ty := .int) (C := RX4) (T := TX4) (N := 4) hx hb hts u_X4_spread_X4 tyX4 tyX4_ok nmX4 hown hK.1 hP hD hS 0 rfl rfl 0 (by decide) (hts _ m_X4_spread_1) (fun _ h9 => h9) rfl (tyX4_ok 0 (by decide)) rfl rfl (Nat.le_of_ble_eq_true rfl) dX4_spread_2 (fun H locs hP hD hS => ?_)
  have hP : va_P D vwCl [eO cO 3 [.int (zI p1), .int (zI cll), .int (zI chu), .int (zI chl)]] H := hP
  have hD : va_D A [eO cO 3 [.int (zI p1), .int (zI cll), .int (zI chu), .int (zI chl)]] := hD
  refine lv_aload_n hx hb dX4_spread_5 rfl (lv_at hl 0 rfl) ?_
  refine lv_iconst (v := zI 1) hx hb dX4_spread_6 rfl ?_
  refine va_put (D := D) (ci := 3) (v := .int (zI 1)) (ty := .int) (C := RX4) (T := TX4) (N := 4) hx hb hts u_X4_spread_X4 tyX4 tyX4_ok nmX4 hown hK.1 hP hD hS 0 rfl rfl 1 (by decide) (hts _ m_X4_spread_2) (fun _ h9 => h9) rfl (tyX4_ok 1 (by decide)) rfl rfl (Nat.le_of_ble_eq_true rfl) dX4_spread_7 (fun H locs hP hD hS => ?_)
  have hP : va_P D vwCl [eO cO 3 [.int (zI p1), .int (zI 1), .int (zI chu), .int (zI chl)]] H := hP
  have hD : va_D A [eO cO 3 [.int (zI p1), .int (zI 1), .int (zI chu), .int (zI chl)]] := hD
  refine lv_aload_n hx hb dX4_spread_10 rfl (lv_at hl 0 rfl) ?_
  refine lv_iload_n hx hb dX4_spread_11 rfl (lv_at hl 2 rfl) ?_
  refine va_put (D := D) (ci := 3) (v := .int (zI p2)) (ty := .int) (C := RX4) (T := TX4) (N := 4) hx hb hts u_X4_spread_X4 tyX4 tyX4_ok nmX4 hown hK.1 hP hD hS 0 rfl rfl 2 (by decide) (hts _ m_X4_spread_3) (fun _ h9 => h9) rfl (tyX4_ok 2 (by decide)) rfl rfl (Nat.le_of_ble_eq_true rfl) dX4_spread_12 (fun H locs hP hD hS => ?_)
  have hP : va_P D vwCl [eO cO 3 [.int (zI p1), .int (zI 1), .int (zI p2), .int (zI chl)]] H := hP
  have hD : va_D A [eO cO 3 [.int (zI p1), .int (zI 1), .int (zI p2), .int (zI chl)]] := hD
  refine lv_aload_n hx hb dX4_spread_15 rfl (lv_at hl 0 rfl) ?_
  refine lv_iconst (v := zI 1) hx hb dX4_spread_16 rfl ?_
  refine va_put (D := D) (ci := 3) (v := .int (zI 1)) (ty := .int) (C := RX4) (T := TX4) (N := 4) hx hb hts u_X4_spread_X4 tyX4 tyX4_ok nmX4 hown hK.1 hP hD hS 0 rfl rfl 3 (by decide) (hts _ m_X4_spread_4) (fun _ h9 => h9) rfl (tyX4_ok 3 (by decide)) rfl rfl (Nat.le_of_ble_eq_true rfl) dX4_spread_17 (fun H locs hP hD hS => ?_)
  have hP : va_P D vwCl [eO cO 3 [.int (zI p1), .int (zI 1), .int (zI p2), .int (zI 1)]] H := hP
  have hD : va_D A [eO cO 3 [.int (zI p1), .int (zI 1), .int (zI p2), .int (zI 1)]] := hD
  have hf := zq_some hf
  cases hf
  exact W.vret hx hb hr (fun t ht hW => ⟨⟨(), rfl, trivial, by rw [ht]; exact hP, hD⟩, hS.F ht⟩) hS.2.2 dX4_spread_20

noncomputable def f_X4_take (dlu : Int) (dll : Int) (dhu : Int) (dhl : Int) : Option (Int × Int × Int × Int) :=
  some (dlu, dll, dhu, dhl)
theorem m_X4_take_1 : (.fieldLink RX4 9 "PulseTurns$Periods" "lowUpper" "I" : Cond) ∈ wsX4_take := List.mem_of_getElem? (i := 1) rfl
theorem m_X4_take_2 : (.fieldLink RX4 15 "PulseTurns$Periods" "lowLower" "I" : Cond) ∈ wsX4_take := List.mem_of_getElem? (i := 2) rfl
theorem m_X4_take_3 : (.fieldLink RX4 18 "PulseTurns$Periods" "highUpper" "I" : Cond) ∈ wsX4_take := List.mem_of_getElem? (i := 3) rfl
theorem m_X4_take_4 : (.fieldLink RX4 21 "PulseTurns$Periods" "highLower" "I" : Cond) ∈ wsX4_take := List.mem_of_getElem? (i := 4) rfl
theorem u_X4_take_X4 : ∀ w ∈ wsX40, w ∈ wsX4_take := fun w h => List.mem_cons_of_mem _ (List.mem_append_right _ h)
set_option maxRecDepth 100000 in
set_option maxHeartbeats 4000000 in
theorem c_X4_take (l : Launch) (D : va_G) (cy : Nat → ClassId) (cO dO : Nat) (sz : Nat) (clu : Int) (cll : Int) (chu : Int) (chl : Int) (dlu : Int) (dll : Int) (dhu : Int) (dhl : Int) {clu' : Int} {cll' : Int} {chu' : Int} {chl' : Int} (hf : f_X4_take dlu dll dhu dhl = some (clu', cll', chu', chl')) : zMv l yX4_take wsX4_take ({ frames := 0, cells := 0, slots := 0, locals := 0 }) D cy sz [.ref cO, .ref dO] [eO cO 3 [.int (zI clu), .int (zI cll), .int (zI chu), .int (zI chl)], eO dO 3 [.int (zI dlu), .int (zI dll), .int (zI dhu), .int (zI dhl)]] [eO cO 3 [.int (zI clu'), .int (zI cll'), .int (zI chu'), .int (zI chl')], eO dO 3 [.int (zI dlu), .int (zI dll), .int (zI dhu), .int (zI dhl)]] := by
  refine Met.ofW (cc := cX4_take) (maxL := 2) (ret := none) (by decide) rfl ?_
  intro p e s m args below meth c s₁ B hml hv
  obtain ⟨rfl, hsz, hP, hK, hD0⟩ := hv
  have hx := B.exec
  have hb := B.bytes
  have hr := B.returns
  have hts := atoms_spec (ws := wsX4_take) B.pre
  have hown : s.vm.findClass RX4 = some m.cls := findClass_of_methodNamed B.named
  have hlocks := B.notSynchronized
  subst hsz
  have hD := hD0.self (sz := s.heap.size)
  generalize hAe : va_A [eO cO 3 [.int (zI clu), .int (zI cll), .int (zI chu), .int (zI chl)], eO dO 3 [.int (zI dlu), .int (zI dll), .int (zI dhu), .int (zI dhl)]] s.heap.size = A at hD ⊢
  have hA : ∀ q : Nat, s.heap.size ≤ q → A q := fun q h => by rw [← hAe]; exact Or.inr h
  have hS : va_S A s.heap s.heap [] := va_S.rf
  have hl := lv_entry ([.ref cO, .ref dO]) (n := 2) (Nat.le_of_ble_eq_true rfl)
  rw [lg_entry_eq]
  generalize (lg_sl ([.ref cO, .ref dO]) ++ List.replicate (2 - (lg_sl ([.ref cO, .ref dO])).length) Slot.unset).toArray = ls at hl ⊢
  have hl : lv_has ls 2 [(0, .ref cO), (1, .ref dO)] := hl
  have hf := zq_of hf
  unfold f_X4_take at hf
  refine lv_aload_n hx hb dX4_take_0 rfl (lv_at hl 0 rfl) ?_
  refine lv_aload_n hx hb dX4_take_1 rfl (lv_at hl 1 rfl) ?_
  refine va_get (D := D) (ci := 3) (v := .int (zI dlu)) (C := RX4) (T := TX4) (N := 4) hx hb hts u_X4_take_X4 hown hK.1 hP 1 rfl rfl 0 (by decide) (hts _ m_X4_take_1) (fun _ h9 => h9) rfl dX4_take_2 ?_
  refine va_put (D := D) (ci := 3) (v := .int (zI dlu)) (ty := .int) (C := RX4) (T := TX4) (N := 4) hx hb hts u_X4_take_X4 tyX4 tyX4_ok nmX4 hown hK.1 hP hD hS 0 rfl rfl 0 (by decide) (hts _ m_X4_take_1) (fun _ h9 => h9) rfl (tyX4_ok 0 (by decide)) rfl rfl (Nat.le_of_ble_eq_true rfl) dX4_take_5 (fun H locs hP hD hS => ?_)
  have hP : va_P D vwCl [eO cO 3 [.int (zI dlu), .int (zI cll), .int (zI chu), .int (zI chl)], eO dO 3 [.int (zI dlu), .int (zI dll), .int (zI dhu), .int (zI dhl)]] H := hP
  have hD : va_D A [eO cO 3 [.int (zI dlu), .int (zI cll), .int (zI chu), .int (zI chl)], eO dO 3 [.int (zI dlu), .int (zI dll), .int (zI dhu), .int (zI dhl)]] := hD
  refine lv_aload_n hx hb dX4_take_8 rfl (lv_at hl 0 rfl) ?_
  refine lv_aload_n hx hb dX4_take_9 rfl (lv_at hl 1 rfl) ?_
  refine va_get (D := D) (ci := 3) (v := .int (zI dll)) (C := RX4) (T := TX4) (N := 4) hx hb hts u_X4_take_X4 hown hK.1 hP 1 rfl rfl 1 (by decide) (hts _ m_X4_take_2) (fun _ h9 => h9) rfl dX4_take_10 ?_
  refine va_put (D := D) (ci := 3) (v := .int (zI dll)) (ty := .int) (C := RX4) (T := TX4) (N := 4) hx hb hts u_X4_take_X4 tyX4 tyX4_ok nmX4 hown hK.1 hP hD hS 0 rfl rfl 1 (by decide) (hts _ m_X4_take_2) (fun _ h9 => h9) rfl (tyX4_ok 1 (by decide)) rfl rfl (Nat.le_of_ble_eq_true rfl) dX4_take_13 (fun H locs hP hD hS => ?_)
  have hP : va_P D vwCl [eO cO 3 [.int (zI dlu), .int (zI dll), .int (zI chu), .int (zI chl)], eO dO 3 [.int (zI dlu), .int (zI dll), .int (zI dhu), .int (zI dhl)]] H := hP
  have hD : va_D A [eO cO 3 [.int (zI dlu), .int (zI dll), .int (zI chu), .int (zI chl)], eO dO 3 [.int (zI dlu), .int (zI dll), .int (zI dhu), .int (zI dhl)]] := hD
  refine lv_aload_n hx hb dX4_take_16 rfl (lv_at hl 0 rfl) ?_
  refine lv_aload_n hx hb dX4_take_17 rfl (lv_at hl 1 rfl) ?_
  refine va_get (D := D) (ci := 3) (v := .int (zI dhu)) (C := RX4) (T := TX4) (N := 4) hx hb hts u_X4_take_X4 hown hK.1 hP 1 rfl rfl 2 (by decide) (hts _ m_X4_take_3) (fun _ h9 => h9) rfl dX4_take_18 ?_
  refine va_put (D := D) (ci := 3) (v := .int (zI dhu)) (ty := .int) (C := RX4) (T := TX4) (N := 4) hx hb hts u_X4_take_X4 tyX4 tyX4_ok nmX4 hown hK.1 hP hD hS 0 rfl rfl 2 (by decide) (hts _ m_X4_take_3) (fun _ h9 => h9) rfl (tyX4_ok 2 (by decide)) rfl rfl (Nat.le_of_ble_eq_true rfl) dX4_take_21 (fun H locs hP hD hS => ?_)
  have hP : va_P D vwCl [eO cO 3 [.int (zI dlu), .int (zI dll), .int (zI dhu), .int (zI chl)], eO dO 3 [.int (zI dlu), .int (zI dll), .int (zI dhu), .int (zI dhl)]] H := hP
  have hD : va_D A [eO cO 3 [.int (zI dlu), .int (zI dll), .int (zI dhu), .int (zI chl)], eO dO 3 [.int (zI dlu), .int (zI dll), .int (zI dhu), .int (zI dhl)]] := hD
  refine lv_aload_n hx hb dX4_take_24 rfl (lv_at hl 0 rfl) ?_
  refine lv_aload_n hx hb dX4_take_25 rfl (lv_at hl 1 rfl) ?_
  refine va_get (D := D) (ci := 3) (v := .int (zI dhl)) (C := RX4) (T := TX4) (N := 4) hx hb hts u_X4_take_X4 hown hK.1 hP 1 rfl rfl 3 (by decide) (hts _ m_X4_take_4) (fun _ h9 => h9) rfl dX4_take_26 ?_
  refine va_put (D := D) (ci := 3) (v := .int (zI dhl)) (ty := .int) (C := RX4) (T := TX4) (N := 4) hx hb hts u_X4_take_X4 tyX4 tyX4_ok nmX4 hown hK.1 hP hD hS 0 rfl rfl 3 (by decide) (hts _ m_X4_take_4) (fun _ h9 => h9) rfl (tyX4_ok 3 (by decide)) rfl rfl (Nat.le_of_ble_eq_true rfl) dX4_take_29 (fun H locs hP hD hS => ?_)
  have hP : va_P D vwCl [eO cO 3 [.int (zI dlu), .int (zI dll), .int (zI dhu), .int (zI dhl)], eO dO 3 [.int (zI dlu), .int (zI dll), .int (zI dhu), .int (zI dhl)]] H := hP
  have hD : va_D A [eO cO 3 [.int (zI dlu), .int (zI dll), .int (zI dhu), .int (zI dhl)], eO dO 3 [.int (zI dlu), .int (zI dll), .int (zI dhu), .int (zI dhl)]] := hD
  have hf := zq_some hf
  cases hf
  exact W.vret hx hb hr (fun t ht hW => ⟨⟨(), rfl, trivial, by rw [ht]; exact hP, hD⟩, hS.F ht⟩) hS.2.2 dX4_take_32

noncomputable def f_X4_isEmpty (clu : Int) (cll : Int) (chu : Int) (chl : Int) : Option (Int) :=
  gd (zR (clu * chl) ∧ zR (chu * cll)) <|
  if (clu * chl) ≤ (chu * cll) then
    some 0
  else
    some 1
theorem m_X4_isEmpty_1 : (.fieldLink RX4 9 "PulseTurns$Periods" "lowUpper" "I" : Cond) ∈ wsX4_isEmpty := List.mem_of_getElem? (i := 1) rfl
theorem m_X4_isEmpty_2 : (.fieldLink RX4 21 "PulseTurns$Periods" "highLower" "I" : Cond) ∈ wsX4_isEmpty := List.mem_of_getElem? (i := 2) rfl
theorem m_X4_isEmpty_3 : (.fieldLink RX4 18 "PulseTurns$Periods" "highUpper" "I" : Cond) ∈ wsX4_isEmpty := List.mem_of_getElem? (i := 3) rfl
theorem m_X4_isEmpty_4 : (.fieldLink RX4 15 "PulseTurns$Periods" "lowLower" "I" : Cond) ∈ wsX4_isEmpty := List.mem_of_getElem? (i := 4) rfl
theorem u_X4_isEmpty_X4 : ∀ w ∈ wsX40, w ∈ wsX4_isEmpty := fun w h => List.mem_cons_of_mem _ (List.mem_append_right _ h)
set_option maxRecDepth 100000 in
set_option maxHeartbeats 4000000 in
theorem c_X4_isEmpty (l : Launch) (D : va_G) (cy : Nat → ClassId) (cO : Nat) (sz : Nat) (clu : Int) (cll : Int) (chu : Int) (chl : Int) {r : Int} (hf : f_X4_isEmpty clu cll chu chl = some r) : zMi l yX4_isEmpty wsX4_isEmpty ({ frames := 0, cells := 0, slots := 0, locals := 0 }) D cy sz [.ref cO] [eO cO 3 [.int (zI clu), .int (zI cll), .int (zI chu), .int (zI chl)]] [eO cO 3 [.int (zI clu), .int (zI cll), .int (zI chu), .int (zI chl)]] (zI r) := by
  refine Met.ofW (cc := cX4_isEmpty) (maxL := 1) (ret := (some .boolean)) (by decide) rfl ?_
  intro p e s m args below meth c s₁ B hml hv
  obtain ⟨rfl, hsz, hP, hK, hD0⟩ := hv
  have hx := B.exec
  have hb := B.bytes
  have hr := B.returns
  have hts := atoms_spec (ws := wsX4_isEmpty) B.pre
  have hown : s.vm.findClass RX4 = some m.cls := findClass_of_methodNamed B.named
  have hlocks := B.notSynchronized
  subst hsz
  have hD := hD0.self (sz := s.heap.size)
  generalize hAe : va_A [eO cO 3 [.int (zI clu), .int (zI cll), .int (zI chu), .int (zI chl)]] s.heap.size = A at hD ⊢
  have hA : ∀ q : Nat, s.heap.size ≤ q → A q := fun q h => by rw [← hAe]; exact Or.inr h
  have hS : va_S A s.heap s.heap [] := va_S.rf
  have hl := lv_entry ([.ref cO]) (n := 1) (Nat.le_of_ble_eq_true rfl)
  rw [lg_entry_eq]
  generalize (lg_sl ([.ref cO]) ++ List.replicate (1 - (lg_sl ([.ref cO])).length) Slot.unset).toArray = ls at hl ⊢
  have hl : lv_has ls 1 [(0, .ref cO)] := hl
  have hf := zq_of hf
  unfold f_X4_isEmpty at hf
  refine lv_aload_n hx hb dX4_isEmpty_0 rfl (lv_at hl 0 rfl) ?_
  refine va_get (D := D) (ci := 3) (v := .int (zI clu)) (C := RX4) (T := TX4) (N := 4) hx hb hts u_X4_isEmpty_X4 hown hK.1 hP 0 rfl rfl 0 (by decide) (hts _ m_X4_isEmpty_1) (fun _ h9 => h9) rfl dX4_isEmpty_1 ?_
  refine lv_aload_n hx hb dX4_isEmpty_4 rfl (lv_at hl 0 rfl) ?_
  refine va_get (D := D) (ci := 3) (v := .int (zI chl)) (C := RX4) (T := TX4) (N := 4) hx hb hts u_X4_isEmpty_X4 hown hK.1 hP 0 rfl rfl 3 (by decide) (hts _ m_X4_isEmpty_2) (fun _ h9 => h9) rfl dX4_isEmpty_5 ?_
  refine zz_imul hx hb dX4_isEmpty_8 ?_
  refine lv_aload_n hx hb dX4_isEmpty_9 rfl (lv_at hl 0 rfl) ?_
  refine va_get (D := D) (ci := 3) (v := .int (zI chu)) (C := RX4) (T := TX4) (N := 4) hx hb hts u_X4_isEmpty_X4 hown hK.1 hP 0 rfl rfl 2 (by decide) (hts _ m_X4_isEmpty_3) (fun _ h9 => h9) rfl dX4_isEmpty_10 ?_
  refine lv_aload_n hx hb dX4_isEmpty_13 rfl (lv_at hl 0 rfl) ?_
  refine va_get (D := D) (ci := 3) (v := .int (zI cll)) (C := RX4) (T := TX4) (N := 4) hx hb hts u_X4_isEmpty_X4 hown hK.1 hP 0 rfl rfl 1 (by decide) (hts _ m_X4_isEmpty_4) (fun _ h9 => h9) rfl dX4_isEmpty_14 ?_
  refine zz_imul hx hb dX4_isEmpty_17 ?_
  refine zz_icmp_le (tgt := 25) hx hb dX4_isEmpty_18 (by decide) hf (fun hc hf => ?_) (fun hc hf => ?_)
  · refine lv_iconst (v := zI 0) hx hb dX4_isEmpty_25 rfl ?_
    have hf := zq_some hf
    cases hf
    exact W.zret hx hb hr rfl (fun t ht hW => ⟨⟨_, (), rfl, rfl, by rw [ht]; exact hP, hD⟩, hS.F ht⟩) hS.2.2 dX4_isEmpty_26
  · refine lv_iconst (v := zI 1) hx hb dX4_isEmpty_21 rfl ?_
    refine lv_goto (tgt := 26) hx hb dX4_isEmpty_22 (by decide) ?_
    have hf := zq_some hf
    cases hf
    exact W.zret hx hb hr rfl (fun t ht hW => ⟨⟨_, (), rfl, rfl, by rw [ht]; exact hP, hD⟩, hS.F ht⟩) hS.2.2 dX4_isEmpty_26

noncomputable def f_X4_cut (p1 : Int) (p2 : Int) (p3 : Int) (clu : Int) (cll : Int) (chu : Int) (chl : Int) : Option (Int × Int × Int × Int × Int) :=
  gd (zR ((p1 - p2) * cll) ∧ zR (clu * p3)) <|
  if ((p1 - p2) * cll) ≤ (clu * p3) then
    gd (zR ((p1 + p2) * chl) ∧ zR (chu * p3)) <|
    if ((p1 + p2) * chl) < (chu * p3) then
      some (1, clu, cll, (p1 + p2), p3)
    else
      some (0, clu, cll, chu, chl)
  else
    gd (zR ((p1 + p2) * chl) ∧ zR (chu * p3)) <|
    if ((p1 + p2) * chl) < (chu * p3) then
      some (1, (p1 - p2), p3, (p1 + p2), p3)
    else
      some (1, (p1 - p2), p3, chu, chl)
theorem m_X4_cut_1 : (.fieldLink RX4 15 "PulseTurns$Periods" "lowLower" "I" : Cond) ∈ wsX4_cut := List.mem_of_getElem? (i := 1) rfl
theorem m_X4_cut_2 : (.fieldLink RX4 9 "PulseTurns$Periods" "lowUpper" "I" : Cond) ∈ wsX4_cut := List.mem_of_getElem? (i := 2) rfl
theorem m_X4_cut_3 : (.fieldLink RX4 21 "PulseTurns$Periods" "highLower" "I" : Cond) ∈ wsX4_cut := List.mem_of_getElem? (i := 3) rfl
theorem m_X4_cut_4 : (.fieldLink RX4 18 "PulseTurns$Periods" "highUpper" "I" : Cond) ∈ wsX4_cut := List.mem_of_getElem? (i := 4) rfl
theorem u_X4_cut_X4 : ∀ w ∈ wsX40, w ∈ wsX4_cut := fun w h => List.mem_cons_of_mem _ (List.mem_append_right _ h)
set_option maxRecDepth 100000 in
set_option maxHeartbeats 4000000 in
theorem c_X4_cut (l : Launch) (D : va_G) (cy : Nat → ClassId) (cO : Nat) (sz : Nat) (p1 : Int) (p2 : Int) (p3 : Int) (clu : Int) (cll : Int) (chu : Int) (chl : Int) {r : Int} {clu' : Int} {cll' : Int} {chu' : Int} {chl' : Int} (hf : f_X4_cut p1 p2 p3 clu cll chu chl = some (r, clu', cll', chu', chl')) : zMi l yX4_cut wsX4_cut ({ frames := 0, cells := 0, slots := 0, locals := 0 }) D cy sz [.ref cO, .int (zI p1), .int (zI p2), .int (zI p3)] [eO cO 3 [.int (zI clu), .int (zI cll), .int (zI chu), .int (zI chl)]] [eO cO 3 [.int (zI clu'), .int (zI cll'), .int (zI chu'), .int (zI chl')]] (zI r) := by
  refine Met.ofW (cc := cX4_cut) (maxL := 5) (ret := (some .boolean)) (by decide) rfl ?_
  intro p e s m args below meth c s₁ B hml hv
  obtain ⟨rfl, hsz, hP, hK, hD0⟩ := hv
  have hx := B.exec
  have hb := B.bytes
  have hr := B.returns
  have hts := atoms_spec (ws := wsX4_cut) B.pre
  have hown : s.vm.findClass RX4 = some m.cls := findClass_of_methodNamed B.named
  have hlocks := B.notSynchronized
  subst hsz
  have hD := hD0.self (sz := s.heap.size)
  generalize hAe : va_A [eO cO 3 [.int (zI clu), .int (zI cll), .int (zI chu), .int (zI chl)]] s.heap.size = A at hD ⊢
  have hA : ∀ q : Nat, s.heap.size ≤ q → A q := fun q h => by rw [← hAe]; exact Or.inr h
  have hS : va_S A s.heap s.heap [] := va_S.rf
  have hl := lv_entry ([.ref cO, .int (zI p1), .int (zI p2), .int (zI p3)]) (n := 5) (Nat.le_of_ble_eq_true rfl)
  rw [lg_entry_eq]
  generalize (lg_sl ([.ref cO, .int (zI p1), .int (zI p2), .int (zI p3)]) ++ List.replicate (5 - (lg_sl ([.ref cO, .int (zI p1), .int (zI p2), .int (zI p3)])).length) Slot.unset).toArray = ls at hl ⊢
  have hl : lv_has ls 5 [(0, .ref cO), (1, .int (zI p1)), (2, .int (zI p2)), (3, .int (zI p3))] := hl
  have hf := zq_of hf
  unfold f_X4_cut at hf
  refine lv_iconst (v := zI 0) hx hb dX4_cut_0 rfl ?_
  refine lv_istore (lv' := [(4, .int (zI 0)), (0, .ref cO), (1, .int (zI p1)), (2, .int (zI p2)), (3, .int (zI p3))]) hx hb dX4_cut_1 hl (by decide) rfl (fun ls hl => ?_)
  refine lv_iload_n hx hb dX4_cut_3 rfl (lv_at hl 2 rfl) ?_
  refine lv_iload_n hx hb dX4_cut_4 rfl (lv_at hl 3 rfl) ?_
  refine zz_isub hx hb dX4_cut_5 ?_
  refine lv_aload_n hx hb dX4_cut_6 rfl (lv_at hl 1 rfl) ?_
  refine va_get (D := D) (ci := 3) (v := .int (zI cll)) (C := RX4) (T := TX4) (N := 4) hx hb hts u_X4_cut_X4 hown hK.1 hP 0 rfl rfl 1 (by decide) (hts _ m_X4_cut_1) (fun _ h9 => h9) rfl dX4_cut_7 ?_
  refine zz_imul hx hb dX4_cut_10 ?_
  refine lv_aload_n hx hb dX4_cut_11 rfl (lv_at hl 1 rfl) ?_
  refine va_get (D := D) (ci := 3) (v := .int (zI clu)) (C := RX4) (T := TX4) (N := 4) hx hb hts u_X4_cut_X4 hown hK.1 hP 0 rfl rfl 0 (by decide) (hts _ m_X4_cut_2) (fun _ h9 => h9) rfl dX4_cut_12 ?_
  refine lv_iload_n hx hb dX4_cut_15 rfl (lv_at hl 4 rfl) ?_
  refine zz_imul hx hb dX4_cut_16 ?_
  refine zz_icmp_le (tgt := 35) hx hb dX4_cut_17 (by decide) hf (fun hc hf => ?_) (fun hc hf => ?_)
  · refine lv_iload_n hx hb dX4_cut_35 rfl (lv_at hl 2 rfl) ?_
    refine lv_iload_n hx hb dX4_cut_36 rfl (lv_at hl 3 rfl) ?_
    refine zz_iadd hx hb dX4_cut_37 ?_
    refine lv_aload_n hx hb dX4_cut_38 rfl (lv_at hl 1 rfl) ?_
    refine va_get (D := D) (ci := 3) (v := .int (zI chl)) (C := RX4) (T := TX4) (N := 4) hx hb hts u_X4_cut_X4 hown hK.1 hP 0 rfl rfl 3 (by decide) (hts _ m_X4_cut_3) (fun _ h9 => h9) rfl dX4_cut_39 ?_
    refine zz_imul hx hb dX4_cut_42 ?_
    refine lv_aload_n hx hb dX4_cut_43 rfl (lv_at hl 1 rfl) ?_
    refine va_get (D := D) (ci := 3) (v := .int (zI chu)) (C := RX4) (T := TX4) (N := 4) hx hb hts u_X4_cut_X4 hown hK.1 hP 0 rfl rfl 2 (by decide) (hts _ m_X4_cut_4) (fun _ h9 => h9) rfl dX4_cut_44 ?_
    refine lv_iload_n hx hb dX4_cut_47 rfl (lv_at hl 4 rfl) ?_
    refine zz_imul hx hb dX4_cut_48 ?_
    refine zz_icmp_ge (tgt := 67) hx hb dX4_cut_49 (by decide) hf (fun hc hf => ?_) (fun hc hf => ?_)
    · refine lv_aload_n hx hb dX4_cut_52 rfl (lv_at hl 1 rfl) ?_
      refine lv_iload_n hx hb dX4_cut_53 rfl (lv_at hl 2 rfl) ?_
      refine lv_iload_n hx hb dX4_cut_54 rfl (lv_at hl 3 rfl) ?_
      refine zz_iadd hx hb dX4_cut_55 ?_
      refine va_put (D := D) (ci := 3) (v := .int (zI (p1 + p2))) (ty := .int) (C := RX4) (T := TX4) (N := 4) hx hb hts u_X4_cut_X4 tyX4 tyX4_ok nmX4 hown hK.1 hP hD hS 0 rfl rfl 2 (by decide) (hts _ m_X4_cut_4) (fun _ h9 => h9) rfl (tyX4_ok 2 (by decide)) rfl rfl (Nat.le_of_ble_eq_true rfl) dX4_cut_56 (fun H locs hP hD hS => ?_)
      have hP : va_P D vwCl [eO cO 3 [.int (zI clu), .int (zI cll), .int (zI (p1 + p2)), .int (zI chl)]] H := hP
      have hD : va_D A [eO cO 3 [.int (zI clu), .int (zI cll), .int (zI (p1 + p2)), .int (zI chl)]] := hD
      refine lv_aload_n hx hb dX4_cut_59 rfl (lv_at hl 1 rfl) ?_
      refine lv_iload_n hx hb dX4_cut_60 rfl (lv_at hl 4 rfl) ?_
      refine va_put (D := D) (ci := 3) (v := .int (zI p3)) (ty := .int) (C := RX4) (T := TX4) (N := 4) hx hb hts u_X4_cut_X4 tyX4 tyX4_ok nmX4 hown hK.1 hP hD hS 0 rfl rfl 3 (by decide) (hts _ m_X4_cut_3) (fun _ h9 => h9) rfl (tyX4_ok 3 (by decide)) rfl rfl (Nat.le_of_ble_eq_true rfl) dX4_cut_61 (fun H locs hP hD hS => ?_)
      have hP : va_P D vwCl [eO cO 3 [.int (zI clu), .int (zI cll), .int (zI (p1 + p2)), .int (zI p3)]] H := hP
      have hD : va_D A [eO cO 3 [.int (zI clu), .int (zI cll), .int (zI (p1 + p2)), .int (zI p3)]] := hD
      refine lv_iconst (v := zI 1) hx hb dX4_cut_64 rfl ?_
      refine lv_istore (lv' := [(4, .int (zI 1)), (0, .ref cO), (1, .int (zI p1)), (2, .int (zI p2)), (3, .int (zI p3))]) hx hb dX4_cut_65 hl (by decide) rfl (fun ls hl => ?_)
      refine lv_iload hx hb dX4_cut_67 (lv_at hl 0 rfl) ?_
      have hf := zq_some hf
      cases hf
      exact W.zret hx hb hr rfl (fun t ht hW => ⟨⟨_, (), rfl, rfl, by rw [ht]; exact hP, hD⟩, hS.F ht⟩) hS.2.2 dX4_cut_69
    · refine lv_iload hx hb dX4_cut_67 (lv_at hl 0 rfl) ?_
      have hf := zq_some hf
      cases hf
      exact W.zret hx hb hr rfl (fun t ht hW => ⟨⟨_, (), rfl, rfl, by rw [ht]; exact hP, hD⟩, hS.F ht⟩) hS.2.2 dX4_cut_69
  · refine lv_aload_n hx hb dX4_cut_20 rfl (lv_at hl 1 rfl) ?_
    refine lv_iload_n hx hb dX4_cut_21 rfl (lv_at hl 2 rfl) ?_
    refine lv_iload_n hx hb dX4_cut_22 rfl (lv_at hl 3 rfl) ?_
    refine zz_isub hx hb dX4_cut_23 ?_
    refine va_put (D := D) (ci := 3) (v := .int (zI (p1 - p2))) (ty := .int) (C := RX4) (T := TX4) (N := 4) hx hb hts u_X4_cut_X4 tyX4 tyX4_ok nmX4 hown hK.1 hP hD hS 0 rfl rfl 0 (by decide) (hts _ m_X4_cut_2) (fun _ h9 => h9) rfl (tyX4_ok 0 (by decide)) rfl rfl (Nat.le_of_ble_eq_true rfl) dX4_cut_24 (fun H locs hP hD hS => ?_)
    have hP : va_P D vwCl [eO cO 3 [.int (zI (p1 - p2)), .int (zI cll), .int (zI chu), .int (zI chl)]] H := hP
    have hD : va_D A [eO cO 3 [.int (zI (p1 - p2)), .int (zI cll), .int (zI chu), .int (zI chl)]] := hD
    refine lv_aload_n hx hb dX4_cut_27 rfl (lv_at hl 1 rfl) ?_
    refine lv_iload_n hx hb dX4_cut_28 rfl (lv_at hl 4 rfl) ?_
    refine va_put (D := D) (ci := 3) (v := .int (zI p3)) (ty := .int) (C := RX4) (T := TX4) (N := 4) hx hb hts u_X4_cut_X4 tyX4 tyX4_ok nmX4 hown hK.1 hP hD hS 0 rfl rfl 1 (by decide) (hts _ m_X4_cut_1) (fun _ h9 => h9) rfl (tyX4_ok 1 (by decide)) rfl rfl (Nat.le_of_ble_eq_true rfl) dX4_cut_29 (fun H locs hP hD hS => ?_)
    have hP : va_P D vwCl [eO cO 3 [.int (zI (p1 - p2)), .int (zI p3), .int (zI chu), .int (zI chl)]] H := hP
    have hD : va_D A [eO cO 3 [.int (zI (p1 - p2)), .int (zI p3), .int (zI chu), .int (zI chl)]] := hD
    refine lv_iconst (v := zI 1) hx hb dX4_cut_32 rfl ?_
    refine lv_istore (lv' := [(4, .int (zI 1)), (0, .ref cO), (1, .int (zI p1)), (2, .int (zI p2)), (3, .int (zI p3))]) hx hb dX4_cut_33 hl (by decide) rfl (fun ls hl => ?_)
    refine lv_iload_n hx hb dX4_cut_35 rfl (lv_at hl 2 rfl) ?_
    refine lv_iload_n hx hb dX4_cut_36 rfl (lv_at hl 3 rfl) ?_
    refine zz_iadd hx hb dX4_cut_37 ?_
    refine lv_aload_n hx hb dX4_cut_38 rfl (lv_at hl 1 rfl) ?_
    refine va_get (D := D) (ci := 3) (v := .int (zI chl)) (C := RX4) (T := TX4) (N := 4) hx hb hts u_X4_cut_X4 hown hK.1 hP 0 rfl rfl 3 (by decide) (hts _ m_X4_cut_3) (fun _ h9 => h9) rfl dX4_cut_39 ?_
    refine zz_imul hx hb dX4_cut_42 ?_
    refine lv_aload_n hx hb dX4_cut_43 rfl (lv_at hl 1 rfl) ?_
    refine va_get (D := D) (ci := 3) (v := .int (zI chu)) (C := RX4) (T := TX4) (N := 4) hx hb hts u_X4_cut_X4 hown hK.1 hP 0 rfl rfl 2 (by decide) (hts _ m_X4_cut_4) (fun _ h9 => h9) rfl dX4_cut_44 ?_
    refine lv_iload_n hx hb dX4_cut_47 rfl (lv_at hl 4 rfl) ?_
    refine zz_imul hx hb dX4_cut_48 ?_
    refine zz_icmp_ge (tgt := 67) hx hb dX4_cut_49 (by decide) hf (fun hc hf => ?_) (fun hc hf => ?_)
    · refine lv_aload_n hx hb dX4_cut_52 rfl (lv_at hl 1 rfl) ?_
      refine lv_iload_n hx hb dX4_cut_53 rfl (lv_at hl 2 rfl) ?_
      refine lv_iload_n hx hb dX4_cut_54 rfl (lv_at hl 3 rfl) ?_
      refine zz_iadd hx hb dX4_cut_55 ?_
      refine va_put (D := D) (ci := 3) (v := .int (zI (p1 + p2))) (ty := .int) (C := RX4) (T := TX4) (N := 4) hx hb hts u_X4_cut_X4 tyX4 tyX4_ok nmX4 hown hK.1 hP hD hS 0 rfl rfl 2 (by decide) (hts _ m_X4_cut_4) (fun _ h9 => h9) rfl (tyX4_ok 2 (by decide)) rfl rfl (Nat.le_of_ble_eq_true rfl) dX4_cut_56 (fun H locs hP hD hS => ?_)
      have hP : va_P D vwCl [eO cO 3 [.int (zI (p1 - p2)), .int (zI p3), .int (zI (p1 + p2)), .int (zI chl)]] H := hP
      have hD : va_D A [eO cO 3 [.int (zI (p1 - p2)), .int (zI p3), .int (zI (p1 + p2)), .int (zI chl)]] := hD
      refine lv_aload_n hx hb dX4_cut_59 rfl (lv_at hl 1 rfl) ?_
      refine lv_iload_n hx hb dX4_cut_60 rfl (lv_at hl 4 rfl) ?_
      refine va_put (D := D) (ci := 3) (v := .int (zI p3)) (ty := .int) (C := RX4) (T := TX4) (N := 4) hx hb hts u_X4_cut_X4 tyX4 tyX4_ok nmX4 hown hK.1 hP hD hS 0 rfl rfl 3 (by decide) (hts _ m_X4_cut_3) (fun _ h9 => h9) rfl (tyX4_ok 3 (by decide)) rfl rfl (Nat.le_of_ble_eq_true rfl) dX4_cut_61 (fun H locs hP hD hS => ?_)
      have hP : va_P D vwCl [eO cO 3 [.int (zI (p1 - p2)), .int (zI p3), .int (zI (p1 + p2)), .int (zI p3)]] H := hP
      have hD : va_D A [eO cO 3 [.int (zI (p1 - p2)), .int (zI p3), .int (zI (p1 + p2)), .int (zI p3)]] := hD
      refine lv_iconst (v := zI 1) hx hb dX4_cut_64 rfl ?_
      refine lv_istore (lv' := [(4, .int (zI 1)), (0, .ref cO), (1, .int (zI p1)), (2, .int (zI p2)), (3, .int (zI p3))]) hx hb dX4_cut_65 hl (by decide) rfl (fun ls hl => ?_)
      refine lv_iload hx hb dX4_cut_67 (lv_at hl 0 rfl) ?_
      have hf := zq_some hf
      cases hf
      exact W.zret hx hb hr rfl (fun t ht hW => ⟨⟨_, (), rfl, rfl, by rw [ht]; exact hP, hD⟩, hS.F ht⟩) hS.2.2 dX4_cut_69
    · refine lv_iload hx hb dX4_cut_67 (lv_at hl 0 rfl) ?_
      have hf := zq_some hf
      cases hf
      exact W.zret hx hb hr rfl (fun t ht hW => ⟨⟨_, (), rfl, rfl, by rw [ht]; exact hP, hD⟩, hS.F ht⟩) hS.2.2 dX4_cut_69

noncomputable def f_X4_leastTurns (p1 : Int) (p2 : Int) (chu : Int) (chl : Int) : Option (Int) :=
  gd (zR p1 ∧ zR p2) <|
  if p1 ≤ p2 then
    some 0
  else
    gd (zR chu) <|
    if chu ≤ 0 then
      some 0
    else
      gd (zR ((((p1 - p2) * chl) + chu) - 1) ∧ zR chu ∧ chu ≠ 0) <|
      some (Int.tdiv ((((p1 - p2) * chl) + chu) - 1) chu)
theorem m_X4_leastTurns_1 : (.fieldLink RX4 18 "PulseTurns$Periods" "highUpper" "I" : Cond) ∈ wsX4_leastTurns := List.mem_of_getElem? (i := 1) rfl
theorem m_X4_leastTurns_2 : (.fieldLink RX4 21 "PulseTurns$Periods" "highLower" "I" : Cond) ∈ wsX4_leastTurns := List.mem_of_getElem? (i := 2) rfl
theorem u_X4_leastTurns_X4 : ∀ w ∈ wsX40, w ∈ wsX4_leastTurns := fun w h => List.mem_cons_of_mem _ (List.mem_append_right _ h)
set_option maxRecDepth 100000 in
set_option maxHeartbeats 4000000 in
theorem c_X4_leastTurns (l : Launch) (D : va_G) (cy : Nat → ClassId) (cO : Nat) (sz : Nat) (p1 : Int) (p2 : Int) (clu : Int) (cll : Int) (chu : Int) (chl : Int) {r : Int} (hf : f_X4_leastTurns p1 p2 chu chl = some r) : zMi l yX4_leastTurns wsX4_leastTurns ({ frames := 0, cells := 0, slots := 0, locals := 0 }) D cy sz [.ref cO, .int (zI p1), .int (zI p2)] [eO cO 3 [.int (zI clu), .int (zI cll), .int (zI chu), .int (zI chl)]] [eO cO 3 [.int (zI clu), .int (zI cll), .int (zI chu), .int (zI chl)]] (zI r) := by
  refine Met.ofW (cc := cX4_leastTurns) (maxL := 3) (ret := (some .int)) (by decide) rfl ?_
  intro p e s m args below meth c s₁ B hml hv
  obtain ⟨rfl, hsz, hP, hK, hD0⟩ := hv
  have hx := B.exec
  have hb := B.bytes
  have hr := B.returns
  have hts := atoms_spec (ws := wsX4_leastTurns) B.pre
  have hown : s.vm.findClass RX4 = some m.cls := findClass_of_methodNamed B.named
  have hlocks := B.notSynchronized
  subst hsz
  have hD := hD0.self (sz := s.heap.size)
  generalize hAe : va_A [eO cO 3 [.int (zI clu), .int (zI cll), .int (zI chu), .int (zI chl)]] s.heap.size = A at hD ⊢
  have hA : ∀ q : Nat, s.heap.size ≤ q → A q := fun q h => by rw [← hAe]; exact Or.inr h
  have hS : va_S A s.heap s.heap [] := va_S.rf
  have hl := lv_entry ([.ref cO, .int (zI p1), .int (zI p2)]) (n := 3) (Nat.le_of_ble_eq_true rfl)
  rw [lg_entry_eq]
  generalize (lg_sl ([.ref cO, .int (zI p1), .int (zI p2)]) ++ List.replicate (3 - (lg_sl ([.ref cO, .int (zI p1), .int (zI p2)])).length) Slot.unset).toArray = ls at hl ⊢
  have hl : lv_has ls 3 [(0, .ref cO), (1, .int (zI p1)), (2, .int (zI p2))] := hl
  have hf := zq_of hf
  unfold f_X4_leastTurns at hf
  refine lv_iload_n hx hb dX4_leastTurns_0 rfl (lv_at hl 1 rfl) ?_
  refine lv_iload_n hx hb dX4_leastTurns_1 rfl (lv_at hl 2 rfl) ?_
  refine zz_icmp_le (tgt := 12) hx hb dX4_leastTurns_2 (by decide) hf (fun hc hf => ?_) (fun hc hf => ?_)
  · refine lv_iconst (v := zI 0) hx hb dX4_leastTurns_12 rfl ?_
    have hf := zq_some hf
    cases hf
    exact W.iret hx hb hr (fun t ht hW => ⟨⟨_, (), rfl, rfl, by rw [ht]; exact hP, hD⟩, hS.F ht⟩) hS.2.2 dX4_leastTurns_13
  · refine lv_aload_n hx hb dX4_leastTurns_5 rfl (lv_at hl 0 rfl) ?_
    refine va_get (D := D) (ci := 3) (v := .int (zI chu)) (C := RX4) (T := TX4) (N := 4) hx hb hts u_X4_leastTurns_X4 hown hK.1 hP 0 rfl rfl 2 (by decide) (hts _ m_X4_leastTurns_1) (fun _ h9 => h9) rfl dX4_leastTurns_6 ?_
    refine zz_if_gt (tgt := 14) hx hb dX4_leastTurns_9 (by decide) hf (fun hc hf => ?_) (fun hc hf => ?_)
    · refine lv_iconst (v := zI 0) hx hb dX4_leastTurns_12 rfl ?_
      have hf := zq_some hf
      cases hf
      exact W.iret hx hb hr (fun t ht hW => ⟨⟨_, (), rfl, rfl, by rw [ht]; exact hP, hD⟩, hS.F ht⟩) hS.2.2 dX4_leastTurns_13
    · refine lv_iload_n hx hb dX4_leastTurns_14 rfl (lv_at hl 1 rfl) ?_
      refine lv_iload_n hx hb dX4_leastTurns_15 rfl (lv_at hl 2 rfl) ?_
      refine zz_isub hx hb dX4_leastTurns_16 ?_
      refine lv_aload_n hx hb dX4_leastTurns_17 rfl (lv_at hl 0 rfl) ?_
      refine va_get (D := D) (ci := 3) (v := .int (zI chl)) (C := RX4) (T := TX4) (N := 4) hx hb hts u_X4_leastTurns_X4 hown hK.1 hP 0 rfl rfl 3 (by decide) (hts _ m_X4_leastTurns_2) (fun _ h9 => h9) rfl dX4_leastTurns_18 ?_
      refine zz_imul hx hb dX4_leastTurns_21 ?_
      refine lv_aload_n hx hb dX4_leastTurns_22 rfl (lv_at hl 0 rfl) ?_
      refine va_get (D := D) (ci := 3) (v := .int (zI chu)) (C := RX4) (T := TX4) (N := 4) hx hb hts u_X4_leastTurns_X4 hown hK.1 hP 0 rfl rfl 2 (by decide) (hts _ m_X4_leastTurns_1) (fun _ h9 => h9) rfl dX4_leastTurns_23 ?_
      refine zz_iadd hx hb dX4_leastTurns_26 ?_
      refine lv_iconst (v := zI 1) hx hb dX4_leastTurns_27 rfl ?_
      refine zz_isub hx hb dX4_leastTurns_28 ?_
      refine lv_aload_n hx hb dX4_leastTurns_29 rfl (lv_at hl 0 rfl) ?_
      refine va_get (D := D) (ci := 3) (v := .int (zI chu)) (C := RX4) (T := TX4) (N := 4) hx hb hts u_X4_leastTurns_X4 hown hK.1 hP 0 rfl rfl 2 (by decide) (hts _ m_X4_leastTurns_1) (fun _ h9 => h9) rfl dX4_leastTurns_30 ?_
      obtain ⟨hg, hf⟩ := zq_gd hf
      refine zz_idiv hx hb hg dX4_leastTurns_33 ?_
      have hf := zq_some hf
      cases hf
      exact W.iret hx hb hr (fun t ht hW => ⟨⟨_, (), rfl, rfl, by rw [ht]; exact hP, hD⟩, hS.F ht⟩) hS.2.2 dX4_leastTurns_34

noncomputable def f_X4_greatestTurns (p1 : Int) (p2 : Int) (clu : Int) (cll : Int) : Option (Int) :=
  gd (zR clu) <|
  if clu ≤ 0 then
    some 0
  else
    gd (zR ((p1 + p2) * cll) ∧ zR clu ∧ clu ≠ 0) <|
    some (Int.tdiv ((p1 + p2) * cll) clu)
theorem m_X4_greatestTurns_1 : (.fieldLink RX4 9 "PulseTurns$Periods" "lowUpper" "I" : Cond) ∈ wsX4_greatestTurns := List.mem_of_getElem? (i := 1) rfl
theorem m_X4_greatestTurns_2 : (.fieldLink RX4 15 "PulseTurns$Periods" "lowLower" "I" : Cond) ∈ wsX4_greatestTurns := List.mem_of_getElem? (i := 2) rfl
theorem u_X4_greatestTurns_X4 : ∀ w ∈ wsX40, w ∈ wsX4_greatestTurns := fun w h => List.mem_cons_of_mem _ (List.mem_append_right _ h)
set_option maxRecDepth 100000 in
set_option maxHeartbeats 4000000 in
theorem c_X4_greatestTurns (l : Launch) (D : va_G) (cy : Nat → ClassId) (cO : Nat) (sz : Nat) (p1 : Int) (p2 : Int) (clu : Int) (cll : Int) (chu : Int) (chl : Int) {r : Int} (hf : f_X4_greatestTurns p1 p2 clu cll = some r) : zMi l yX4_greatestTurns wsX4_greatestTurns ({ frames := 0, cells := 0, slots := 0, locals := 0 }) D cy sz [.ref cO, .int (zI p1), .int (zI p2)] [eO cO 3 [.int (zI clu), .int (zI cll), .int (zI chu), .int (zI chl)]] [eO cO 3 [.int (zI clu), .int (zI cll), .int (zI chu), .int (zI chl)]] (zI r) := by
  refine Met.ofW (cc := cX4_greatestTurns) (maxL := 3) (ret := (some .int)) (by decide) rfl ?_
  intro p e s m args below meth c s₁ B hml hv
  obtain ⟨rfl, hsz, hP, hK, hD0⟩ := hv
  have hx := B.exec
  have hb := B.bytes
  have hr := B.returns
  have hts := atoms_spec (ws := wsX4_greatestTurns) B.pre
  have hown : s.vm.findClass RX4 = some m.cls := findClass_of_methodNamed B.named
  have hlocks := B.notSynchronized
  subst hsz
  have hD := hD0.self (sz := s.heap.size)
  generalize hAe : va_A [eO cO 3 [.int (zI clu), .int (zI cll), .int (zI chu), .int (zI chl)]] s.heap.size = A at hD ⊢
  have hA : ∀ q : Nat, s.heap.size ≤ q → A q := fun q h => by rw [← hAe]; exact Or.inr h
  have hS : va_S A s.heap s.heap [] := va_S.rf
  have hl := lv_entry ([.ref cO, .int (zI p1), .int (zI p2)]) (n := 3) (Nat.le_of_ble_eq_true rfl)
  rw [lg_entry_eq]
  generalize (lg_sl ([.ref cO, .int (zI p1), .int (zI p2)]) ++ List.replicate (3 - (lg_sl ([.ref cO, .int (zI p1), .int (zI p2)])).length) Slot.unset).toArray = ls at hl ⊢
  have hl : lv_has ls 3 [(0, .ref cO), (1, .int (zI p1)), (2, .int (zI p2))] := hl
  have hf := zq_of hf
  unfold f_X4_greatestTurns at hf
  refine lv_aload_n hx hb dX4_greatestTurns_0 rfl (lv_at hl 0 rfl) ?_
  refine va_get (D := D) (ci := 3) (v := .int (zI clu)) (C := RX4) (T := TX4) (N := 4) hx hb hts u_X4_greatestTurns_X4 hown hK.1 hP 0 rfl rfl 0 (by decide) (hts _ m_X4_greatestTurns_1) (fun _ h9 => h9) rfl dX4_greatestTurns_1 ?_
  refine zz_if_gt (tgt := 9) hx hb dX4_greatestTurns_4 (by decide) hf (fun hc hf => ?_) (fun hc hf => ?_)
  · refine lv_iconst (v := zI 0) hx hb dX4_greatestTurns_7 rfl ?_
    have hf := zq_some hf
    cases hf
    exact W.iret hx hb hr (fun t ht hW => ⟨⟨_, (), rfl, rfl, by rw [ht]; exact hP, hD⟩, hS.F ht⟩) hS.2.2 dX4_greatestTurns_8
  · refine lv_iload_n hx hb dX4_greatestTurns_9 rfl (lv_at hl 1 rfl) ?_
    refine lv_iload_n hx hb dX4_greatestTurns_10 rfl (lv_at hl 2 rfl) ?_
    refine zz_iadd hx hb dX4_greatestTurns_11 ?_
    refine lv_aload_n hx hb dX4_greatestTurns_12 rfl (lv_at hl 0 rfl) ?_
    refine va_get (D := D) (ci := 3) (v := .int (zI cll)) (C := RX4) (T := TX4) (N := 4) hx hb hts u_X4_greatestTurns_X4 hown hK.1 hP 0 rfl rfl 1 (by decide) (hts _ m_X4_greatestTurns_2) (fun _ h9 => h9) rfl dX4_greatestTurns_13 ?_
    refine zz_imul hx hb dX4_greatestTurns_16 ?_
    refine lv_aload_n hx hb dX4_greatestTurns_17 rfl (lv_at hl 0 rfl) ?_
    refine va_get (D := D) (ci := 3) (v := .int (zI clu)) (C := RX4) (T := TX4) (N := 4) hx hb hts u_X4_greatestTurns_X4 hown hK.1 hP 0 rfl rfl 0 (by decide) (hts _ m_X4_greatestTurns_1) (fun _ h9 => h9) rfl dX4_greatestTurns_18 ?_
    obtain ⟨hg, hf⟩ := zq_gd hf
    refine zz_idiv hx hb hg dX4_greatestTurns_21 ?_
    have hf := zq_some hf
    cases hf
    exact W.iret hx hb hr (fun t ht hW => ⟨⟨_, (), rfl, rfl, by rw [ht]; exact hP, hD⟩, hS.F ht⟩) hS.2.2 dX4_greatestTurns_22

noncomputable def f_X4_leastCount (p2 : Int) (p3 : Int) (chu : Int) (chl : Int) (asl : Int) (aT : Nat → Int) : Option (Int) :=
  gd (zin p3 7) <|
  gd (zin p2 7) <|
  zlt ((aT (Int.toNat p3)) - (aT (Int.toNat p2))) fun v13 =>
  (f_X4_leastTurns v13 (2 * asl) chu chl).bind fun r27 =>
  gd (zR (p3 - p2) ∧ zR r27) <|
  some (max (p3 - p2) r27)
theorem m_X4_leastCount_1 : (.fieldLink RX4 24 "PulseTurns$Hearing" "times" "[I" : Cond) ∈ wsX4_leastCount := List.mem_of_getElem? (i := 1) rfl
theorem m_X4_leastCount_2 : (.fieldLink RX4 30 "PulseTurns$Hearing" "slack" "I" : Cond) ∈ wsX4_leastCount := List.mem_of_getElem? (i := 2) rfl
theorem m_X4_leastCount_3 : (.methodLink RX4 37 Lib.Math.max.name : Cond) ∈ wsX4_leastCount := List.mem_of_getElem? (i := 3) rfl
theorem m_X4_leastCount_4 : (.static Lib.Math.max.name : Cond) ∈ wsX4_leastCount := List.mem_of_getElem? (i := 4) rfl
theorem m_X4_leastCount_5 : (.initialized "java/lang/Math" : Cond) ∈ wsX4_leastCount := List.mem_of_getElem? (i := 5) rfl
theorem m_X4_leastCount_6 : (.code Lib.Math.max.name Lib.Math.max.code 2 (some .int) : Cond) ∈ wsX4_leastCount := List.mem_of_getElem? (i := 6) rfl
theorem u_X4_leastCount_X1 : ∀ w ∈ wsX10, w ∈ wsX4_leastCount := fun w h => List.mem_cons_of_mem _ (List.mem_append_left _ (List.mem_append_right _ h))
set_option maxRecDepth 100000 in
set_option maxHeartbeats 4000000 in
theorem c_X4_leastCount (l : Launch) (D : va_G) (cy : Nat → ClassId) (cO aO aQ : Nat) (sz : Nat) (p2 : Int) (p3 : Int) (clu : Int) (cll : Int) (chu : Int) (chl : Int) (az : Int) (alo : Int) (ahi : Int) (asl : Int) (aT : Nat → Int) {r : Int} (hf : f_X4_leastCount p2 p3 chu chl asl aT = some r) : zMi l yX4_leastCount wsX4_leastCount ({ frames := 1, cells := 0, slots := 0, locals := 22 }) D cy sz [.ref cO, .ref aO, .int (zI p2), .int (zI p3)] [eO cO 3 [.int (zI clu), .int (zI cll), .int (zI chu), .int (zI chl)], eO aO 0 [.ref aQ, .int (zI az), .int (zI alo), .int (zI ahi), .int (zI asl)], eA aQ (cy 0) 7 aT] [eO cO 3 [.int (zI clu), .int (zI cll), .int (zI chu), .int (zI chl)], eO aO 0 [.ref aQ, .int (zI az), .int (zI alo), .int (zI ahi), .int (zI asl)], eA aQ (cy 0) 7 aT] (zI r) := by
  refine Met.ofW (cc := cX4_leastCount) (maxL := 5) (ret := (some .int)) (by decide) rfl ?_
  intro p e s m args below meth c s₁ B hml hv
  obtain ⟨rfl, hsz, hP, hK, hD0⟩ := hv
  have hx := B.exec
  have hb := B.bytes
  have hr := B.returns
  have hts := atoms_spec (ws := wsX4_leastCount) B.pre
  have hown : s.vm.findClass RX4 = some m.cls := findClass_of_methodNamed B.named
  have hlocks := B.notSynchronized
  subst hsz
  have hD := hD0.self (sz := s.heap.size)
  generalize hAe : va_A [eO cO 3 [.int (zI clu), .int (zI cll), .int (zI chu), .int (zI chl)], eO aO 0 [.ref aQ, .int (zI az), .int (zI alo), .int (zI ahi), .int (zI asl)], eA aQ (cy 0) 7 aT] s.heap.size = A at hD ⊢
  have hA : ∀ q : Nat, s.heap.size ≤ q → A q := fun q h => by rw [← hAe]; exact Or.inr h
  have hS : va_S A s.heap s.heap [] := va_S.rf
  have hl := lv_entry ([.ref cO, .ref aO, .int (zI p2), .int (zI p3)]) (n := 5) (Nat.le_of_ble_eq_true rfl)
  rw [lg_entry_eq]
  generalize (lg_sl ([.ref cO, .ref aO, .int (zI p2), .int (zI p3)]) ++ List.replicate (5 - (lg_sl ([.ref cO, .ref aO, .int (zI p2), .int (zI p3)])).length) Slot.unset).toArray = ls at hl ⊢
  have hl : lv_has ls 5 [(0, .ref cO), (1, .ref aO), (2, .int (zI p2)), (3, .int (zI p3))] := hl
  have hf := zq_of hf
  unfold f_X4_leastCount at hf
  refine lv_aload_n hx hb dX4_leastCount_0 rfl (lv_at hl 1 rfl) ?_
  refine va_get (D := D) (ci := 0) (v := .ref aQ) (C := RX1) (T := TX1) (N := 5) hx hb hts u_X4_leastCount_X1 hown hK.1 hP 1 rfl rfl 0 (by decide) (hts _ m_X4_leastCount_1) (fun _ h9 => h9) rfl dX4_leastCount_1 ?_
  refine lv_iload_n hx hb dX4_leastCount_4 rfl (lv_at hl 3 rfl) ?_
  obtain ⟨hg, hf⟩ := zq_gd hf
  refine zz_iald (i := p3) hx hb hK hP 2 rfl (Nat.le_of_ble_eq_true rfl) hg dX4_leastCount_5 ?_
  refine lv_aload_n hx hb dX4_leastCount_6 rfl (lv_at hl 1 rfl) ?_
  refine va_get (D := D) (ci := 0) (v := .ref aQ) (C := RX1) (T := TX1) (N := 5) hx hb hts u_X4_leastCount_X1 hown hK.1 hP 1 rfl rfl 0 (by decide) (hts _ m_X4_leastCount_1) (fun _ h9 => h9) rfl dX4_leastCount_7 ?_
  refine lv_iload_n hx hb dX4_leastCount_10 rfl (lv_at hl 2 rfl) ?_
  obtain ⟨hg, hf⟩ := zq_gd hf
  refine zz_iald (i := p2) hx hb hK hP 2 rfl (Nat.le_of_ble_eq_true rfl) hg dX4_leastCount_11 ?_
  refine zz_isub hx hb dX4_leastCount_12 ?_
  obtain ⟨v13, e13, hf⟩ := zq_lt hf
  refine zz_top e13 ?_
  refine lv_istore (lv' := [(4, .int (zI v13)), (0, .ref cO), (1, .ref aO), (2, .int (zI p2)), (3, .int (zI p3))]) hx hb dX4_leastCount_13 hl (by decide) rfl (fun ls hl => ?_)
  refine lv_iload_n hx hb dX4_leastCount_15 rfl (lv_at hl 4 rfl) ?_
  refine lv_iload_n hx hb dX4_leastCount_16 rfl (lv_at hl 3 rfl) ?_
  refine zz_isub hx hb dX4_leastCount_17 ?_
  refine lv_aload_n hx hb dX4_leastCount_18 rfl (lv_at hl 1 rfl) ?_
  refine lv_iload hx hb dX4_leastCount_19 (lv_at hl 0 rfl) ?_
  refine lv_iconst (v := zI 2) hx hb dX4_leastCount_21 rfl ?_
  refine lv_aload_n hx hb dX4_leastCount_22 rfl (lv_at hl 2 rfl) ?_
  refine va_get (D := D) (ci := 0) (v := .int (zI asl)) (C := RX1) (T := TX1) (N := 5) hx hb hts u_X4_leastCount_X1 hown hK.1 hP 1 rfl rfl 4 (by decide) (hts _ m_X4_leastCount_2) (fun _ h9 => h9) rfl dX4_leastCount_23 ?_
  refine zz_imul hx hb dX4_leastCount_26 ?_
  obtain ⟨r27, hc27, hf⟩ := zq_bind hf
  refine zcallVi (wr := [eO aO 0 [.ref aQ, .int (zI az), .int (zI alo), .int (zI ahi), .int (zI asl)], eA aQ (cy 0) 7 aT]) (rest := [.int (zI (p3 - p2))]) ⟨hx, hb, hml, hown, hts⟩ (c_X4_leastTurns l D cy cO s.heap.size v13 (2 * asl) clu cll chu chl hc27) (cwV 2 hts gX4_leastCount_X4_leastTurns rfl rfl rfl (by decide +kernel) ⟨Nat.le_of_ble_eq_true rfl, Nat.le_of_ble_eq_true rfl⟩) hK hP hD hS hA [0] [1, 2] rfl rfl rfl rfl (by decide) (va_recv hK.1 hP (ci := 3) (q0 := 0) rfl rfl) rfl hl.1 rfl (Nat.le_of_ble_eq_true rfl) dX4_leastCount_27 ⟨Nat.zero_le _, Nat.zero_le _⟩ (fun H locs hP hD hS => ?_)
  have hP : va_P D vwCl [eO cO 3 [.int (zI clu), .int (zI cll), .int (zI chu), .int (zI chl)], eO aO 0 [.ref aQ, .int (zI az), .int (zI alo), .int (zI ahi), .int (zI asl)], eA aQ (cy 0) 7 aT] H := hP.sub [2, 0, 1] rfl
  have hD : va_D A [eO cO 3 [.int (zI clu), .int (zI cll), .int (zI chu), .int (zI chl)], eO aO 0 [.ref aQ, .int (zI az), .int (zI alo), .int (zI ahi), .int (zI asl)], eA aQ (cy 0) 7 aT] := hD.sub [2, 0, 1] rfl rfl
  obtain ⟨hg, hf⟩ := zq_gd hf
  refine zz_max hx hb (hml.trans hl.1.symm) hown (hts _ m_X4_leastCount_3) (hts _ m_X4_leastCount_4) (hts _ m_X4_leastCount_5) (hts _ m_X4_leastCount_6) (Nat.le_of_ble_eq_true rfl) (Nat.le_of_ble_eq_true rfl) (Nat.le_of_ble_eq_true rfl) (Nat.le_of_ble_eq_true rfl) hg dX4_leastCount_30 ?_
  have hf := zq_some hf
  cases hf
  exact W.iret hx hb hr (fun t ht hW => ⟨⟨_, (), rfl, rfl, by rw [ht]; exact hP, hD⟩, hS.F ht⟩) hS.2.2 dX4_leastCount_33

noncomputable def f_X4_greatestCount (p2 : Int) (p3 : Int) (clu : Int) (cll : Int) (asl : Int) (aT : Nat → Int) : Option (Int) :=
  gd (zin p3 7) <|
  gd (zin p2 7) <|
  (f_X4_greatestTurns ((aT (Int.toNat p3)) - (aT (Int.toNat p2))) (2 * asl) clu cll).bind fun r20 =>
  some r20
theorem m_X4_greatestCount_1 : (.fieldLink RX4 24 "PulseTurns$Hearing" "times" "[I" : Cond) ∈ wsX4_greatestCount := List.mem_of_getElem? (i := 1) rfl
theorem m_X4_greatestCount_2 : (.fieldLink RX4 30 "PulseTurns$Hearing" "slack" "I" : Cond) ∈ wsX4_greatestCount := List.mem_of_getElem? (i := 2) rfl
theorem u_X4_greatestCount_X1 : ∀ w ∈ wsX10, w ∈ wsX4_greatestCount := fun w h => List.mem_cons_of_mem _ (List.mem_append_left _ (List.mem_append_right _ h))
set_option maxRecDepth 100000 in
set_option maxHeartbeats 4000000 in
theorem c_X4_greatestCount (l : Launch) (D : va_G) (cy : Nat → ClassId) (cO aO aQ : Nat) (sz : Nat) (p2 : Int) (p3 : Int) (clu : Int) (cll : Int) (chu : Int) (chl : Int) (az : Int) (alo : Int) (ahi : Int) (asl : Int) (aT : Nat → Int) {r : Int} (hf : f_X4_greatestCount p2 p3 clu cll asl aT = some r) : zMi l yX4_greatestCount wsX4_greatestCount ({ frames := 1, cells := 0, slots := 0, locals := 22 }) D cy sz [.ref cO, .ref aO, .int (zI p2), .int (zI p3)] [eO cO 3 [.int (zI clu), .int (zI cll), .int (zI chu), .int (zI chl)], eO aO 0 [.ref aQ, .int (zI az), .int (zI alo), .int (zI ahi), .int (zI asl)], eA aQ (cy 0) 7 aT] [eO cO 3 [.int (zI clu), .int (zI cll), .int (zI chu), .int (zI chl)], eO aO 0 [.ref aQ, .int (zI az), .int (zI alo), .int (zI ahi), .int (zI asl)], eA aQ (cy 0) 7 aT] (zI r) := by
  refine Met.ofW (cc := cX4_greatestCount) (maxL := 4) (ret := (some .int)) (by decide) rfl ?_
  intro p e s m args below meth c s₁ B hml hv
  obtain ⟨rfl, hsz, hP, hK, hD0⟩ := hv
  have hx := B.exec
  have hb := B.bytes
  have hr := B.returns
  have hts := atoms_spec (ws := wsX4_greatestCount) B.pre
  have hown : s.vm.findClass RX4 = some m.cls := findClass_of_methodNamed B.named
  have hlocks := B.notSynchronized
  subst hsz
  have hD := hD0.self (sz := s.heap.size)
  generalize hAe : va_A [eO cO 3 [.int (zI clu), .int (zI cll), .int (zI chu), .int (zI chl)], eO aO 0 [.ref aQ, .int (zI az), .int (zI alo), .int (zI ahi), .int (zI asl)], eA aQ (cy 0) 7 aT] s.heap.size = A at hD ⊢
  have hA : ∀ q : Nat, s.heap.size ≤ q → A q := fun q h => by rw [← hAe]; exact Or.inr h
  have hS : va_S A s.heap s.heap [] := va_S.rf
  have hl := lv_entry ([.ref cO, .ref aO, .int (zI p2), .int (zI p3)]) (n := 4) (Nat.le_of_ble_eq_true rfl)
  rw [lg_entry_eq]
  generalize (lg_sl ([.ref cO, .ref aO, .int (zI p2), .int (zI p3)]) ++ List.replicate (4 - (lg_sl ([.ref cO, .ref aO, .int (zI p2), .int (zI p3)])).length) Slot.unset).toArray = ls at hl ⊢
  have hl : lv_has ls 4 [(0, .ref cO), (1, .ref aO), (2, .int (zI p2)), (3, .int (zI p3))] := hl
  have hf := zq_of hf
  unfold f_X4_greatestCount at hf
  refine lv_aload_n hx hb dX4_greatestCount_0 rfl (lv_at hl 0 rfl) ?_
  refine lv_aload_n hx hb dX4_greatestCount_1 rfl (lv_at hl 1 rfl) ?_
  refine va_get (D := D) (ci := 0) (v := .ref aQ) (C := RX1) (T := TX1) (N := 5) hx hb hts u_X4_greatestCount_X1 hown hK.1 hP 1 rfl rfl 0 (by decide) (hts _ m_X4_greatestCount_1) (fun _ h9 => h9) rfl dX4_greatestCount_2 ?_
  refine lv_iload_n hx hb dX4_greatestCount_5 rfl (lv_at hl 3 rfl) ?_
  obtain ⟨hg, hf⟩ := zq_gd hf
  refine zz_iald (i := p3) hx hb hK hP 2 rfl (Nat.le_of_ble_eq_true rfl) hg dX4_greatestCount_6 ?_
  refine lv_aload_n hx hb dX4_greatestCount_7 rfl (lv_at hl 1 rfl) ?_
  refine va_get (D := D) (ci := 0) (v := .ref aQ) (C := RX1) (T := TX1) (N := 5) hx hb hts u_X4_greatestCount_X1 hown hK.1 hP 1 rfl rfl 0 (by decide) (hts _ m_X4_greatestCount_1) (fun _ h9 => h9) rfl dX4_greatestCount_8 ?_
  refine lv_iload_n hx hb dX4_greatestCount_11 rfl (lv_at hl 2 rfl) ?_
  obtain ⟨hg, hf⟩ := zq_gd hf
  refine zz_iald (i := p2) hx hb hK hP 2 rfl (Nat.le_of_ble_eq_true rfl) hg dX4_greatestCount_12 ?_
  refine zz_isub hx hb dX4_greatestCount_13 ?_
  refine lv_iconst (v := zI 2) hx hb dX4_greatestCount_14 rfl ?_
  refine lv_aload_n hx hb dX4_greatestCount_15 rfl (lv_at hl 1 rfl) ?_
  refine va_get (D := D) (ci := 0) (v := .int (zI asl)) (C := RX1) (T := TX1) (N := 5) hx hb hts u_X4_greatestCount_X1 hown hK.1 hP 1 rfl rfl 4 (by decide) (hts _ m_X4_greatestCount_2) (fun _ h9 => h9) rfl dX4_greatestCount_16 ?_
  refine zz_imul hx hb dX4_greatestCount_19 ?_
  obtain ⟨r20, hc20, hf⟩ := zq_bind hf
  refine zcallVi (wr := [eO aO 0 [.ref aQ, .int (zI az), .int (zI alo), .int (zI ahi), .int (zI asl)], eA aQ (cy 0) 7 aT]) (rest := []) ⟨hx, hb, hml, hown, hts⟩ (c_X4_greatestTurns l D cy cO s.heap.size ((aT (Int.toNat p3)) - (aT (Int.toNat p2))) (2 * asl) clu cll chu chl hc20) (cwV 2 hts gX4_greatestCount_X4_greatestTurns rfl rfl rfl (by decide +kernel) ⟨Nat.le_of_ble_eq_true rfl, Nat.le_of_ble_eq_true rfl⟩) hK hP hD hS hA [0] [1, 2] rfl rfl rfl rfl (by decide) (va_recv hK.1 hP (ci := 3) (q0 := 0) rfl rfl) rfl hl.1 rfl (Nat.le_of_ble_eq_true rfl) dX4_greatestCount_20 ⟨Nat.zero_le _, Nat.zero_le _⟩ (fun H locs hP hD hS => ?_)
  have hP : va_P D vwCl [eO cO 3 [.int (zI clu), .int (zI cll), .int (zI chu), .int (zI chl)], eO aO 0 [.ref aQ, .int (zI az), .int (zI alo), .int (zI ahi), .int (zI asl)], eA aQ (cy 0) 7 aT] H := hP.sub [2, 0, 1] rfl
  have hD : va_D A [eO cO 3 [.int (zI clu), .int (zI cll), .int (zI chu), .int (zI chl)], eO aO 0 [.ref aQ, .int (zI az), .int (zI alo), .int (zI ahi), .int (zI asl)], eA aQ (cy 0) 7 aT] := hD.sub [2, 0, 1] rfl rfl
  have hf := zq_some hf
  cases hf
  exact W.iret hx hb hr (fun t ht hW => ⟨⟨_, (), rfl, rfl, by rw [ht]; exact hP, hD⟩, hS.F ht⟩) hS.2.2 dX4_greatestCount_23

noncomputable def f_X4_cutByTwo (p2 : Int) (p3 : Int) (clu : Int) (cll : Int) (chu : Int) (chl : Int) (asl : Int) (aT : Nat → Int) : Option (Int × Int × Int × Int × Int) :=
  (f_X4_leastCount p2 p3 chu chl asl aT).bind fun r4 =>
  (f_X4_greatestCount p2 p3 clu cll asl aT).bind fun r15 =>
  gd (zR r4 ∧ zR r15) <|
  if r4 = r15 then
    gd (zin p3 7) <|
    gd (zin p2 7) <|
    (f_X4_cut ((aT (Int.toNat p3)) - (aT (Int.toNat p2))) (2 * asl) r4 clu cll chu chl).bind fun (r45, clu_45, cll_45, chu_45, chl_45) =>
    gd (r45 = 0 ∨ r45 = 1) <|
    some (r45, clu_45, cll_45, chu_45, chl_45)
  else
    some (0, clu, cll, chu, chl)
theorem m_X4_cutByTwo_1 : (.fieldLink RX4 24 "PulseTurns$Hearing" "times" "[I" : Cond) ∈ wsX4_cutByTwo := List.mem_of_getElem? (i := 1) rfl
theorem m_X4_cutByTwo_2 : (.fieldLink RX4 30 "PulseTurns$Hearing" "slack" "I" : Cond) ∈ wsX4_cutByTwo := List.mem_of_getElem? (i := 2) rfl
theorem u_X4_cutByTwo_X1 : ∀ w ∈ wsX10, w ∈ wsX4_cutByTwo := fun w h => List.mem_cons_of_mem _ (List.mem_append_left _ (List.mem_append_right _ h))
set_option maxRecDepth 100000 in
set_option maxHeartbeats 4000000 in
theorem c_X4_cutByTwo (l : Launch) (D : va_G) (cy : Nat → ClassId) (cO aO aQ : Nat) (sz : Nat) (p2 : Int) (p3 : Int) (clu : Int) (cll : Int) (chu : Int) (chl : Int) (az : Int) (alo : Int) (ahi : Int) (asl : Int) (aT : Nat → Int) {r : Int} {clu' : Int} {cll' : Int} {chu' : Int} {chl' : Int} (hf : f_X4_cutByTwo p2 p3 clu cll chu chl asl aT = some (r, clu', cll', chu', chl')) : zMi l yX4_cutByTwo wsX4_cutByTwo ({ frames := 2, cells := 0, slots := 0, locals := 46 }) D cy sz [.ref cO, .ref aO, .int (zI p2), .int (zI p3)] [eO cO 3 [.int (zI clu), .int (zI cll), .int (zI chu), .int (zI chl)], eO aO 0 [.ref aQ, .int (zI az), .int (zI alo), .int (zI ahi), .int (zI asl)], eA aQ (cy 0) 7 aT] [eO cO 3 [.int (zI clu'), .int (zI cll'), .int (zI chu'), .int (zI chl')], eO aO 0 [.ref aQ, .int (zI az), .int (zI alo), .int (zI ahi), .int (zI asl)], eA aQ (cy 0) 7 aT] (zI r) := by
  refine Met.ofW (cc := cX4_cutByTwo) (maxL := 5) (ret := (some .boolean)) (by decide) rfl ?_
  intro p e s m args below meth c s₁ B hml hv
  obtain ⟨rfl, hsz, hP, hK, hD0⟩ := hv
  have hx := B.exec
  have hb := B.bytes
  have hr := B.returns
  have hts := atoms_spec (ws := wsX4_cutByTwo) B.pre
  have hown : s.vm.findClass RX4 = some m.cls := findClass_of_methodNamed B.named
  have hlocks := B.notSynchronized
  subst hsz
  have hD := hD0.self (sz := s.heap.size)
  generalize hAe : va_A [eO cO 3 [.int (zI clu), .int (zI cll), .int (zI chu), .int (zI chl)], eO aO 0 [.ref aQ, .int (zI az), .int (zI alo), .int (zI ahi), .int (zI asl)], eA aQ (cy 0) 7 aT] s.heap.size = A at hD ⊢
  have hA : ∀ q : Nat, s.heap.size ≤ q → A q := fun q h => by rw [← hAe]; exact Or.inr h
  have hS : va_S A s.heap s.heap [] := va_S.rf
  have hl := lv_entry ([.ref cO, .ref aO, .int (zI p2), .int (zI p3)]) (n := 5) (Nat.le_of_ble_eq_true rfl)
  rw [lg_entry_eq]
  generalize (lg_sl ([.ref cO, .ref aO, .int (zI p2), .int (zI p3)]) ++ List.replicate (5 - (lg_sl ([.ref cO, .ref aO, .int (zI p2), .int (zI p3)])).length) Slot.unset).toArray = ls at hl ⊢
  have hl : lv_has ls 5 [(0, .ref cO), (1, .ref aO), (2, .int (zI p2)), (3, .int (zI p3))] := hl
  have hf := zq_of hf
  unfold f_X4_cutByTwo at hf
  refine lv_aload_n hx hb dX4_cutByTwo_0 rfl (lv_at hl 0 rfl) ?_
  refine lv_aload_n hx hb dX4_cutByTwo_1 rfl (lv_at hl 1 rfl) ?_
  refine lv_iload_n hx hb dX4_cutByTwo_2 rfl (lv_at hl 2 rfl) ?_
  refine lv_iload_n hx hb dX4_cutByTwo_3 rfl (lv_at hl 3 rfl) ?_
  obtain ⟨r4, hc4, hf⟩ := zq_bind hf
  refine zcallVi (wr := []) (rest := []) ⟨hx, hb, hml, hown, hts⟩ (c_X4_leastCount l D cy cO aO aQ s.heap.size p2 p3 clu cll chu chl az alo ahi asl aT hc4) (cwV 3 hts gX4_cutByTwo_X4_leastCount rfl rfl rfl (by decide +kernel) ⟨Nat.le_of_ble_eq_true rfl, Nat.le_of_ble_eq_true rfl⟩) hK hP hD hS hA [0, 1, 2] [] rfl rfl rfl rfl (by decide) (va_recv hK.1 hP (ci := 3) (q0 := 0) rfl rfl) rfl hl.1 rfl (Nat.le_of_ble_eq_true rfl) dX4_cutByTwo_4 ⟨Nat.zero_le _, Nat.zero_le _⟩ (fun H locs hP hD hS => ?_)
  have hP : va_P D vwCl [eO cO 3 [.int (zI clu), .int (zI cll), .int (zI chu), .int (zI chl)], eO aO 0 [.ref aQ, .int (zI az), .int (zI alo), .int (zI ahi), .int (zI asl)], eA aQ (cy 0) 7 aT] H := hP.sub [0, 1, 2] rfl
  have hD : va_D A [eO cO 3 [.int (zI clu), .int (zI cll), .int (zI chu), .int (zI chl)], eO aO 0 [.ref aQ, .int (zI az), .int (zI alo), .int (zI ahi), .int (zI asl)], eA aQ (cy 0) 7 aT] := hD.sub [0, 1, 2] rfl rfl
  refine lv_istore (lv' := [(4, .int (zI r4)), (0, .ref cO), (1, .ref aO), (2, .int (zI p2)), (3, .int (zI p3))]) hx hb dX4_cutByTwo_7 hl (by decide) rfl (fun ls hl => ?_)
  refine lv_iload hx hb dX4_cutByTwo_9 (lv_at hl 0 rfl) ?_
  refine lv_aload_n hx hb dX4_cutByTwo_11 rfl (lv_at hl 1 rfl) ?_
  refine lv_aload_n hx hb dX4_cutByTwo_12 rfl (lv_at hl 2 rfl) ?_
  refine lv_iload_n hx hb dX4_cutByTwo_13 rfl (lv_at hl 3 rfl) ?_
  refine lv_iload_n hx hb dX4_cutByTwo_14 rfl (lv_at hl 4 rfl) ?_
  obtain ⟨r15, hc15, hf⟩ := zq_bind hf
  refine zcallVi (wr := []) (rest := [.int (zI r4)]) ⟨hx, hb, hml, hown, hts⟩ (c_X4_greatestCount l D cy cO aO aQ H.size p2 p3 clu cll chu chl az alo ahi asl aT hc15) (cwV 3 hts gX4_cutByTwo_X4_greatestCount rfl rfl rfl (by decide +kernel) ⟨Nat.le_of_ble_eq_true rfl, Nat.le_of_ble_eq_true rfl⟩) hK hP hD hS hA [0, 1, 2] [] rfl rfl rfl rfl (by decide) (va_recv hK.1 hP (ci := 3) (q0 := 0) rfl rfl) rfl hl.1 rfl (Nat.le_of_ble_eq_true rfl) dX4_cutByTwo_15 ⟨Nat.zero_le _, Nat.zero_le _⟩ (fun H locs hP hD hS => ?_)
  have hP : va_P D vwCl [eO cO 3 [.int (zI clu), .int (zI cll), .int (zI chu), .int (zI chl)], eO aO 0 [.ref aQ, .int (zI az), .int (zI alo), .int (zI ahi), .int (zI asl)], eA aQ (cy 0) 7 aT] H := hP.sub [0, 1, 2] rfl
  have hD : va_D A [eO cO 3 [.int (zI clu), .int (zI cll), .int (zI chu), .int (zI chl)], eO aO 0 [.ref aQ, .int (zI az), .int (zI alo), .int (zI ahi), .int (zI asl)], eA aQ (cy 0) 7 aT] := hD.sub [0, 1, 2] rfl rfl
  refine zz_icmp_eq (tgt := 23) hx hb dX4_cutByTwo_18 (by decide) hf (fun hc hf => ?_) (fun hc hf => ?_)
  · refine lv_aload_n hx hb dX4_cutByTwo_23 rfl (lv_at hl 1 rfl) ?_
    refine lv_aload_n hx hb dX4_cutByTwo_24 rfl (lv_at hl 2 rfl) ?_
    refine va_get (D := D) (ci := 0) (v := .ref aQ) (C := RX1) (T := TX1) (N := 5) hx hb hts u_X4_cutByTwo_X1 hown hK.1 hP 1 rfl rfl 0 (by decide) (hts _ m_X4_cutByTwo_1) (fun _ h9 => h9) rfl dX4_cutByTwo_25 ?_
    refine lv_iload_n hx hb dX4_cutByTwo_28 rfl (lv_at hl 4 rfl) ?_
    obtain ⟨hg, hf⟩ := zq_gd hf
    refine zz_iald (i := p3) hx hb hK hP 2 rfl (Nat.le_of_ble_eq_true rfl) hg dX4_cutByTwo_29 ?_
    refine lv_aload_n hx hb dX4_cutByTwo_30 rfl (lv_at hl 2 rfl) ?_
    refine va_get (D := D) (ci := 0) (v := .ref aQ) (C := RX1) (T := TX1) (N := 5) hx hb hts u_X4_cutByTwo_X1 hown hK.1 hP 1 rfl rfl 0 (by decide) (hts _ m_X4_cutByTwo_1) (fun _ h9 => h9) rfl dX4_cutByTwo_31 ?_
    refine lv_iload_n hx hb dX4_cutByTwo_34 rfl (lv_at hl 3 rfl) ?_
    obtain ⟨hg, hf⟩ := zq_gd hf
    refine zz_iald (i := p2) hx hb hK hP 2 rfl (Nat.le_of_ble_eq_true rfl) hg dX4_cutByTwo_35 ?_
    refine zz_isub hx hb dX4_cutByTwo_36 ?_
    refine lv_iconst (v := zI 2) hx hb dX4_cutByTwo_37 rfl ?_
    refine lv_aload_n hx hb dX4_cutByTwo_38 rfl (lv_at hl 2 rfl) ?_
    refine va_get (D := D) (ci := 0) (v := .int (zI asl)) (C := RX1) (T := TX1) (N := 5) hx hb hts u_X4_cutByTwo_X1 hown hK.1 hP 1 rfl rfl 4 (by decide) (hts _ m_X4_cutByTwo_2) (fun _ h9 => h9) rfl dX4_cutByTwo_39 ?_
    refine zz_imul hx hb dX4_cutByTwo_42 ?_
    refine lv_iload hx hb dX4_cutByTwo_43 (lv_at hl 0 rfl) ?_
    obtain ⟨⟨r45, clu_45, cll_45, chu_45, chl_45⟩, hc45, hf⟩ := zq_bind hf
    refine zcallVi (wr := [eO aO 0 [.ref aQ, .int (zI az), .int (zI alo), .int (zI ahi), .int (zI asl)], eA aQ (cy 0) 7 aT]) (rest := []) ⟨hx, hb, hml, hown, hts⟩ (c_X4_cut l D cy cO H.size ((aT (Int.toNat p3)) - (aT (Int.toNat p2))) (2 * asl) r4 clu cll chu chl hc45) (cwV 3 hts gX4_cutByTwo_X4_cut rfl rfl rfl (by decide +kernel) ⟨Nat.le_of_ble_eq_true rfl, Nat.le_of_ble_eq_true rfl⟩) hK hP hD hS hA [0] [1, 2] rfl rfl rfl rfl (by decide) (va_recv hK.1 hP (ci := 3) (q0 := 0) rfl rfl) rfl hl.1 rfl (Nat.le_of_ble_eq_true rfl) dX4_cutByTwo_45 ⟨Nat.zero_le _, Nat.zero_le _⟩ (fun H locs hP hD hS => ?_)
    have hP : va_P D vwCl [eO cO 3 [.int (zI clu_45), .int (zI cll_45), .int (zI chu_45), .int (zI chl_45)], eO aO 0 [.ref aQ, .int (zI az), .int (zI alo), .int (zI ahi), .int (zI asl)], eA aQ (cy 0) 7 aT] H := hP.sub [2, 0, 1] rfl
    have hD : va_D A [eO cO 3 [.int (zI clu_45), .int (zI cll_45), .int (zI chu_45), .int (zI chl_45)], eO aO 0 [.ref aQ, .int (zI az), .int (zI alo), .int (zI ahi), .int (zI asl)], eA aQ (cy 0) 7 aT] := hD.sub [2, 0, 1] rfl rfl
    obtain ⟨hg, hf⟩ := zq_gd hf
    have hn9 : narrow .boolean (.int (zI r45)) = .int (zI r45) := by rcases hg with h | h <;> rw [h] <;> rfl
    have hf := zq_some hf
    cases hf
    exact W.zret hx hb hr hn9 (fun t ht hW => ⟨⟨_, (), rfl, rfl, by rw [ht]; exact hP, hD⟩, hS.F ht⟩) hS.2.2 dX4_cutByTwo_48
  · refine lv_iconst (v := zI 0) hx hb dX4_cutByTwo_21 rfl ?_
    have hf := zq_some hf
    cases hf
    exact W.zret hx hb hr rfl (fun t ht hW => ⟨⟨_, (), rfl, rfl, by rw [ht]; exact hP, hD⟩, hS.F ht⟩) hS.2.2 dX4_cutByTwo_22

noncomputable def st_X4_narrow (az : Int) (asl : Int) (aT : Nat → Int) : (Nat × Int × Int × Int × Int × Int × Int × Int × Int) → Option ((Nat × Int × Int × Int × Int × Int × Int × Int × Int) ⊕ (Int × Int × Int × Int × Int)) := fun v => match v with
  | (0, x2, x3, x4, x5, clu, cll, chu, chl) =>
  gd (zR x3 ∧ zR 49) <|
  if x3 ≤ 49 then
    gd (zR x2) <|
    if x2 = 0 then
      (f_X4_isEmpty clu cll chu chl).bind fun r106 =>
      gd (zR r106) <|
      if r106 = 0 then
        some (.inr (1, clu, cll, chu, chl))
      else
        some (.inr (0, clu, cll, chu, chl))
    else
      some (.inl (1, 0, x3, 1, 0, clu, cll, chu, chl))
  else
    (f_X4_isEmpty clu cll chu chl).bind fun r106 =>
    gd (zR r106) <|
    if r106 = 0 then
      some (.inr (1, clu, cll, chu, chl))
    else
      some (.inr (0, clu, cll, chu, chl))
  | (1, x2, x3, x4, x5, clu, cll, chu, chl) =>
  gd (zR x4 ∧ zR az) <|
  if x4 < az then
    some (.inl (2, x2, x3, x4, 0, clu, cll, chu, chl))
  else
    some (.inl (0, x2, (x3 + 1), 0, 0, clu, cll, chu, chl))
  | (2, x2, x3, x4, x5, clu, cll, chu, chl) =>
  gd (zR x5 ∧ zR x4) <|
  if x5 < x4 then
    (f_X4_leastCount x5 x4 chu chl asl aT).bind fun r56 =>
    (f_X4_greatestCount x5 x4 clu cll asl aT).bind fun r65 =>
    gd (zR r56 ∧ zR r65) <|
    if r56 ≤ r65 then
      (f_X4_cutByTwo x5 x4 clu cll chu chl asl aT).bind fun (r79, clu_79, cll_79, chu_79, chl_79) =>
      gd (zR r79) <|
      if r79 = 0 then
        some (.inl (2, x2, x3, x4, (x5 + 1), clu_79, cll_79, chu_79, chl_79))
      else
        some (.inl (2, 1, x3, x4, (x5 + 1), clu_79, cll_79, chu_79, chl_79))
    else
      some (.inr (0, clu, cll, chu, chl))
  else
    some (.inl (1, x2, x3, (x4 + 1), 0, clu, cll, chu, chl))
  | _ => none
noncomputable def f_X4_narrow (az : Int) (alo : Int) (ahi : Int) (asl : Int) (aT : Nat → Int) : Option (Int × Int × Int × Int × Int) :=
  (f_X4_spread alo ahi).bind fun (clu_9, cll_9, chu_9, chl_9) =>
  zev (st_X4_narrow az asl aT) (0, 1, 0, 0, 0, clu_9, cll_9, chu_9, chl_9)
theorem m_X4_narrow_1 : (.fieldLink RX4 45 "PulseTurns$Hearing" "low" "I" : Cond) ∈ wsX4_narrow := List.mem_of_getElem? (i := 1) rfl
theorem m_X4_narrow_2 : (.fieldLink RX4 48 "PulseTurns$Hearing" "high" "I" : Cond) ∈ wsX4_narrow := List.mem_of_getElem? (i := 2) rfl
theorem m_X4_narrow_3 : (.fieldLink RX4 55 "PulseTurns$Hearing" "size" "I" : Cond) ∈ wsX4_narrow := List.mem_of_getElem? (i := 3) rfl
theorem u_X4_narrow_X1 : ∀ w ∈ wsX10, w ∈ wsX4_narrow := fun w h => List.mem_cons_of_mem _ (List.mem_append_left _ (List.mem_append_right _ h))
set_option maxRecDepth 100000 in
set_option maxHeartbeats 4000000 in
theorem c_X4_narrow (l : Launch) (D : va_G) (cy : Nat → ClassId) (cO aO aQ : Nat) (sz : Nat) (clu : Int) (cll : Int) (chu : Int) (chl : Int) (az : Int) (alo : Int) (ahi : Int) (asl : Int) (aT : Nat → Int) {r : Int} {clu' : Int} {cll' : Int} {chu' : Int} {chl' : Int} (hf : f_X4_narrow az alo ahi asl aT = some (r, clu', cll', chu', chl')) : zMi l yX4_narrow wsX4_narrow ({ frames := 3, cells := 0, slots := 0, locals := 70 }) D cy sz [.ref cO, .ref aO] [eO cO 3 [.int (zI clu), .int (zI cll), .int (zI chu), .int (zI chl)], eO aO 0 [.ref aQ, .int (zI az), .int (zI alo), .int (zI ahi), .int (zI asl)], eA aQ (cy 0) 7 aT] [eO cO 3 [.int (zI clu'), .int (zI cll'), .int (zI chu'), .int (zI chl')], eO aO 0 [.ref aQ, .int (zI az), .int (zI alo), .int (zI ahi), .int (zI asl)], eA aQ (cy 0) 7 aT] (zI r) := by
  refine Met.ofW (cc := cX4_narrow) (maxL := 6) (ret := (some .boolean)) (by decide) rfl ?_
  intro p e s m args below meth c s₁ B hml hv
  obtain ⟨rfl, hsz, hP, hK, hD0⟩ := hv
  have hx := B.exec
  have hb := B.bytes
  have hr := B.returns
  have hts := atoms_spec (ws := wsX4_narrow) B.pre
  have hown : s.vm.findClass RX4 = some m.cls := findClass_of_methodNamed B.named
  have hlocks := B.notSynchronized
  subst hsz
  have hD := hD0.self (sz := s.heap.size)
  generalize hAe : va_A [eO cO 3 [.int (zI clu), .int (zI cll), .int (zI chu), .int (zI chl)], eO aO 0 [.ref aQ, .int (zI az), .int (zI alo), .int (zI ahi), .int (zI asl)], eA aQ (cy 0) 7 aT] s.heap.size = A at hD ⊢
  have hA : ∀ q : Nat, s.heap.size ≤ q → A q := fun q h => by rw [← hAe]; exact Or.inr h
  have hS : va_S A s.heap s.heap [] := va_S.rf
  have hl := lv_entry ([.ref cO, .ref aO]) (n := 6) (Nat.le_of_ble_eq_true rfl)
  rw [lg_entry_eq]
  generalize (lg_sl ([.ref cO, .ref aO]) ++ List.replicate (6 - (lg_sl ([.ref cO, .ref aO])).length) Slot.unset).toArray = ls at hl ⊢
  have hl : lv_has ls 6 [(0, .ref cO), (1, .ref aO)] := hl
  have hf := zq_of hf
  have key := zloop (st := st_X4_narrow az asl aT) (res := (r, clu', cll', chu', chl')) (K := fun v => match v with
    | (0, x2, x3, x4, x5, clu, cll, chu, chl) => ∀ (H : Heap) (locs : List Loc) (ls : Array Slot), va_P D vwCl [eO cO 3 [.int (zI clu), .int (zI cll), .int (zI chu), .int (zI chl)], eO aO 0 [.ref aQ, .int (zI az), .int (zI alo), .int (zI ahi), .int (zI asl)], eA aQ (cy 0) 7 aT] H → va_D A [eO cO 3 [.int (zI clu), .int (zI cll), .int (zI chu), .int (zI chl)], eO aO 0 [.ref aQ, .int (zI az), .int (zI alo), .int (zI ahi), .int (zI asl)], eA aQ (cy 0) 7 aT] → va_S A s.heap H locs → lv_has ls 6 [(0, .ref cO), (1, .ref aO), (2, .int (zI x2)), (3, .int (zI x3))] → zGi p l e wsX4_narrow ({ frames := 3, cells := 0, slots := 0, locals := 70 }) s m [.ref cO, .ref aO] below meth c A D [eO cO 3 [.int (zI clu'), .int (zI cll'), .int (zI chu'), .int (zI chl')], eO aO 0 [.ref aQ, .int (zI az), .int (zI alo), .int (zI ahi), .int (zI asl)], eA aQ (cy 0) 7 aT] (zI r) H locs (F0 m 16 ls [])
    | (1, x2, x3, x4, x5, clu, cll, chu, chl) => ∀ (H : Heap) (locs : List Loc) (ls : Array Slot), va_P D vwCl [eO cO 3 [.int (zI clu), .int (zI cll), .int (zI chu), .int (zI chl)], eO aO 0 [.ref aQ, .int (zI az), .int (zI alo), .int (zI ahi), .int (zI asl)], eA aQ (cy 0) 7 aT] H → va_D A [eO cO 3 [.int (zI clu), .int (zI cll), .int (zI chu), .int (zI chl)], eO aO 0 [.ref aQ, .int (zI az), .int (zI alo), .int (zI ahi), .int (zI asl)], eA aQ (cy 0) 7 aT] → va_S A s.heap H locs → lv_has ls 6 [(0, .ref cO), (1, .ref aO), (2, .int (zI x2)), (3, .int (zI x3)), (4, .int (zI x4))] → zGi p l e wsX4_narrow ({ frames := 3, cells := 0, slots := 0, locals := 70 }) s m [.ref cO, .ref aO] below meth c A D [eO cO 3 [.int (zI clu'), .int (zI cll'), .int (zI chu'), .int (zI chl')], eO aO 0 [.ref aQ, .int (zI az), .int (zI alo), .int (zI ahi), .int (zI asl)], eA aQ (cy 0) 7 aT] (zI r) H locs (F0 m 31 ls [])
    | (2, x2, x3, x4, x5, clu, cll, chu, chl) => ∀ (H : Heap) (locs : List Loc) (ls : Array Slot), va_P D vwCl [eO cO 3 [.int (zI clu), .int (zI cll), .int (zI chu), .int (zI chl)], eO aO 0 [.ref aQ, .int (zI az), .int (zI alo), .int (zI ahi), .int (zI asl)], eA aQ (cy 0) 7 aT] H → va_D A [eO cO 3 [.int (zI clu), .int (zI cll), .int (zI chu), .int (zI chl)], eO aO 0 [.ref aQ, .int (zI az), .int (zI alo), .int (zI ahi), .int (zI asl)], eA aQ (cy 0) 7 aT] → va_S A s.heap H locs → lv_has ls 6 [(0, .ref cO), (1, .ref aO), (2, .int (zI x2)), (3, .int (zI x3)), (4, .int (zI x4)), (5, .int (zI x5))] → zGi p l e wsX4_narrow ({ frames := 3, cells := 0, slots := 0, locals := 70 }) s m [.ref cO, .ref aO] below meth c A D [eO cO 3 [.int (zI clu'), .int (zI cll'), .int (zI chu'), .int (zI chl')], eO aO 0 [.ref aQ, .int (zI az), .int (zI alo), .int (zI ahi), .int (zI asl)], eA aQ (cy 0) 7 aT] (zI r) H locs (F0 m 43 ls [])
    | _ => True) (by
    rintro ⟨k, x2, x3, x4, x5, clu, cll, chu, chl⟩ hf
    match k, hf with
    | 0, hf =>
      intro H locs ls hP hD hS hl
      unfold st_X4_narrow at hf
      try dsimp only at hf
      refine lv_iload_n hx hb dX4_narrow_16 rfl (lv_at hl 3 rfl) ?_
      refine lv_bipush (v := zI 49) hx hb dX4_narrow_17 (by decide) ?_
      refine zz_icmp_gt (tgt := 105) hx hb dX4_narrow_19 (by decide) hf (fun hc hf => ?_) (fun hc hf => ?_)
      · refine lv_iload_n hx hb dX4_narrow_22 rfl (lv_at hl 2 rfl) ?_
        refine zz_if_eq (tgt := 105) hx hb dX4_narrow_23 (by decide) hf (fun hc hf => ?_) (fun hc hf => ?_)
        · refine lv_aload_n hx hb dX4_narrow_105 rfl (lv_at hl 0 rfl) ?_
          obtain ⟨r106, hc106, hf⟩ := zq_bind hf
          refine zcallVi (wr := [eO aO 0 [.ref aQ, .int (zI az), .int (zI alo), .int (zI ahi), .int (zI asl)], eA aQ (cy 0) 7 aT]) (rest := []) ⟨hx, hb, hml, hown, hts⟩ (c_X4_isEmpty l D cy cO H.size clu cll chu chl hc106) (cwV 0 hts gX4_narrow_X4_isEmpty rfl rfl rfl (by decide +kernel) ⟨Nat.le_of_ble_eq_true rfl, Nat.le_of_ble_eq_true rfl⟩) hK hP hD hS hA [0] [1, 2] rfl rfl rfl rfl (by decide) (va_recv hK.1 hP (ci := 3) (q0 := 0) rfl rfl) rfl hl.1 rfl (Nat.le_of_ble_eq_true rfl) dX4_narrow_106 ⟨Nat.zero_le _, Nat.zero_le _⟩ (fun H locs hP hD hS => ?_)
          have hP : va_P D vwCl [eO cO 3 [.int (zI clu), .int (zI cll), .int (zI chu), .int (zI chl)], eO aO 0 [.ref aQ, .int (zI az), .int (zI alo), .int (zI ahi), .int (zI asl)], eA aQ (cy 0) 7 aT] H := hP.sub [2, 0, 1] rfl
          have hD : va_D A [eO cO 3 [.int (zI clu), .int (zI cll), .int (zI chu), .int (zI chl)], eO aO 0 [.ref aQ, .int (zI az), .int (zI alo), .int (zI ahi), .int (zI asl)], eA aQ (cy 0) 7 aT] := hD.sub [2, 0, 1] rfl rfl
          refine zz_if_ne (tgt := 116) hx hb dX4_narrow_109 (by decide) hf (fun hc hf => ?_) (fun hc hf => ?_)
          · refine lv_iconst (v := zI 1) hx hb dX4_narrow_112 rfl ?_
            refine lv_goto (tgt := 117) hx hb dX4_narrow_113 (by decide) ?_
            have hf := zq_some hf
            cases hf
            exact W.zret hx hb hr rfl (fun t ht hW => ⟨⟨_, (), rfl, rfl, by rw [ht]; exact hP, hD⟩, hS.F ht⟩) hS.2.2 dX4_narrow_117
          · refine lv_iconst (v := zI 0) hx hb dX4_narrow_116 rfl ?_
            have hf := zq_some hf
            cases hf
            exact W.zret hx hb hr rfl (fun t ht hW => ⟨⟨_, (), rfl, rfl, by rw [ht]; exact hP, hD⟩, hS.F ht⟩) hS.2.2 dX4_narrow_117
        · refine lv_iconst (v := zI 0) hx hb dX4_narrow_26 rfl ?_
          refine lv_istore_n (lv' := [(2, .int (zI 0)), (0, .ref cO), (1, .ref aO), (3, .int (zI x3))]) hx hb dX4_narrow_27 rfl hl (by decide) rfl (fun ls hl => ?_)
          refine lv_iconst (v := zI 1) hx hb dX4_narrow_28 rfl ?_
          refine lv_istore (lv' := [(4, .int (zI 1)), (2, .int (zI 0)), (0, .ref cO), (1, .ref aO), (3, .int (zI x3))]) hx hb dX4_narrow_29 hl (by decide) rfl (fun ls hl => ?_)
          have hf := zq_some hf
          exact hf _ _ _ hP hD hS (lv_sub hl [2, 3, 1, 4, 0] rfl)
      · refine lv_aload_n hx hb dX4_narrow_105 rfl (lv_at hl 0 rfl) ?_
        obtain ⟨r106, hc106, hf⟩ := zq_bind hf
        refine zcallVi (wr := [eO aO 0 [.ref aQ, .int (zI az), .int (zI alo), .int (zI ahi), .int (zI asl)], eA aQ (cy 0) 7 aT]) (rest := []) ⟨hx, hb, hml, hown, hts⟩ (c_X4_isEmpty l D cy cO H.size clu cll chu chl hc106) (cwV 0 hts gX4_narrow_X4_isEmpty rfl rfl rfl (by decide +kernel) ⟨Nat.le_of_ble_eq_true rfl, Nat.le_of_ble_eq_true rfl⟩) hK hP hD hS hA [0] [1, 2] rfl rfl rfl rfl (by decide) (va_recv hK.1 hP (ci := 3) (q0 := 0) rfl rfl) rfl hl.1 rfl (Nat.le_of_ble_eq_true rfl) dX4_narrow_106 ⟨Nat.zero_le _, Nat.zero_le _⟩ (fun H locs hP hD hS => ?_)
        have hP : va_P D vwCl [eO cO 3 [.int (zI clu), .int (zI cll), .int (zI chu), .int (zI chl)], eO aO 0 [.ref aQ, .int (zI az), .int (zI alo), .int (zI ahi), .int (zI asl)], eA aQ (cy 0) 7 aT] H := hP.sub [2, 0, 1] rfl
        have hD : va_D A [eO cO 3 [.int (zI clu), .int (zI cll), .int (zI chu), .int (zI chl)], eO aO 0 [.ref aQ, .int (zI az), .int (zI alo), .int (zI ahi), .int (zI asl)], eA aQ (cy 0) 7 aT] := hD.sub [2, 0, 1] rfl rfl
        refine zz_if_ne (tgt := 116) hx hb dX4_narrow_109 (by decide) hf (fun hc hf => ?_) (fun hc hf => ?_)
        · refine lv_iconst (v := zI 1) hx hb dX4_narrow_112 rfl ?_
          refine lv_goto (tgt := 117) hx hb dX4_narrow_113 (by decide) ?_
          have hf := zq_some hf
          cases hf
          exact W.zret hx hb hr rfl (fun t ht hW => ⟨⟨_, (), rfl, rfl, by rw [ht]; exact hP, hD⟩, hS.F ht⟩) hS.2.2 dX4_narrow_117
        · refine lv_iconst (v := zI 0) hx hb dX4_narrow_116 rfl ?_
          have hf := zq_some hf
          cases hf
          exact W.zret hx hb hr rfl (fun t ht hW => ⟨⟨_, (), rfl, rfl, by rw [ht]; exact hP, hD⟩, hS.F ht⟩) hS.2.2 dX4_narrow_117
    | 1, hf =>
      intro H locs ls hP hD hS hl
      unfold st_X4_narrow at hf
      try dsimp only at hf
      refine lv_iload hx hb dX4_narrow_31 (lv_at hl 4 rfl) ?_
      refine lv_aload_n hx hb dX4_narrow_33 rfl (lv_at hl 1 rfl) ?_
      refine va_get (D := D) (ci := 0) (v := .int (zI az)) (C := RX1) (T := TX1) (N := 5) hx hb hts u_X4_narrow_X1 hown hK.1 hP 1 rfl rfl 1 (by decide) (hts _ m_X4_narrow_3) (fun _ h9 => h9) rfl dX4_narrow_34 ?_
      refine zz_icmp_ge (tgt := 99) hx hb dX4_narrow_37 (by decide) hf (fun hc hf => ?_) (fun hc hf => ?_)
      · refine lv_iconst (v := zI 0) hx hb dX4_narrow_40 rfl ?_
        refine lv_istore (lv' := [(5, .int (zI 0)), (0, .ref cO), (1, .ref aO), (2, .int (zI x2)), (3, .int (zI x3)), (4, .int (zI x4))]) hx hb dX4_narrow_41 hl (by decide) rfl (fun ls hl => ?_)
        have hf := zq_some hf
        exact hf _ _ _ hP hD hS (lv_sub hl [1, 2, 3, 4, 5, 0] rfl)
      · refine lv_iinc (v := zI (x3 + 1)) (lv' := [(3, .int (zI (x3 + 1))), (0, .ref cO), (1, .ref aO), (2, .int (zI x2)), (4, .int (zI x4))]) hx hb dX4_narrow_99 hl (k := 3) rfl (zI_add _ _) (by decide) rfl (fun ls hl => ?_)
        refine lv_goto (tgt := 16) hx hb dX4_narrow_102 (by decide) ?_
        have hf := zq_some hf
        exact hf _ _ _ hP hD hS (lv_sub hl [1, 2, 3, 0] rfl)
    | 2, hf =>
      intro H locs ls hP hD hS hl
      unfold st_X4_narrow at hf
      try dsimp only at hf
      refine lv_iload hx hb dX4_narrow_43 (lv_at hl 5 rfl) ?_
      refine lv_iload hx hb dX4_narrow_45 (lv_at hl 4 rfl) ?_
      refine zz_icmp_ge (tgt := 93) hx hb dX4_narrow_47 (by decide) hf (fun hc hf => ?_) (fun hc hf => ?_)
      · refine lv_aload_n hx hb dX4_narrow_50 rfl (lv_at hl 0 rfl) ?_
        refine lv_aload_n hx hb dX4_narrow_51 rfl (lv_at hl 1 rfl) ?_
        refine lv_iload hx hb dX4_narrow_52 (lv_at hl 5 rfl) ?_
        refine lv_iload hx hb dX4_narrow_54 (lv_at hl 4 rfl) ?_
        obtain ⟨r56, hc56, hf⟩ := zq_bind hf
        refine zcallVi (wr := []) (rest := []) ⟨hx, hb, hml, hown, hts⟩ (c_X4_leastCount l D cy cO aO aQ H.size x5 x4 clu cll chu chl az alo ahi asl aT hc56) (cwV 3 hts gX4_narrow_X4_leastCount rfl rfl rfl (by decide +kernel) ⟨Nat.le_of_ble_eq_true rfl, Nat.le_of_ble_eq_true rfl⟩) hK hP hD hS hA [0, 1, 2] [] rfl rfl rfl rfl (by decide) (va_recv hK.1 hP (ci := 3) (q0 := 0) rfl rfl) rfl hl.1 rfl (Nat.le_of_ble_eq_true rfl) dX4_narrow_56 ⟨Nat.zero_le _, Nat.zero_le _⟩ (fun H locs hP hD hS => ?_)
        have hP : va_P D vwCl [eO cO 3 [.int (zI clu), .int (zI cll), .int (zI chu), .int (zI chl)], eO aO 0 [.ref aQ, .int (zI az), .int (zI alo), .int (zI ahi), .int (zI asl)], eA aQ (cy 0) 7 aT] H := hP.sub [0, 1, 2] rfl
        have hD : va_D A [eO cO 3 [.int (zI clu), .int (zI cll), .int (zI chu), .int (zI chl)], eO aO 0 [.ref aQ, .int (zI az), .int (zI alo), .int (zI ahi), .int (zI asl)], eA aQ (cy 0) 7 aT] := hD.sub [0, 1, 2] rfl rfl
        refine lv_aload_n hx hb dX4_narrow_59 rfl (lv_at hl 0 rfl) ?_
        refine lv_aload_n hx hb dX4_narrow_60 rfl (lv_at hl 1 rfl) ?_
        refine lv_iload hx hb dX4_narrow_61 (lv_at hl 5 rfl) ?_
        refine lv_iload hx hb dX4_narrow_63 (lv_at hl 4 rfl) ?_
        obtain ⟨r65, hc65, hf⟩ := zq_bind hf
        refine zcallVi (wr := []) (rest := [.int (zI r56)]) ⟨hx, hb, hml, hown, hts⟩ (c_X4_greatestCount l D cy cO aO aQ H.size x5 x4 clu cll chu chl az alo ahi asl aT hc65) (cwV 3 hts gX4_narrow_X4_greatestCount rfl rfl rfl (by decide +kernel) ⟨Nat.le_of_ble_eq_true rfl, Nat.le_of_ble_eq_true rfl⟩) hK hP hD hS hA [0, 1, 2] [] rfl rfl rfl rfl (by decide) (va_recv hK.1 hP (ci := 3) (q0 := 0) rfl rfl) rfl hl.1 rfl (Nat.le_of_ble_eq_true rfl) dX4_narrow_65 ⟨Nat.zero_le _, Nat.zero_le _⟩ (fun H locs hP hD hS => ?_)
        have hP : va_P D vwCl [eO cO 3 [.int (zI clu), .int (zI cll), .int (zI chu), .int (zI chl)], eO aO 0 [.ref aQ, .int (zI az), .int (zI alo), .int (zI ahi), .int (zI asl)], eA aQ (cy 0) 7 aT] H := hP.sub [0, 1, 2] rfl
        have hD : va_D A [eO cO 3 [.int (zI clu), .int (zI cll), .int (zI chu), .int (zI chl)], eO aO 0 [.ref aQ, .int (zI az), .int (zI alo), .int (zI ahi), .int (zI asl)], eA aQ (cy 0) 7 aT] := hD.sub [0, 1, 2] rfl rfl
        refine zz_icmp_le (tgt := 73) hx hb dX4_narrow_68 (by decide) hf (fun hc hf => ?_) (fun hc hf => ?_)
        · refine lv_aload_n hx hb dX4_narrow_73 rfl (lv_at hl 0 rfl) ?_
          refine lv_aload_n hx hb dX4_narrow_74 rfl (lv_at hl 1 rfl) ?_
          refine lv_iload hx hb dX4_narrow_75 (lv_at hl 5 rfl) ?_
          refine lv_iload hx hb dX4_narrow_77 (lv_at hl 4 rfl) ?_
          obtain ⟨⟨r79, clu_79, cll_79, chu_79, chl_79⟩, hc79, hf⟩ := zq_bind hf
          refine zcallVi (wr := []) (rest := []) ⟨hx, hb, hml, hown, hts⟩ (c_X4_cutByTwo l D cy cO aO aQ H.size x5 x4 clu cll chu chl az alo ahi asl aT hc79) (cwV 3 hts gX4_narrow_X4_cutByTwo rfl rfl rfl (by decide +kernel) ⟨Nat.le_of_ble_eq_true rfl, Nat.le_of_ble_eq_true rfl⟩) hK hP hD hS hA [0, 1, 2] [] rfl rfl rfl rfl (by decide) (va_recv hK.1 hP (ci := 3) (q0 := 0) rfl rfl) rfl hl.1 rfl (Nat.le_of_ble_eq_true rfl) dX4_narrow_79 ⟨Nat.zero_le _, Nat.zero_le _⟩ (fun H locs hP hD hS => ?_)
          have hP : va_P D vwCl [eO cO 3 [.int (zI clu_79), .int (zI cll_79), .int (zI chu_79), .int (zI chl_79)], eO aO 0 [.ref aQ, .int (zI az), .int (zI alo), .int (zI ahi), .int (zI asl)], eA aQ (cy 0) 7 aT] H := hP.sub [0, 1, 2] rfl
          have hD : va_D A [eO cO 3 [.int (zI clu_79), .int (zI cll_79), .int (zI chu_79), .int (zI chl_79)], eO aO 0 [.ref aQ, .int (zI az), .int (zI alo), .int (zI ahi), .int (zI asl)], eA aQ (cy 0) 7 aT] := hD.sub [0, 1, 2] rfl rfl
          refine zz_if_eq (tgt := 87) hx hb dX4_narrow_82 (by decide) hf (fun hc hf => ?_) (fun hc hf => ?_)
          · refine lv_iinc (v := zI (x5 + 1)) (lv' := [(5, .int (zI (x5 + 1))), (0, .ref cO), (1, .ref aO), (2, .int (zI x2)), (3, .int (zI x3)), (4, .int (zI x4))]) hx hb dX4_narrow_87 hl (k := 5) rfl (zI_add _ _) (by decide) rfl (fun ls hl => ?_)
            refine lv_goto (tgt := 43) hx hb dX4_narrow_90 (by decide) ?_
            have hf := zq_some hf
            exact hf _ _ _ hP hD hS (lv_sub hl [1, 2, 3, 4, 5, 0] rfl)
          · refine lv_iconst (v := zI 1) hx hb dX4_narrow_85 rfl ?_
            refine lv_istore_n (lv' := [(2, .int (zI 1)), (0, .ref cO), (1, .ref aO), (3, .int (zI x3)), (4, .int (zI x4)), (5, .int (zI x5))]) hx hb dX4_narrow_86 rfl hl (by decide) rfl (fun ls hl => ?_)
            refine lv_iinc (v := zI (x5 + 1)) (lv' := [(5, .int (zI (x5 + 1))), (2, .int (zI 1)), (0, .ref cO), (1, .ref aO), (3, .int (zI x3)), (4, .int (zI x4))]) hx hb dX4_narrow_87 hl (k := 5) rfl (zI_add _ _) (by decide) rfl (fun ls hl => ?_)
            refine lv_goto (tgt := 43) hx hb dX4_narrow_90 (by decide) ?_
            have hf := zq_some hf
            exact hf _ _ _ hP hD hS (lv_sub hl [2, 3, 1, 4, 5, 0] rfl)
        · refine lv_iconst (v := zI 0) hx hb dX4_narrow_71 rfl ?_
          have hf := zq_some hf
          cases hf
          exact W.zret hx hb hr rfl (fun t ht hW => ⟨⟨_, (), rfl, rfl, by rw [ht]; exact hP, hD⟩, hS.F ht⟩) hS.2.2 dX4_narrow_72
      · refine lv_iinc (v := zI (x4 + 1)) (lv' := [(4, .int (zI (x4 + 1))), (0, .ref cO), (1, .ref aO), (2, .int (zI x2)), (3, .int (zI x3)), (5, .int (zI x5))]) hx hb dX4_narrow_93 hl (k := 4) rfl (zI_add _ _) (by decide) rfl (fun ls hl => ?_)
        refine lv_goto (tgt := 31) hx hb dX4_narrow_96 (by decide) ?_
        have hf := zq_some hf
        exact hf _ _ _ hP hD hS (lv_sub hl [1, 2, 3, 4, 0] rfl)
    | n + 3, hf => exact hf.elim)
  unfold f_X4_narrow at hf
  refine lv_aload_n hx hb dX4_narrow_0 rfl (lv_at hl 0 rfl) ?_
  refine lv_aload_n hx hb dX4_narrow_1 rfl (lv_at hl 1 rfl) ?_
  refine va_get (D := D) (ci := 0) (v := .int (zI alo)) (C := RX1) (T := TX1) (N := 5) hx hb hts u_X4_narrow_X1 hown hK.1 hP 1 rfl rfl 2 (by decide) (hts _ m_X4_narrow_1) (fun _ h9 => h9) rfl dX4_narrow_2 ?_
  refine lv_aload_n hx hb dX4_narrow_5 rfl (lv_at hl 1 rfl) ?_
  refine va_get (D := D) (ci := 0) (v := .int (zI ahi)) (C := RX1) (T := TX1) (N := 5) hx hb hts u_X4_narrow_X1 hown hK.1 hP 1 rfl rfl 3 (by decide) (hts _ m_X4_narrow_2) (fun _ h9 => h9) rfl dX4_narrow_6 ?_
  obtain ⟨⟨clu_9, cll_9, chu_9, chl_9⟩, hc9, hf⟩ := zq_bind hf
  refine zcallVv (wr := [eO aO 0 [.ref aQ, .int (zI az), .int (zI alo), .int (zI ahi), .int (zI asl)], eA aQ (cy 0) 7 aT]) (rest := []) ⟨hx, hb, hml, hown, hts⟩ (c_X4_spread l D cy cO s.heap.size alo ahi clu cll chu chl hc9) (cwV 2 hts gX4_narrow_X4_spread rfl rfl rfl (by decide +kernel) ⟨Nat.le_of_ble_eq_true rfl, Nat.le_of_ble_eq_true rfl⟩) hK hP hD hS hA [0] [1, 2] rfl rfl rfl rfl (by decide) (va_recv hK.1 hP (ci := 3) (q0 := 0) rfl rfl) rfl hl.1 rfl (Nat.le_of_ble_eq_true rfl) dX4_narrow_9 ⟨Nat.zero_le _, Nat.zero_le _⟩ (fun H locs hP hD hS => ?_)
  have hP : va_P D vwCl [eO cO 3 [.int (zI clu_9), .int (zI cll_9), .int (zI chu_9), .int (zI chl_9)], eO aO 0 [.ref aQ, .int (zI az), .int (zI alo), .int (zI ahi), .int (zI asl)], eA aQ (cy 0) 7 aT] H := hP.sub [2, 0, 1] rfl
  have hD : va_D A [eO cO 3 [.int (zI clu_9), .int (zI cll_9), .int (zI chu_9), .int (zI chl_9)], eO aO 0 [.ref aQ, .int (zI az), .int (zI alo), .int (zI ahi), .int (zI asl)], eA aQ (cy 0) 7 aT] := hD.sub [2, 0, 1] rfl rfl
  refine lv_iconst (v := zI 1) hx hb dX4_narrow_12 rfl ?_
  refine lv_istore_n (lv' := [(2, .int (zI 1)), (0, .ref cO), (1, .ref aO)]) hx hb dX4_narrow_13 rfl hl (by decide) rfl (fun ls hl => ?_)
  refine lv_iconst (v := zI 0) hx hb dX4_narrow_14 rfl ?_
  refine lv_istore_n (lv' := [(3, .int (zI 0)), (2, .int (zI 1)), (0, .ref cO), (1, .ref aO)]) hx hb dX4_narrow_15 rfl hl (by decide) rfl (fun ls hl => ?_)
  exact key _ (zq_eq hf) _ _ _ hP hD hS (lv_sub hl [2, 3, 1, 0] rfl)

noncomputable def f_X4_part (p1 : Int) (clu : Int) (cll : Int) (chu : Int) (chl : Int) : Option (Int) :=
  gd (zR p1 ∧ zR 2) <|
  if p1 < 2 then
    (f_X0_part clu cll p1).bind fun r14 =>
    some r14
  else
    (f_X0_part chu chl (p1 - 2)).bind fun r31 =>
    some r31
theorem m_X4_part_1 : (.fieldLink RX4 9 "PulseTurns$Periods" "lowUpper" "I" : Cond) ∈ wsX4_part := List.mem_of_getElem? (i := 1) rfl
theorem m_X4_part_2 : (.fieldLink RX4 15 "PulseTurns$Periods" "lowLower" "I" : Cond) ∈ wsX4_part := List.mem_of_getElem? (i := 2) rfl
theorem m_X4_part_3 : (.fieldLink RX4 18 "PulseTurns$Periods" "highUpper" "I" : Cond) ∈ wsX4_part := List.mem_of_getElem? (i := 3) rfl
theorem m_X4_part_4 : (.fieldLink RX4 21 "PulseTurns$Periods" "highLower" "I" : Cond) ∈ wsX4_part := List.mem_of_getElem? (i := 4) rfl
theorem u_X4_part_X4 : ∀ w ∈ wsX40, w ∈ wsX4_part := fun w h => List.mem_cons_of_mem _ (List.mem_append_right _ h)
set_option maxRecDepth 100000 in
set_option maxHeartbeats 4000000 in
theorem c_X4_part (l : Launch) (D : va_G) (cy : Nat → ClassId) (cO : Nat) (sz : Nat) (p1 : Int) (clu : Int) (cll : Int) (chu : Int) (chl : Int) {r : Int} (hf : f_X4_part p1 clu cll chu chl = some r) : zMi l yX4_part wsX4_part ({ frames := 2, cells := 0, slots := 0, locals := 48 }) D cy sz [.ref cO, .int (zI p1)] [eO cO 3 [.int (zI clu), .int (zI cll), .int (zI chu), .int (zI chl)]] [eO cO 3 [.int (zI clu), .int (zI cll), .int (zI chu), .int (zI chl)]] (zI r) := by
  refine Met.ofW (cc := cX4_part) (maxL := 2) (ret := (some .int)) (by decide) rfl ?_
  intro p e s m args below meth c s₁ B hml hv
  obtain ⟨rfl, hsz, hP, hK, hD0⟩ := hv
  have hx := B.exec
  have hb := B.bytes
  have hr := B.returns
  have hts := atoms_spec (ws := wsX4_part) B.pre
  have hown : s.vm.findClass RX4 = some m.cls := findClass_of_methodNamed B.named
  have hlocks := B.notSynchronized
  subst hsz
  have hD := hD0.self (sz := s.heap.size)
  generalize hAe : va_A [eO cO 3 [.int (zI clu), .int (zI cll), .int (zI chu), .int (zI chl)]] s.heap.size = A at hD ⊢
  have hA : ∀ q : Nat, s.heap.size ≤ q → A q := fun q h => by rw [← hAe]; exact Or.inr h
  have hS : va_S A s.heap s.heap [] := va_S.rf
  have hl := lv_entry ([.ref cO, .int (zI p1)]) (n := 2) (Nat.le_of_ble_eq_true rfl)
  rw [lg_entry_eq]
  generalize (lg_sl ([.ref cO, .int (zI p1)]) ++ List.replicate (2 - (lg_sl ([.ref cO, .int (zI p1)])).length) Slot.unset).toArray = ls at hl ⊢
  have hl : lv_has ls 2 [(0, .ref cO), (1, .int (zI p1))] := hl
  have hf := zq_of hf
  unfold f_X4_part at hf
  refine lv_iload_n hx hb dX4_part_0 rfl (lv_at hl 1 rfl) ?_
  refine lv_iconst (v := zI 2) hx hb dX4_part_1 rfl ?_
  refine zz_icmp_ge (tgt := 20) hx hb dX4_part_2 (by decide) hf (fun hc hf => ?_) (fun hc hf => ?_)
  · refine lv_aload_n hx hb dX4_part_5 rfl (lv_at hl 0 rfl) ?_
    refine va_get (D := D) (ci := 3) (v := .int (zI clu)) (C := RX4) (T := TX4) (N := 4) hx hb hts u_X4_part_X4 hown hK.1 hP 0 rfl rfl 0 (by decide) (hts _ m_X4_part_1) (fun _ h9 => h9) rfl dX4_part_6 ?_
    refine lv_aload_n hx hb dX4_part_9 rfl (lv_at hl 0 rfl) ?_
    refine va_get (D := D) (ci := 3) (v := .int (zI cll)) (C := RX4) (T := TX4) (N := 4) hx hb hts u_X4_part_X4 hown hK.1 hP 0 rfl rfl 1 (by decide) (hts _ m_X4_part_2) (fun _ h9 => h9) rfl dX4_part_10 ?_
    refine lv_iload_n hx hb dX4_part_13 rfl (lv_at hl 1 rfl) ?_
    obtain ⟨r14, hc14, hf⟩ := zq_bind hf
    refine zcallSi (wr := [eO cO 3 [.int (zI clu), .int (zI cll), .int (zI chu), .int (zI chl)]]) (rest := []) ⟨hx, hb, hml, hown, hts⟩ (c_X0_part l D cy s.heap.size clu cll p1 hc14) (va_cwS 3 hts gX4_part_X0_part rfl rfl rfl (by decide +kernel) ⟨Nat.le_of_ble_eq_true rfl, Nat.le_of_ble_eq_true rfl⟩) hK hP hD hS hA [] [0] rfl rfl rfl rfl (by decide) rfl hl.1 rfl (Nat.le_of_ble_eq_true rfl) dX4_part_14 ⟨Nat.zero_le _, Nat.zero_le _⟩ (fun H locs hP hD hS => ?_)
    have hP : va_P D vwCl [eO cO 3 [.int (zI clu), .int (zI cll), .int (zI chu), .int (zI chl)]] H := hP.sub [0] rfl
    have hD : va_D A [eO cO 3 [.int (zI clu), .int (zI cll), .int (zI chu), .int (zI chl)]] := hD.sub [0] rfl rfl
    refine lv_goto (tgt := 34) hx hb dX4_part_17 (by decide) ?_
    have hf := zq_some hf
    cases hf
    exact W.iret hx hb hr (fun t ht hW => ⟨⟨_, (), rfl, rfl, by rw [ht]; exact hP, hD⟩, hS.F ht⟩) hS.2.2 dX4_part_34
  · refine lv_aload_n hx hb dX4_part_20 rfl (lv_at hl 0 rfl) ?_
    refine va_get (D := D) (ci := 3) (v := .int (zI chu)) (C := RX4) (T := TX4) (N := 4) hx hb hts u_X4_part_X4 hown hK.1 hP 0 rfl rfl 2 (by decide) (hts _ m_X4_part_3) (fun _ h9 => h9) rfl dX4_part_21 ?_
    refine lv_aload_n hx hb dX4_part_24 rfl (lv_at hl 0 rfl) ?_
    refine va_get (D := D) (ci := 3) (v := .int (zI chl)) (C := RX4) (T := TX4) (N := 4) hx hb hts u_X4_part_X4 hown hK.1 hP 0 rfl rfl 3 (by decide) (hts _ m_X4_part_4) (fun _ h9 => h9) rfl dX4_part_25 ?_
    refine lv_iload_n hx hb dX4_part_28 rfl (lv_at hl 1 rfl) ?_
    refine lv_iconst (v := zI 2) hx hb dX4_part_29 rfl ?_
    refine zz_isub hx hb dX4_part_30 ?_
    obtain ⟨r31, hc31, hf⟩ := zq_bind hf
    refine zcallSi (wr := [eO cO 3 [.int (zI clu), .int (zI cll), .int (zI chu), .int (zI chl)]]) (rest := []) ⟨hx, hb, hml, hown, hts⟩ (c_X0_part l D cy s.heap.size chu chl (p1 - 2) hc31) (va_cwS 3 hts gX4_part_X0_part rfl rfl rfl (by decide +kernel) ⟨Nat.le_of_ble_eq_true rfl, Nat.le_of_ble_eq_true rfl⟩) hK hP hD hS hA [] [0] rfl rfl rfl rfl (by decide) rfl hl.1 rfl (Nat.le_of_ble_eq_true rfl) dX4_part_31 ⟨Nat.zero_le _, Nat.zero_le _⟩ (fun H locs hP hD hS => ?_)
    have hP : va_P D vwCl [eO cO 3 [.int (zI clu), .int (zI cll), .int (zI chu), .int (zI chl)]] H := hP.sub [0] rfl
    have hD : va_D A [eO cO 3 [.int (zI clu), .int (zI cll), .int (zI chu), .int (zI chl)]] := hD.sub [0] rfl rfl
    have hf := zq_some hf
    cases hf
    exact W.iret hx hb hr (fun t ht hW => ⟨⟨_, (), rfl, rfl, by rw [ht]; exact hP, hD⟩, hS.F ht⟩) hS.2.2 dX4_part_34
