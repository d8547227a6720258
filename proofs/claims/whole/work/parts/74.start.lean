theorem zarr_i {args : Array Value} {s : State} (h : (Cond.arrayClass .int).before args s = true) : ∃ cA, ArrOfT s cA .int ∧ va_RA s cA .int := by
  obtain ⟨cA, kA, comp, h1, h2, h3⟩ := Cond.arrayClass_spec h
  exact ⟨cA, fun n z => ⟨fun k h => (by cases h), kA, h2, comp, h3⟩, h1⟩
theorem zarr_c {args : Array Value} {s : State} (h : (Cond.arrayClass .char).before args s = true) : ∃ cA, ArrOfT s cA .char ∧ va_RA s cA .char := by
  obtain ⟨cA, kA, comp, h1, h2, h3⟩ := Cond.arrayClass_spec h
  exact ⟨cA, fun n z => ⟨fun k h => (by cases h), kA, h2, comp, h3⟩, h1⟩
theorem zarr_z {args : Array Value} {s : State} (h : (Cond.arrayClass .boolean).before args s = true) : ∃ cA, ArrOfT s cA .boolean ∧ va_RA s cA .boolean := by
  obtain ⟨cA, kA, comp, h1, h2, h3⟩ := Cond.arrayClass_spec h
  exact ⟨cA, fun n z => ⟨fun k h => (by cases h), kA, h2, comp, h3⟩, h1⟩
theorem zarr_q {s : State} {C : String} (h : va_AO C s) : ∃ cA, ArrOfT s cA (.object C) ∧ va_RA s cA (.object C) := by
  obtain ⟨comp, cA, k, h1, h2, h3, h4, h5⟩ := Cond.arrayOver_spec h
  exact ⟨cA, fun n z => ⟨fun k h => (by cases h), k, h3, comp, h4⟩, k, comp, h3, h4, h1, h5⟩
theorem zRel_0 : zRel 0 100 200 2 (fun _ => 0) 0 0 (fun _ => 0) (fun _ => 100) (fun _ => 200) (fun _ => 2) (fun _ _ => 0) (fun _ => 0) (fun _ => 100) (fun _ => 200) (fun _ => 2) (fun _ _ => 0) (fun _ => 0) 0 (fun _ => 0) 0 (fun _ => 0) (zup (zup (zup (fun _ => 0) 1 100) 2 200) 3 2) (fun _ => 0) 0 (fun _ => 0) (fun _ => 0) := by
  refine ⟨⟨⟨by decide, by decide, by decide, by decide, by decide, by decide, by decide, by decide, fun k h => ?_, fun k h => ?_⟩, rfl, rfl, rfl, rfl, fun k h => ?_⟩, ⟨by decide, by decide, by decide, by decide, rfl, fun i h => ?_⟩, fun i h => ⟨rfl, Or.inl rfl⟩, ⟨by decide, by decide, rfl, fun k h => ?_⟩⟩ <;> omega
theorem kL_13 : (.instantiable RX1 5 : Cond) ∈ wsL_law := List.mem_of_getElem? (i := 13) rfl
theorem kL_29 : (.instantiable RX2 8 : Cond) ∈ wsL_law := List.mem_of_getElem? (i := 29) rfl
theorem kL_18 : (.instantiable RX3 3 : Cond) ∈ wsL_law := List.mem_of_getElem? (i := 18) rfl
theorem kL_33 : (.instantiable RX4 4 : Cond) ∈ wsL_law := List.mem_of_getElem? (i := 33) rfl
theorem kL_25 : (.instantiable RX5 5 : Cond) ∈ wsL_law := List.mem_of_getElem? (i := 25) rfl
theorem kL_1 : (.instantiable RX6 10 : Cond) ∈ wsL_law := List.mem_of_getElem? (i := 1) rfl
theorem kL_4 : (.instantiable RX7 23 : Cond) ∈ wsL_law := List.mem_of_getElem? (i := 4) rfl
theorem kT_124 : (.methodLinkNest RX6 36 yX5_init RX6 : Cond) ∈ lw_tbl := List.mem_of_getElem? (i := 124) (by decide +kernel)
theorem kT_156 : (.methodLinkNest RX2 27 yX4_init RX6 : Cond) ∈ lw_tbl := List.mem_of_getElem? (i := 156) (by decide +kernel)
theorem kT_200 : (.methodLinkNest RX6 50 yX4_init RX6 : Cond) ∈ lw_tbl := List.mem_of_getElem? (i := 200) (by decide +kernel)
theorem kT_277 : (.methodLinkNest RX5 57 yX6_isLow RX6 : Cond) ∈ lw_tbl := List.mem_of_getElem? (i := 277) (by decide +kernel)
theorem kT_280 : (.methodLinkNest RX5 63 yX6_isHigh RX6 : Cond) ∈ lw_tbl := List.mem_of_getElem? (i := 280) (by decide +kernel)
theorem kT_283 : (.methodLinkNest RX5 70 yX6_isSlack RX6 : Cond) ∈ lw_tbl := List.mem_of_getElem? (i := 283) (by decide +kernel)
theorem kT_290 : (.methodLinkNest RX5 80 yX6_isTime RX6 : Cond) ∈ lw_tbl := List.mem_of_getElem? (i := 290) (by decide +kernel)
theorem kT_109 : (.arrayOver (.object "PulseTurns$Hearing") : Cond) ∈ lw_tbl := List.mem_of_getElem? (i := 109) (by decide +kernel)
theorem kT_154 : (.arrayOver (.object "PulseTurns$Periods") : Cond) ∈ lw_tbl := List.mem_of_getElem? (i := 154) (by decide +kernel)
theorem kL_36 : (.arrayClass .int : Cond) ∈ wsL_law := List.mem_of_getElem? (i := 36) rfl
theorem kL_62 : (.arrayClass .char : Cond) ∈ wsL_law := List.mem_of_getElem? (i := 62) rfl
theorem kL_22 : (.arrayClass .boolean : Cond) ∈ wsL_law := List.mem_of_getElem? (i := 22) rfl
theorem kL_0 : (.classLink RL 7 RX6 : Cond) ∈ wsL_law := List.mem_of_getElem? (i := 0) rfl
theorem kL_2 : (.initialized RX6 : Cond) ∈ wsL_law := List.mem_of_getElem? (i := 2) rfl
theorem kL_6 : (.methodLink RL 9 yX6_init : Cond) ∈ wsL_law := List.mem_of_getElem? (i := 6) rfl
theorem kL_7 : (.instanceMethod yX6_init : Cond) ∈ wsL_law := List.mem_of_getElem? (i := 7) rfl
theorem kL_3 : (.classLink RL 10 RX7 : Cond) ∈ wsL_law := List.mem_of_getElem? (i := 3) rfl
theorem kL_5 : (.initialized RX7 : Cond) ∈ wsL_law := List.mem_of_getElem? (i := 5) rfl
theorem kL_80 : (.methodLink RL 12 yX7_init : Cond) ∈ wsL_law := List.mem_of_getElem? (i := 80) rfl
theorem kL_81 : (.instanceMethod yX7_init : Cond) ∈ wsL_law := List.mem_of_getElem? (i := 81) rfl
set_option maxRecDepth 100000 in
set_option maxHeartbeats 8000000 in
theorem whole_start {p : Program} {e : Env} {s : State} {m : MethodId} {below : List Frame} {meth : Method} {c : Code} (l : Launch) (hflags : l.flags = flags0) {b L : Nat} {xs : Nat → Int32} (hL : L ≤ 2560) (C0 : lw_At p s m meth c b L xs) : W p l e room_1 s m #[Value.ref b] below meth c s.heap [] 0 0 (lw_Z below #[Value.ref b] s) (entryFrame m ([Value.ref b] : List Value).toArray 4) := by
  obtain ⟨hx, hb, hr, hml, hown, hts0, hX, hbl, hlocks, hgv⟩ := id C0
  have hts : ∀ w ∈ wsL_law, w.before #[Value.ref b] s = true := fun w h => hts0 w (wsL_law_in w h)
  have hown : s.vm.findClass RL = some m.cls := hown
  have hA : ∀ q : Nat, s.heap.size ≤ q → (fun q : Nat => s.heap.size ≤ q) q := fun _ h => h
  have hbA : ¬ (fun q : Nat => s.heap.size ≤ q) b := Nat.not_le.mpr hbl
  obtain ⟨c0, iS0, hKn0⟩ := u_known (C := RX1) (T := TX1) (N := 5) (n := 5) hts inlX1 (hts (.instantiable RX1 5) kL_13)
  obtain ⟨c1, iS1, hKn1⟩ := u_known (C := RX2) (T := TX2) (N := 8) (n := 8) hts inlX2 (hts (.instantiable RX2 8) kL_29)
  obtain ⟨c2, iS2, hKn2⟩ := u_known (C := RX3) (T := TX3) (N := 3) (n := 3) hts inlX3 (hts (.instantiable RX3 3) kL_18)
  obtain ⟨c3, iS3, hKn3⟩ := u_known (C := RX4) (T := TX4) (N := 4) (n := 4) hts inlX4 (hts (.instantiable RX4 4) kL_33)
  obtain ⟨c4, iS4, hKn4⟩ := u_known (C := RX5) (T := TX5) (N := 5) (n := 5) hts inlX5 (hts (.instantiable RX5 5) kL_25)
  obtain ⟨c5, iS5, hKn5⟩ := u_known (C := RX6) (T := TX6) (N := 10) (n := 10) hts inlX6 (hts (.instantiable RX6 10) kL_1)
  obtain ⟨c6, iS6, hKn6⟩ := u_known (C := RX7) (T := TX7) (N := 23) (n := 23) hts inlX7 (hts (.instantiable RX7 23) kL_4)
  obtain ⟨dC, dI, hKc⟩ : ∃ (dC : Nat → ClassId) (dI : Nat → Nat → Nat), ∀ (k : Nat) (q : vw_C), vwCl[k]? = some q → u_Kn s q.1 q.2.1 q.2.2 (dC k) (dI k) := by
    refine ⟨fun k => [c0, c1, c2, c3, c4, c5, c6].getD k c0, fun k => [iS0, iS1, iS2, iS3, iS4, iS5, iS6].getD k iS0, ?_⟩
    intro k q hq
    match k, hq with
    | 0, hq => cases hq; exact hKn0
    | 1, hq => cases hq; exact hKn1
    | 2, hq => cases hq; exact hKn2
    | 3, hq => cases hq; exact hKn3
    | 4, hq => cases hq; exact hKn4
    | 5, hq => cases hq; exact hKn5
    | 6, hq => cases hq; exact hKn6
    | k + 7, hq => simp [vwCl] at hq
  have hN : zN s := ⟨va_Nw.of rfl (hts0 _ kT_124), va_Nw.of rfl (hts0 _ kT_156), va_Nw.of rfl (hts0 _ kT_200), va_Nw.of rfl (hts0 _ kT_277), va_Nw.of rfl (hts0 _ kT_280), va_Nw.of rfl (hts0 _ kT_283), va_Nw.of rfl (hts0 _ kT_290), va_AO.of (hts0 _ kT_109), va_AO.of (hts0 _ kT_154)⟩
  obtain ⟨y0, hy0⟩ := zarr_i (hts _ kL_36)
  obtain ⟨y1, hy1⟩ := zarr_c (hts _ kL_62)
  obtain ⟨y2, hy2⟩ := zarr_z (hts _ kL_22)
  obtain ⟨y3, hy3⟩ := zarr_q hN.2.2.2.2.2.2.2.1
  obtain ⟨y4, hy4⟩ := zarr_q hN.2.2.2.2.2.2.2.2
  obtain ⟨cy, hcy⟩ : ∃ cy : Nat → ClassId, cy = fun k => [y0, y1, y2, y3, y4].getD k y0 := ⟨_, rfl⟩
  have e0 : cy 0 = y0 := by rw [hcy]; rfl
  have e1 : cy 1 = y1 := by rw [hcy]; rfl
  have e2 : cy 2 = y2 := by rw [hcy]; rfl
  have e3 : cy 3 = y3 := by rw [hcy]; rfl
  have e4 : cy 4 = y4 := by rw [hcy]; rfl
  have hK : zK (dC, dI) cy s := by
    refine ⟨⟨hKc, fun k q h => ?_⟩, hN⟩
    match k, h with
    | 0, h => cases h; rw [e0]; exact hy0
    | 1, h => cases h; rw [e1]; exact hy1
    | 2, h => cases h; rw [e2]; exact hy2
    | 3, h => cases h; rw [e3]; exact hy3
    | 4, h => cases h; rw [e4]; exact hy4
    | k + 5, h => simp [zty] at h
  generalize (dC, dI) = D at hK
  have hS : va_S (fun q : Nat => s.heap.size ≤ q) s.heap s.heap [] := va_S.rf
  have hP : va_P D vwCl [] s.heap := fun k q h => by simp at h
  have hD : va_D (fun q : Nat => s.heap.size ≤ q) [] := ⟨fun i j p q h => by simp at h, fun k q h => by simp at h⟩
  have hl := lv_entry ([.ref b]) (n := 4) (Nat.le_of_ble_eq_true rfl)
  rw [lg_entry_eq]
  generalize (lg_sl ([.ref b]) ++ List.replicate (4 - (lg_sl ([.ref b])).length) Slot.unset).toArray = ls at hl ⊢
  have hl : lv_has ls 4 [(0, .ref b)] := hl
  refine va_new (ci := 5) (fs := [.null, .null, .null, .null, .null, .null, .null, .null, .null, .null]) (C := RX6) (T := TX6) (N := 10) hx hb hts inlX6 tyX6 tyX6_ok hown (hts _ kL_0) (hts _ kL_1) (hts _ kL_2) hK.1 hP hD hS hA rfl (fun j hj => by rcases (show j = 0 ∨ j = 1 ∨ j = 2 ∨ j = 3 ∨ j = 4 ∨ j = 5 ∨ j = 6 ∨ j = 7 ∨ j = 8 ∨ j = 9 by omega) with rfl | rfl | rfl | rfl | rfl | rfl | rfl | rfl | rfl | rfl <;> rfl) (Nat.le_of_ble_eq_true rfl) (Nat.le_of_ble_eq_true rfl) dL_law_0 (fun xq H hP hD hS => ?_)
  have hP : va_P D vwCl [eO xq 5 [.null, .null, .null, .null, .null, .null, .null, .null, .null, .null]] H := hP
  have hD : va_D (fun q : Nat => s.heap.size ≤ q) [eO xq 5 [.null, .null, .null, .null, .null, .null, .null, .null, .null, .null]] := hD
  refine lv_dup hx hb dL_law_3 rfl ?_
  refine zcallI (wr := []) (rest := [.ref xq]) ⟨hx, hb, hml, hown, hts⟩ (c_X6_init l D cy xq H.size) (cwI 0 hts gL_law_X6_init rfl rfl rfl (hts (.initialized RX6) kL_2) (hts _ kL_6) (hts _ kL_7) rfl (by decide +kernel) ⟨Nat.le_of_ble_eq_true rfl, Nat.le_of_ble_eq_true rfl⟩) hK hP hD hS hA [0] [] rfl rfl rfl rfl (by decide) hl.1 rfl (Nat.le_of_ble_eq_true rfl) dL_law_4 ⟨Nat.le_of_ble_eq_true rfl, Nat.le_of_ble_eq_true rfl⟩ (fun u H locs hu hP hD hS => ?_)
  generalize u.getD 0 0 = g1 at hP hD
  generalize u.getD 1 0 = g2 at hP hD
  generalize u.getD 2 0 = g3 at hP hD
  generalize u.getD 3 0 = g4 at hP hD
  generalize u.getD 4 0 = g5 at hP hD
  generalize u.getD 5 0 = g6 at hP hD
  generalize u.getD 6 0 = g7 at hP hD
  generalize u.getD 7 0 = g8 at hP hD
  generalize u.getD 8 0 = g9 at hP hD
  generalize u.getD 9 0 = g10 at hP hD
  generalize u.getD 10 0 = g11 at hP hD
  generalize u.getD 11 0 = g12 at hP hD
  generalize u.getD 12 0 = g13 at hP hD
  generalize u.getD 13 0 = g14 at hP hD
  generalize u.getD 14 0 = g15 at hP hD
  generalize u.getD 15 0 = g16 at hP hD
  generalize u.getD 16 0 = g17 at hP hD
  generalize u.getD 17 0 = g18 at hP hD
  generalize u.getD 18 0 = g19 at hP hD
  generalize u.getD 19 0 = g20 at hP hD
  generalize u.getD 20 0 = g21 at hP hD
  generalize u.getD 21 0 = g22 at hP hD
  generalize u.getD 22 0 = g23 at hP hD
  generalize u.getD 23 0 = g24 at hP hD
  generalize u.getD 24 0 = g25 at hP hD
  generalize u.getD 25 0 = g26 at hP hD
  generalize u.getD 26 0 = g27 at hP hD
  generalize u.getD 27 0 = g28 at hP hD
  generalize u.getD 28 0 = g29 at hP hD
  generalize u.getD 29 0 = g30 at hP hD
  generalize u.getD 30 0 = g31 at hP hD
  generalize u.getD 31 0 = g32 at hP hD
  generalize u.getD 32 0 = g33 at hP hD
  generalize u.getD 33 0 = g34 at hP hD
  generalize u.getD 34 0 = g35 at hP hD
  generalize u.getD 35 0 = g36 at hP hD
  generalize u.getD 36 0 = g37 at hP hD
  generalize u.getD 37 0 = g38 at hP hD
  generalize u.getD 38 0 = g39 at hP hD
  generalize u.getD 39 0 = g40 at hP hD
  generalize u.getD 40 0 = g41 at hP hD
  generalize u.getD 41 0 = g42 at hP hD
  generalize u.getD 42 0 = g43 at hP hD
  generalize u.getD 43 0 = g44 at hP hD
  generalize u.getD 44 0 = g45 at hP hD
  generalize u.getD 45 0 = g46 at hP hD
  generalize u.getD 46 0 = g47 at hP hD
  generalize u.getD 47 0 = g48 at hP hD
  generalize u.getD 48 0 = g49 at hP hD
  have hP : va_P D vwCl [eO xq 5 [.ref g1, .ref g3, .ref g5, .ref g27, .ref g28, .ref g29, .ref g31, .ref g43, .ref g44, .ref g45], eO g1 0 [.ref g2, .int (zI 0), .int (zI 100), .int (zI 200), .int (zI 2)], eA g2 (cy 0) 7 (fun _ => 0), eO g3 0 [.ref g4, .int (zI 0), .int (zI 100), .int (zI 200), .int (zI 2)], eA g4 (cy 0) 7 (fun _ => 0), eO g5 2 [.ref g6, .int (zI 0), .int (zI 0)], eR g6 (cy 3) 10 [g7, g9, g11, g13, g15, g17, g19, g21, g23, g25], eO g7 0 [.ref g8, .int (zI 0), .int (zI 100), .int (zI 200), .int (zI 2)], eA g8 (cy 0) 7 (fun _ => 0), eO g9 0 [.ref g10, .int (zI 0), .int (zI 100), .int (zI 200), .int (zI 2)], eA g10 (cy 0) 7 (fun _ => 0), eO g11 0 [.ref g12, .int (zI 0), .int (zI 100), .int (zI 200), .int (zI 2)], eA g12 (cy 0) 7 (fun _ => 0), eO g13 0 [.ref g14, .int (zI 0), .int (zI 100), .int (zI 200), .int (zI 2)], eA g14 (cy 0) 7 (fun _ => 0), eO g15 0 [.ref g16, .int (zI 0), .int (zI 100), .int (zI 200), .int (zI 2)], eA g16 (cy 0) 7 (fun _ => 0), eO g17 0 [.ref g18, .int (zI 0), .int (zI 100), .int (zI 200), .int (zI 2)], eA g18 (cy 0) 7 (fun _ => 0), eO g19 0 [.ref g20, .int (zI 0), .int (zI 100), .int (zI 200), .int (zI 2)], eA g20 (cy 0) 7 (fun _ => 0), eO g21 0 [.ref g22, .int (zI 0), .int (zI 100), .int (zI 200), .int (zI 2)], eA g22 (cy 0) 7 (fun _ => 0), eO g23 0 [.ref g24, .int (zI 0), .int (zI 100), .int (zI 200), .int (zI 2)], eA g24 (cy 0) 7 (fun _ => 0), eO g25 0 [.ref g26, .int (zI 0), .int (zI 100), .int (zI 200), .int (zI 2)], eA g26 (cy 0) 7 (fun _ => 0), eR g27 (cy 3) 2 [g46, g48], eA g28 (cy 2) 2 (fun _ => 0), eO g29 4 [.ref g30, .int (zI 0), .int (zI 0), .int (zI 0), .int (zI 0)], eA g30 (cy 1) 100 (fun _ => 0), eO g31 1 [.ref g32, .ref g33, .ref g34, .ref g35, .int (zI 0), .int (zI 0), .int (zI 0), .int (zI 0)], eA g32 (cy 0) 7 (fun _ => 0), eA g33 (cy 0) 7 (fun _ => 0), eA g34 (cy 0) 7 (fun _ => 0), eR g35 (cy 4) 7 [g36, g37, g38, g39, g40, g41, g42], eO g36 3 [.int (zI 1), .int (zI 1), .int (zI 1), .int (zI 1)], eO g37 3 [.int (zI 1), .int (zI 1), .int (zI 1), .int (zI 1)], eO g38 3 [.int (zI 1), .int (zI 1), .int (zI 1), .int (zI 1)], eO g39 3 [.int (zI 1), .int (zI 1), .int (zI 1), .int (zI 1)], eO g40 3 [.int (zI 1), .int (zI 1), .int (zI 1), .int (zI 1)], eO g41 3 [.int (zI 1), .int (zI 1), .int (zI 1), .int (zI 1)], eO g42 3 [.int (zI 1), .int (zI 1), .int (zI 1), .int (zI 1)], eO g43 3 [.int (zI 1), .int (zI 1), .int (zI 1), .int (zI 1)], eA g44 (cy 0) 7 (fun _ => 0), eA g45 (cy 0) 100 (fun _ => 0), eO g46 0 [.ref g47, .int (zI 0), .int (zI 100), .int (zI 200), .int (zI 2)], eA g47 (cy 0) 7 (fun _ => 0), eO g48 0 [.ref g49, .int (zI 0), .int (zI 100), .int (zI 200), .int (zI 2)], eA g49 (cy 0) 7 (fun _ => 0)] H := hP
  have hD : va_D (fun q : Nat => s.heap.size ≤ q) [eO xq 5 [.ref g1, .ref g3, .ref g5, .ref g27, .ref g28, .ref g29, .ref g31, .ref g43, .ref g44, .ref g45], eO g1 0 [.ref g2, .int (zI 0), .int (zI 100), .int (zI 200), .int (zI 2)], eA g2 (cy 0) 7 (fun _ => 0), eO g3 0 [.ref g4, .int (zI 0), .int (zI 100), .int (zI 200), .int (zI 2)], eA g4 (cy 0) 7 (fun _ => 0), eO g5 2 [.ref g6, .int (zI 0), .int (zI 0)], eR g6 (cy 3) 10 [g7, g9, g11, g13, g15, g17, g19, g21, g23, g25], eO g7 0 [.ref g8, .int (zI 0), .int (zI 100), .int (zI 200), .int (zI 2)], eA g8 (cy 0) 7 (fun _ => 0), eO g9 0 [.ref g10, .int (zI 0), .int (zI 100), .int (zI 200), .int (zI 2)], eA g10 (cy 0) 7 (fun _ => 0), eO g11 0 [.ref g12, .int (zI 0), .int (zI 100), .int (zI 200), .int (zI 2)], eA g12 (cy 0) 7 (fun _ => 0), eO g13 0 [.ref g14, .int (zI 0), .int (zI 100), .int (zI 200), .int (zI 2)], eA g14 (cy 0) 7 (fun _ => 0), eO g15 0 [.ref g16, .int (zI 0), .int (zI 100), .int (zI 200), .int (zI 2)], eA g16 (cy 0) 7 (fun _ => 0), eO g17 0 [.ref g18, .int (zI 0), .int (zI 100), .int (zI 200), .int (zI 2)], eA g18 (cy 0) 7 (fun _ => 0), eO g19 0 [.ref g20, .int (zI 0), .int (zI 100), .int (zI 200), .int (zI 2)], eA g20 (cy 0) 7 (fun _ => 0), eO g21 0 [.ref g22, .int (zI 0), .int (zI 100), .int (zI 200), .int (zI 2)], eA g22 (cy 0) 7 (fun _ => 0), eO g23 0 [.ref g24, .int (zI 0), .int (zI 100), .int (zI 200), .int (zI 2)], eA g24 (cy 0) 7 (fun _ => 0), eO g25 0 [.ref g26, .int (zI 0), .int (zI 100), .int (zI 200), .int (zI 2)], eA g26 (cy 0) 7 (fun _ => 0), eR g27 (cy 3) 2 [g46, g48], eA g28 (cy 2) 2 (fun _ => 0), eO g29 4 [.ref g30, .int (zI 0), .int (zI 0), .int (zI 0), .int (zI 0)], eA g30 (cy 1) 100 (fun _ => 0), eO g31 1 [.ref g32, .ref g33, .ref g34, .ref g35, .int (zI 0), .int (zI 0), .int (zI 0), .int (zI 0)], eA g32 (cy 0) 7 (fun _ => 0), eA g33 (cy 0) 7 (fun _ => 0), eA g34 (cy 0) 7 (fun _ => 0), eR g35 (cy 4) 7 [g36, g37, g38, g39, g40, g41, g42], eO g36 3 [.int (zI 1), .int (zI 1), .int (zI 1), .int (zI 1)], eO g37 3 [.int (zI 1), .int (zI 1), .int (zI 1), .int (zI 1)], eO g38 3 [.int (zI 1), .int (zI 1), .int (zI 1), .int (zI 1)], eO g39 3 [.int (zI 1), .int (zI 1), .int (zI 1), .int (zI 1)], eO g40 3 [.int (zI 1), .int (zI 1), .int (zI 1), .int (zI 1)], eO g41 3 [.int (zI 1), .int (zI 1), .int (zI 1), .int (zI 1)], eO g42 3 [.int (zI 1), .int (zI 1), .int (zI 1), .int (zI 1)], eO g43 3 [.int (zI 1), .int (zI 1), .int (zI 1), .int (zI 1)], eA g44 (cy 0) 7 (fun _ => 0), eA g45 (cy 0) 100 (fun _ => 0), eO g46 0 [.ref g47, .int (zI 0), .int (zI 100), .int (zI 200), .int (zI 2)], eA g47 (cy 0) 7 (fun _ => 0), eO g48 0 [.ref g49, .int (zI 0), .int (zI 100), .int (zI 200), .int (zI 2)], eA g49 (cy 0) 7 (fun _ => 0)] := hD
  refine lv_astore_n (lv' := [(1, .ref xq), (0, .ref b)]) hx hb dL_law_7 rfl hl (by decide) rfl (fun ls hl => ?_)
  refine va_new (ci := 6) (fs := [.int (zI 0), .null, .int (zI 0), .int (zI 0), .int (zI 0), .int (zI 0), .int (zI 0), .null, .null, .null, .int (zI 0), .null, .null, .null, .null, .null, .null, .null, .null, .int (zI 0), .null, .int (zI 0), .null]) (C := RX7) (T := TX7) (N := 23) hx hb hts inlX7 tyX7 tyX7_ok hown (hts _ kL_3) (hts _ kL_4) (hts _ kL_5) hK.1 hP hD hS hA rfl (fun j hj => by rcases (show j = 0 ∨ j = 1 ∨ j = 2 ∨ j = 3 ∨ j = 4 ∨ j = 5 ∨ j = 6 ∨ j = 7 ∨ j = 8 ∨ j = 9 ∨ j = 10 ∨ j = 11 ∨ j = 12 ∨ j = 13 ∨ j = 14 ∨ j = 15 ∨ j = 16 ∨ j = 17 ∨ j = 18 ∨ j = 19 ∨ j = 20 ∨ j = 21 ∨ j = 22 by omega) with rfl | rfl | rfl | rfl | rfl | rfl | rfl | rfl | rfl | rfl | rfl | rfl | rfl | rfl | rfl | rfl | rfl | rfl | rfl | rfl | rfl | rfl | rfl <;> rfl) (Nat.le_of_ble_eq_true rfl) (Nat.le_of_ble_eq_true rfl) dL_law_8 (fun mq H hP hD hS => ?_)
  have hP : va_P D vwCl [eO xq 5 [.ref g1, .ref g3, .ref g5, .ref g27, .ref g28, .ref g29, .ref g31, .ref g43, .ref g44, .ref g45], eO g1 0 [.ref g2, .int (zI 0), .int (zI 100), .int (zI 200), .int (zI 2)], eA g2 (cy 0) 7 (fun _ => 0), eO g3 0 [.ref g4, .int (zI 0), .int (zI 100), .int (zI 200), .int (zI 2)], eA g4 (cy 0) 7 (fun _ => 0), eO g5 2 [.ref g6, .int (zI 0), .int (zI 0)], eR g6 (cy 3) 10 [g7, g9, g11, g13, g15, g17, g19, g21, g23, g25], eO g7 0 [.ref g8, .int (zI 0), .int (zI 100), .int (zI 200), .int (zI 2)], eA g8 (cy 0) 7 (fun _ => 0), eO g9 0 [.ref g10, .int (zI 0), .int (zI 100), .int (zI 200), .int (zI 2)], eA g10 (cy 0) 7 (fun _ => 0), eO g11 0 [.ref g12, .int (zI 0), .int (zI 100), .int (zI 200), .int (zI 2)], eA g12 (cy 0) 7 (fun _ => 0), eO g13 0 [.ref g14, .int (zI 0), .int (zI 100), .int (zI 200), .int (zI 2)], eA g14 (cy 0) 7 (fun _ => 0), eO g15 0 [.ref g16, .int (zI 0), .int (zI 100), .int (zI 200), .int (zI 2)], eA g16 (cy 0) 7 (fun _ => 0), eO g17 0 [.ref g18, .int (zI 0), .int (zI 100), .int (zI 200), .int (zI 2)], eA g18 (cy 0) 7 (fun _ => 0), eO g19 0 [.ref g20, .int (zI 0), .int (zI 100), .int (zI 200), .int (zI 2)], eA g20 (cy 0) 7 (fun _ => 0), eO g21 0 [.ref g22, .int (zI 0), .int (zI 100), .int (zI 200), .int (zI 2)], eA g22 (cy 0) 7 (fun _ => 0), eO g23 0 [.ref g24, .int (zI 0), .int (zI 100), .int (zI 200), .int (zI 2)], eA g24 (cy 0) 7 (fun _ => 0), eO g25 0 [.ref g26, .int (zI 0), .int (zI 100), .int (zI 200), .int (zI 2)], eA g26 (cy 0) 7 (fun _ => 0), eR g27 (cy 3) 2 [g46, g48], eA g28 (cy 2) 2 (fun _ => 0), eO g29 4 [.ref g30, .int (zI 0), .int (zI 0), .int (zI 0), .int (zI 0)], eA g30 (cy 1) 100 (fun _ => 0), eO g31 1 [.ref g32, .ref g33, .ref g34, .ref g35, .int (zI 0), .int (zI 0), .int (zI 0), .int (zI 0)], eA g32 (cy 0) 7 (fun _ => 0), eA g33 (cy 0) 7 (fun _ => 0), eA g34 (cy 0) 7 (fun _ => 0), eR g35 (cy 4) 7 [g36, g37, g38, g39, g40, g41, g42], eO g36 3 [.int (zI 1), .int (zI 1), .int (zI 1), .int (zI 1)], eO g37 3 [.int (zI 1), .int (zI 1), .int (zI 1), .int (zI 1)], eO g38 3 [.int (zI 1), .int (zI 1), .int (zI 1), .int (zI 1)], eO g39 3 [.int (zI 1), .int (zI 1), .int (zI 1), .int (zI 1)], eO g40 3 [.int (zI 1), .int (zI 1), .int (zI 1), .int (zI 1)], eO g41 3 [.int (zI 1), .int (zI 1), .int (zI 1), .int (zI 1)], eO g42 3 [.int (zI 1), .int (zI 1), .int (zI 1), .int (zI 1)], eO g43 3 [.int (zI 1), .int (zI 1), .int (zI 1), .int (zI 1)], eA g44 (cy 0) 7 (fun _ => 0), eA g45 (cy 0) 100 (fun _ => 0), eO g46 0 [.ref g47, .int (zI 0), .int (zI 100), .int (zI 200), .int (zI 2)], eA g47 (cy 0) 7 (fun _ => 0), eO g48 0 [.ref g49, .int (zI 0), .int (zI 100), .int (zI 200), .int (zI 2)], eA g49 (cy 0) 7 (fun _ => 0), eO mq 6 [.int (zI 0), .null, .int (zI 0), .int (zI 0), .int (zI 0), .int (zI 0), .int (zI 0), .null, .null, .null, .int (zI 0), .null, .null, .null, .null, .null, .null, .null, .null, .int (zI 0), .null, .int (zI 0), .null]] H := hP
  have hD : va_D (fun q : Nat => s.heap.size ≤ q) [eO xq 5 [.ref g1, .ref g3, .ref g5, .ref g27, .ref g28, .ref g29, .ref g31, .ref g43, .ref g44, .ref g45], eO g1 0 [.ref g2, .int (zI 0), .int (zI 100), .int (zI 200), .int (zI 2)], eA g2 (cy 0) 7 (fun _ => 0), eO g3 0 [.ref g4, .int (zI 0), .int (zI 100), .int (zI 200), .int (zI 2)], eA g4 (cy 0) 7 (fun _ => 0), eO g5 2 [.ref g6, .int (zI 0), .int (zI 0)], eR g6 (cy 3) 10 [g7, g9, g11, g13, g15, g17, g19, g21, g23, g25], eO g7 0 [.ref g8, .int (zI 0), .int (zI 100), .int (zI 200), .int (zI 2)], eA g8 (cy 0) 7 (fun _ => 0), eO g9 0 [.ref g10, .int (zI 0), .int (zI 100), .int (zI 200), .int (zI 2)], eA g10 (cy 0) 7 (fun _ => 0), eO g11 0 [.ref g12, .int (zI 0), .int (zI 100), .int (zI 200), .int (zI 2)], eA g12 (cy 0) 7 (fun _ => 0), eO g13 0 [.ref g14, .int (zI 0), .int (zI 100), .int (zI 200), .int (zI 2)], eA g14 (cy 0) 7 (fun _ => 0), eO g15 0 [.ref g16, .int (zI 0), .int (zI 100), .int (zI 200), .int (zI 2)], eA g16 (cy 0) 7 (fun _ => 0), eO g17 0 [.ref g18, .int (zI 0), .int (zI 100), .int (zI 200), .int (zI 2)], eA g18 (cy 0) 7 (fun _ => 0), eO g19 0 [.ref g20, .int (zI 0), .int (zI 100), .int (zI 200), .int (zI 2)], eA g20 (cy 0) 7 (fun _ => 0), eO g21 0 [.ref g22, .int (zI 0), .int (zI 100), .int (zI 200), .int (zI 2)], eA g22 (cy 0) 7 (fun _ => 0), eO g23 0 [.ref g24, .int (zI 0), .int (zI 100), .int (zI 200), .int (zI 2)], eA g24 (cy 0) 7 (fun _ => 0), eO g25 0 [.ref g26, .int (zI 0), .int (zI 100), .int (zI 200), .int (zI 2)], eA g26 (cy 0) 7 (fun _ => 0), eR g27 (cy 3) 2 [g46, g48], eA g28 (cy 2) 2 (fun _ => 0), eO g29 4 [.ref g30, .int (zI 0), .int (zI 0), .int (zI 0), .int (zI 0)], eA g30 (cy 1) 100 (fun _ => 0), eO g31 1 [.ref g32, .ref g33, .ref g34, .ref g35, .int (zI 0), .int (zI 0), .int (zI 0), .int (zI 0)], eA g32 (cy 0) 7 (fun _ => 0), eA g33 (cy 0) 7 (fun _ => 0), eA g34 (cy 0) 7 (fun _ => 0), eR g35 (cy 4) 7 [g36, g37, g38, g39, g40, g41, g42], eO g36 3 [.int (zI 1), .int (zI 1), .int (zI 1), .int (zI 1)], eO g37 3 [.int (zI 1), .int (zI 1), .int (zI 1), .int (zI 1)], eO g38 3 [.int (zI 1), .int (zI 1), .int (zI 1), .int (zI 1)], eO g39 3 [.int (zI 1), .int (zI 1), .int (zI 1), .int (zI 1)], eO g40 3 [.int (zI 1), .int (zI 1), .int (zI 1), .int (zI 1)], eO g41 3 [.int (zI 1), .int (zI 1), .int (zI 1), .int (zI 1)], eO g42 3 [.int (zI 1), .int (zI 1), .int (zI 1), .int (zI 1)], eO g43 3 [.int (zI 1), .int (zI 1), .int (zI 1), .int (zI 1)], eA g44 (cy 0) 7 (fun _ => 0), eA g45 (cy 0) 100 (fun _ => 0), eO g46 0 [.ref g47, .int (zI 0), .int (zI 100), .int (zI 200), .int (zI 2)], eA g47 (cy 0) 7 (fun _ => 0), eO g48 0 [.ref g49, .int (zI 0), .int (zI 100), .int (zI 200), .int (zI 2)], eA g49 (cy 0) 7 (fun _ => 0), eO mq 6 [.int (zI 0), .null, .int (zI 0), .int (zI 0), .int (zI 0), .int (zI 0), .int (zI 0), .null, .null, .null, .int (zI 0), .null, .null, .null, .null, .null, .null, .null, .null, .int (zI 0), .null, .int (zI 0), .null]] := hD
  refine lv_dup hx hb dL_law_11 rfl ?_
  refine zcallI (wr := [eO xq 5 [.ref g1, .ref g3, .ref g5, .ref g27, .ref g28, .ref g29, .ref g31, .ref g43, .ref g44, .ref g45], eO g1 0 [.ref g2, .int (zI 0), .int (zI 100), .int (zI 200), .int (zI 2)], eA g2 (cy 0) 7 (fun _ => 0), eO g3 0 [.ref g4, .int (zI 0), .int (zI 100), .int (zI 200), .int (zI 2)], eA g4 (cy 0) 7 (fun _ => 0), eO g5 2 [.ref g6, .int (zI 0), .int (zI 0)], eR g6 (cy 3) 10 [g7, g9, g11, g13, g15, g17, g19, g21, g23, g25], eO g7 0 [.ref g8, .int (zI 0), .int (zI 100), .int (zI 200), .int (zI 2)], eA g8 (cy 0) 7 (fun _ => 0), eO g9 0 [.ref g10, .int (zI 0), .int (zI 100), .int (zI 200), .int (zI 2)], eA g10 (cy 0) 7 (fun _ => 0), eO g11 0 [.ref g12, .int (zI 0), .int (zI 100), .int (zI 200), .int (zI 2)], eA g12 (cy 0) 7 (fun _ => 0), eO g13 0 [.ref g14, .int (zI 0), .int (zI 100), .int (zI 200), .int (zI 2)], eA g14 (cy 0) 7 (fun _ => 0), eO g15 0 [.ref g16, .int (zI 0), .int (zI 100), .int (zI 200), .int (zI 2)], eA g16 (cy 0) 7 (fun _ => 0), eO g17 0 [.ref g18, .int (zI 0), .int (zI 100), .int (zI 200), .int (zI 2)], eA g18 (cy 0) 7 (fun _ => 0), eO g19 0 [.ref g20, .int (zI 0), .int (zI 100), .int (zI 200), .int (zI 2)], eA g20 (cy 0) 7 (fun _ => 0), eO g21 0 [.ref g22, .int (zI 0), .int (zI 100), .int (zI 200), .int (zI 2)], eA g22 (cy 0) 7 (fun _ => 0), eO g23 0 [.ref g24, .int (zI 0), .int (zI 100), .int (zI 200), .int (zI 2)], eA g24 (cy 0) 7 (fun _ => 0), eO g25 0 [.ref g26, .int (zI 0), .int (zI 100), .int (zI 200), .int (zI 2)], eA g26 (cy 0) 7 (fun _ => 0), eR g27 (cy 3) 2 [g46, g48], eA g28 (cy 2) 2 (fun _ => 0), eO g29 4 [.ref g30, .int (zI 0), .int (zI 0), .int (zI 0), .int (zI 0)], eA g30 (cy 1) 100 (fun _ => 0), eO g31 1 [.ref g32, .ref g33, .ref g34, .ref g35, .int (zI 0), .int (zI 0), .int (zI 0), .int (zI 0)], eA g32 (cy 0) 7 (fun _ => 0), eA g33 (cy 0) 7 (fun _ => 0), eA g34 (cy 0) 7 (fun _ => 0), eR g35 (cy 4) 7 [g36, g37, g38, g39, g40, g41, g42], eO g36 3 [.int (zI 1), .int (zI 1), .int (zI 1), .int (zI 1)], eO g37 3 [.int (zI 1), .int (zI 1), .int (zI 1), .int (zI 1)], eO g38 3 [.int (zI 1), .int (zI 1), .int (zI 1), .int (zI 1)], eO g39 3 [.int (zI 1), .int (zI 1), .int (zI 1), .int (zI 1)], eO g40 3 [.int (zI 1), .int (zI 1), .int (zI 1), .int (zI 1)], eO g41 3 [.int (zI 1), .int (zI 1), .int (zI 1), .int (zI 1)], eO g42 3 [.int (zI 1), .int (zI 1), .int (zI 1), .int (zI 1)], eO g43 3 [.int (zI 1), .int (zI 1), .int (zI 1), .int (zI 1)], eA g44 (cy 0) 7 (fun _ => 0), eA g45 (cy 0) 100 (fun _ => 0), eO g46 0 [.ref g47, .int (zI 0), .int (zI 100), .int (zI 200), .int (zI 2)], eA g47 (cy 0) 7 (fun _ => 0), eO g48 0 [.ref g49, .int (zI 0), .int (zI 100), .int (zI 200), .int (zI 2)], eA g49 (cy 0) 7 (fun _ => 0)]) (rest := [.ref mq]) ⟨hx, hb, hml, hown, hts⟩ (c_X7_init l D cy mq H.size) (cwI 0 hts gL_law_X7_init rfl rfl rfl (hts (.initialized RX7) kL_5) (hts _ kL_80) (hts _ kL_81) rfl (by decide +kernel) ⟨Nat.le_of_ble_eq_true rfl, Nat.le_of_ble_eq_true rfl⟩) hK hP hD hS hA [50] [0, 1, 2, 3, 4, 5, 6, 7, 8, 9, 10, 11, 12, 13, 14, 15, 16, 17, 18, 19, 20, 21, 22, 23, 24, 25, 26, 27, 28, 29, 30, 31, 32, 33, 34, 35, 36, 37, 38, 39, 40, 41, 42, 43, 44, 45, 46, 47, 48, 49] rfl rfl rfl rfl (by decide) hl.1 rfl (Nat.le_of_ble_eq_true rfl) dL_law_12 ⟨Nat.le_of_ble_eq_true rfl, Nat.le_of_ble_eq_true rfl⟩ (fun u H locs hu hP hD hS => ?_)
  generalize u.getD 0 0 = g50 at hP hD
  generalize u.getD 1 0 = g51 at hP hD
  generalize u.getD 2 0 = g52 at hP hD
  generalize u.getD 3 0 = g53 at hP hD
  generalize u.getD 4 0 = g54 at hP hD
  generalize u.getD 5 0 = g55 at hP hD
  generalize u.getD 6 0 = g56 at hP hD
  generalize u.getD 7 0 = g57 at hP hD
  generalize u.getD 8 0 = g58 at hP hD
  generalize u.getD 9 0 = g59 at hP hD
  generalize u.getD 10 0 = g60 at hP hD
  generalize u.getD 11 0 = g61 at hP hD
  generalize u.getD 12 0 = g62 at hP hD
  generalize u.getD 13 0 = g63 at hP hD
  have hP : va_P D vwCl [eO xq 5 [.ref g1, .ref g3, .ref g5, .ref g27, .ref g28, .ref g29, .ref g31, .ref g43, .ref g44, .ref g45], eO g1 0 [.ref g2, .int (zI 0), .int (zI 100), .int (zI 200), .int (zI 2)], eA g2 (cy 0) 7 (fun _ => 0), eO g3 0 [.ref g4, .int (zI 0), .int (zI 100), .int (zI 200), .int (zI 2)], eA g4 (cy 0) 7 (fun _ => 0), eO g5 2 [.ref g6, .int (zI 0), .int (zI 0)], eR g6 (cy 3) 10 [g7, g9, g11, g13, g15, g17, g19, g21, g23, g25], eO g7 0 [.ref g8, .int (zI 0), .int (zI 100), .int (zI 200), .int (zI 2)], eA g8 (cy 0) 7 (fun _ => 0), eO g9 0 [.ref g10, .int (zI 0), .int (zI 100), .int (zI 200), .int (zI 2)], eA g10 (cy 0) 7 (fun _ => 0), eO g11 0 [.ref g12, .int (zI 0), .int (zI 100), .int (zI 200), .int (zI 2)], eA g12 (cy 0) 7 (fun _ => 0), eO g13 0 [.ref g14, .int (zI 0), .int (zI 100), .int (zI 200), .int (zI 2)], eA g14 (cy 0) 7 (fun _ => 0), eO g15 0 [.ref g16, .int (zI 0), .int (zI 100), .int (zI 200), .int (zI 2)], eA g16 (cy 0) 7 (fun _ => 0), eO g17 0 [.ref g18, .int (zI 0), .int (zI 100), .int (zI 200), .int (zI 2)], eA g18 (cy 0) 7 (fun _ => 0), eO g19 0 [.ref g20, .int (zI 0), .int (zI 100), .int (zI 200), .int (zI 2)], eA g20 (cy 0) 7 (fun _ => 0), eO g21 0 [.ref g22, .int (zI 0), .int (zI 100), .int (zI 200), .int (zI 2)], eA g22 (cy 0) 7 (fun _ => 0), eO g23 0 [.ref g24, .int (zI 0), .int (zI 100), .int (zI 200), .int (zI 2)], eA g24 (cy 0) 7 (fun _ => 0), eO g25 0 [.ref g26, .int (zI 0), .int (zI 100), .int (zI 200), .int (zI 2)], eA g26 (cy 0) 7 (fun _ => 0), eR g27 (cy 3) 2 [g46, g48], eA g28 (cy 2) 2 (fun _ => 0), eO g29 4 [.ref g30, .int (zI 0), .int (zI 0), .int (zI 0), .int (zI 0)], eA g30 (cy 1) 100 (fun _ => 0), eO g31 1 [.ref g32, .ref g33, .ref g34, .ref g35, .int (zI 0), .int (zI 0), .int (zI 0), .int (zI 0)], eA g32 (cy 0) 7 (fun _ => 0), eA g33 (cy 0) 7 (fun _ => 0), eA g34 (cy 0) 7 (fun _ => 0), eR g35 (cy 4) 7 [g36, g37, g38, g39, g40, g41, g42], eO g36 3 [.int (zI 1), .int (zI 1), .int (zI 1), .int (zI 1)], eO g37 3 [.int (zI 1), .int (zI 1), .int (zI 1), .int (zI 1)], eO g38 3 [.int (zI 1), .int (zI 1), .int (zI 1), .int (zI 1)], eO g39 3 [.int (zI 1), .int (zI 1), .int (zI 1), .int (zI 1)], eO g40 3 [.int (zI 1), .int (zI 1), .int (zI 1), .int (zI 1)], eO g41 3 [.int (zI 1), .int (zI 1), .int (zI 1), .int (zI 1)], eO g42 3 [.int (zI 1), .int (zI 1), .int (zI 1), .int (zI 1)], eO g43 3 [.int (zI 1), .int (zI 1), .int (zI 1), .int (zI 1)], eA g44 (cy 0) 7 (fun _ => 0), eA g45 (cy 0) 100 (fun _ => 0), eO g46 0 [.ref g47, .int (zI 0), .int (zI 100), .int (zI 200), .int (zI 2)], eA g47 (cy 0) 7 (fun _ => 0), eO g48 0 [.ref g49, .int (zI 0), .int (zI 100), .int (zI 200), .int (zI 2)], eA g49 (cy 0) 7 (fun _ => 0), eO mq 6 [.int (zI 0), .ref g50, .int (zI 0), .int (zI 0), .int (zI 0), .int (zI 0), .int (zI 0), .ref g51, .ref g52, .ref g53, .int (zI 0), .ref g54, .ref g55, .ref g56, .ref g57, .ref g58, .ref g59, .ref g60, .ref g61, .int (zI 0), .ref g62, .int (zI 0), .ref g63], eA g50 (cy 0) 100 (fun _ => 0), eA g51 (cy 0) 11 (zup (zup (zup (fun _ => 0) 1 100) 2 200) 3 2), eA g52 (cy 0) 11 (fun _ => 0), eA g53 (cy 0) 110 (fun _ => 0), eA g54 (cy 2) 2 (fun _ => 0), eA g55 (cy 0) 22 (fun _ => 0), eA g56 (cy 0) 11 (fun _ => 0), eA g57 (cy 0) 7 (fun _ => 0), eA g58 (cy 0) 7 (fun _ => 0), eA g59 (cy 0) 7 (fun _ => 0), eA g60 (cy 0) 7 (fun _ => 0), eA g61 (cy 0) 7 (fun _ => 0), eA g62 (cy 2) 512 (fun _ => 0), eA g63 (cy 0) 7 (fun _ => 0)] H := hP
  have hD : va_D (fun q : Nat => s.heap.size ≤ q) [eO xq 5 [.ref g1, .ref g3, .ref g5, .ref g27, .ref g28, .ref g29, .ref g31, .ref g43, .ref g44, .ref g45], eO g1 0 [.ref g2, .int (zI 0), .int (zI 100), .int (zI 200), .int (zI 2)], eA g2 (cy 0) 7 (fun _ => 0), eO g3 0 [.ref g4, .int (zI 0), .int (zI 100), .int (zI 200), .int (zI 2)], eA g4 (cy 0) 7 (fun _ => 0), eO g5 2 [.ref g6, .int (zI 0), .int (zI 0)], eR g6 (cy 3) 10 [g7, g9, g11, g13, g15, g17, g19, g21, g23, g25], eO g7 0 [.ref g8, .int (zI 0), .int (zI 100), .int (zI 200), .int (zI 2)], eA g8 (cy 0) 7 (fun _ => 0), eO g9 0 [.ref g10, .int (zI 0), .int (zI 100), .int (zI 200), .int (zI 2)], eA g10 (cy 0) 7 (fun _ => 0), eO g11 0 [.ref g12, .int (zI 0), .int (zI 100), .int (zI 200), .int (zI 2)], eA g12 (cy 0) 7 (fun _ => 0), eO g13 0 [.ref g14, .int (zI 0), .int (zI 100), .int (zI 200), .int (zI 2)], eA g14 (cy 0) 7 (fun _ => 0), eO g15 0 [.ref g16, .int (zI 0), .int (zI 100), .int (zI 200), .int (zI 2)], eA g16 (cy 0) 7 (fun _ => 0), eO g17 0 [.ref g18, .int (zI 0), .int (zI 100), .int (zI 200), .int (zI 2)], eA g18 (cy 0) 7 (fun _ => 0), eO g19 0 [.ref g20, .int (zI 0), .int (zI 100), .int (zI 200), .int (zI 2)], eA g20 (cy 0) 7 (fun _ => 0), eO g21 0 [.ref g22, .int (zI 0), .int (zI 100), .int (zI 200), .int (zI 2)], eA g22 (cy 0) 7 (fun _ => 0), eO g23 0 [.ref g24, .int (zI 0), .int (zI 100), .int (zI 200), .int (zI 2)], eA g24 (cy 0) 7 (fun _ => 0), eO g25 0 [.ref g26, .int (zI 0), .int (zI 100), .int (zI 200), .int (zI 2)], eA g26 (cy 0) 7 (fun _ => 0), eR g27 (cy 3) 2 [g46, g48], eA g28 (cy 2) 2 (fun _ => 0), eO g29 4 [.ref g30, .int (zI 0), .int (zI 0), .int (zI 0), .int (zI 0)], eA g30 (cy 1) 100 (fun _ => 0), eO g31 1 [.ref g32, .ref g33, .ref g34, .ref g35, .int (zI 0), .int (zI 0), .int (zI 0), .int (zI 0)], eA g32 (cy 0) 7 (fun _ => 0), eA g33 (cy 0) 7 (fun _ => 0), eA g34 (cy 0) 7 (fun _ => 0), eR g35 (cy 4) 7 [g36, g37, g38, g39, g40, g41, g42], eO g36 3 [.int (zI 1), .int (zI 1), .int (zI 1), .int (zI 1)], eO g37 3 [.int (zI 1), .int (zI 1), .int (zI 1), .int (zI 1)], eO g38 3 [.int (zI 1), .int (zI 1), .int (zI 1), .int (zI 1)], eO g39 3 [.int (zI 1), .int (zI 1), .int (zI 1), .int (zI 1)], eO g40 3 [.int (zI 1), .int (zI 1), .int (zI 1), .int (zI 1)], eO g41 3 [.int (zI 1), .int (zI 1), .int (zI 1), .int (zI 1)], eO g42 3 [.int (zI 1), .int (zI 1), .int (zI 1), .int (zI 1)], eO g43 3 [.int (zI 1), .int (zI 1), .int (zI 1), .int (zI 1)], eA g44 (cy 0) 7 (fun _ => 0), eA g45 (cy 0) 100 (fun _ => 0), eO g46 0 [.ref g47, .int (zI 0), .int (zI 100), .int (zI 200), .int (zI 2)], eA g47 (cy 0) 7 (fun _ => 0), eO g48 0 [.ref g49, .int (zI 0), .int (zI 100), .int (zI 200), .int (zI 2)], eA g49 (cy 0) 7 (fun _ => 0), eO mq 6 [.int (zI 0), .ref g50, .int (zI 0), .int (zI 0), .int (zI 0), .int (zI 0), .int (zI 0), .ref g51, .ref g52, .ref g53, .int (zI 0), .ref g54, .ref g55, .ref g56, .ref g57, .ref g58, .ref g59, .ref g60, .ref g61, .int (zI 0), .ref g62, .int (zI 0), .ref g63], eA g50 (cy 0) 100 (fun _ => 0), eA g51 (cy 0) 11 (zup (zup (zup (fun _ => 0) 1 100) 2 200) 3 2), eA g52 (cy 0) 11 (fun _ => 0), eA g53 (cy 0) 110 (fun _ => 0), eA g54 (cy 2) 2 (fun _ => 0), eA g55 (cy 0) 22 (fun _ => 0), eA g56 (cy 0) 11 (fun _ => 0), eA g57 (cy 0) 7 (fun _ => 0), eA g58 (cy 0) 7 (fun _ => 0), eA g59 (cy 0) 7 (fun _ => 0), eA g60 (cy 0) 7 (fun _ => 0), eA g61 (cy 0) 7 (fun _ => 0), eA g62 (cy 2) 512 (fun _ => 0), eA g63 (cy 0) 7 (fun _ => 0)] := hD
  refine lv_astore_n (lv' := [(2, .ref mq), (1, .ref xq), (0, .ref b)]) hx hb dL_law_15 rfl hl (by decide) rfl (fun ls hl => ?_)
  refine lv_iconst (v := zI 0) hx hb dL_law_16 rfl ?_
  refine lv_istore_n (lv' := [(3, .int (zI 0)), (2, .ref mq), (1, .ref xq), (0, .ref b)]) hx hb dL_law_17 rfl hl (by decide) rfl (fun ls hl => ?_)
  refine W.widen (k := 65) (n := 1319) (Nat.le_of_ble_eq_true rfl) (Nat.le_of_ble_eq_true rfl) ?_
  exact law_loop hL C0 hK xq g1 g3 g5 g27 g28 g29 g31 g43 g44 g45 g2 g4 g6 g7 g9 g11 g13 g15 g17 g19 g21 g23 g25 g8 g10 g12 g14 g16 g18 g20 g22 g24 g26 g46 g48 g47 g49 g30 g32 g33 g34 g35 g36 g37 g38 g39 g40 g41 g42 mq g50 g51 g52 g53 g54 g55 g56 g57 g58 g59 g60 g61 g62 g63 (L + 1) 0 0 100 200 2 (fun _ => 0) 0 100 200 2 (fun _ => 0) 0 0 (fun _ => 0) (fun _ => 100) (fun _ => 200) (fun _ => 2) (fun _ _ => 0) (fun _ => 0) (fun _ => 100) (fun _ => 200) (fun _ => 2) (fun _ _ => 0) (fun _ => 0) 0 0 0 0 (fun _ => 0) 0 0 0 0 (fun _ => 0) (fun _ => 0) (fun _ => 0) (fun _ => 1) (fun _ => 1) (fun _ => 1) (fun _ => 1) 1 1 1 1 (fun _ => 0) (fun _ => 0) 0 0 0 0 0 0 0 0 0 (fun _ => 0) (zup (zup (zup (fun _ => 0) 1 100) 2 200) 3 2) (fun _ => 0) (fun _ => 0) (fun _ => 0) (fun _ => 0) (fun _ => 0) (fun _ => 0) (fun _ => 0) (fun _ => 0) (fun _ => 0) (fun _ => 0) (fun _ => 0) (fun _ => 0) (by omega) (by omega) (by omega) zRel_0 H locs ls (hP.sub [0, 1, 2, 3, 4, 5, 6, 7, 8, 9, 10, 11, 12, 13, 14, 15, 16, 17, 18, 19, 20, 21, 22, 23, 24, 25, 26, 27, 46, 47, 48, 49, 28, 29, 30, 31, 32, 33, 34, 35, 36, 37, 38, 39, 40, 41, 42, 43, 44, 45, 50, 51, 52, 53, 54, 55, 56, 57, 58, 59, 60, 61, 62, 63, 64] rfl) (hD.sub [0, 1, 2, 3, 4, 5, 6, 7, 8, 9, 10, 11, 12, 13, 14, 15, 16, 17, 18, 19, 20, 21, 22, 23, 24, 25, 26, 27, 46, 47, 48, 49, 28, 29, 30, 31, 32, 33, 34, 35, 36, 37, 38, 39, 40, 41, 42, 43, 44, 45, 50, 51, 52, 53, 54, 55, 56, 57, 58, 59, 60, 61, 62, 63, 64] rfl rfl) hS (lv_sub hl [3, 2, 1, 0] rfl)
-- ===== YOUR PART ENDS =====
set_option maxHeartbeats 4000000 in
theorem lw_walk (l : Launch) (hflags : l.flags = flags0) (b : Addr) (xs : List Int32) : MetFree l x (headSpec (Jvm.Cond.code x code maxLocals ret :: tables_1) room_1) (lw_P b xs) (fun _ _ _ _ _ => True) lw_Q := by
  refine MetFree.of_bodyS (code := code) (maxLocals := maxLocals) (ret := ret) (by decide) ?_ ?_
  · intro args s m h hn
    obtain ⟨meth, c, h1, h2, h3, h4, h5, h6, -, -⟩ := Cond.code_spec hn (atoms_spec (ws := Jvm.Cond.code x code maxLocals ret :: tables_1) h _ List.mem_cons_self)
    exact ⟨meth, c, h1, h2, h3, h4, h5, h6⟩
  · intro p e s m args below meth c s₁ B hml0 hP _
    obtain ⟨rfl, hx, hbd, hgv⟩ := hP
    obtain ⟨scr, harrAt, hlist, hof, hsmall⟩ := hx
    obtain ⟨hcb, hkn, -, -⟩ := State.arrayAt?_spec harrAt
    have hown : s.vm.findClass R_law = some m.cls := findClass_of_methodNamed B.named
    have hts0 : ∀ c ∈ (Jvm.Cond.code x code maxLocals ret :: tables_1), c.before #[Value.ref b] s = true := atoms_spec (ws := Jvm.Cond.code x code maxLocals ret :: tables_1) B.pre
    have hts : ∀ w ∈ lw_tbl, w.before #[Value.ref b] s = true := k2_hts_sels lw_privs (fun w hw => hts0 w (List.mem_cons_of_mem _ hw)) lw_privs_ok
    have hml : c.maxLocals = 4 := B.maxLocals_eq (hts0 _ List.mem_cons_self)
    have X₀ : Stand p l e room_1 s m #[Value.ref b] below meth c s₁ [] 0 0 := Stand.of_body B
    have hh0 : s₁.heap = s.heap := by rw [B.state]; rfl
    have hsz : scr.slots.size = xs.length := by rw [← Array.length_toList, hlist, List.length_map]
    have hval : ∀ j : Nat, j < xs.length → scr.slots[j]? = some (.int (xs.getD j 0)) := fun j hj => by
      rw [← Array.getElem?_toList, hlist]
      simp [hj]
    have hbl : b < s.heap.size := (Array.getElem?_eq_some_iff.mp hcb).1
    have hX : va_X b xs.length (fun j => xs.getD j 0) s s.heap := ⟨scr, hcb, hof, hkn, hsz, hval⟩
    have K : W p l e room_1 s m #[Value.ref b] below meth c s₁.heap [] 0 0 (lw_Z below #[Value.ref b] s) (entryFrame m ([Value.ref b] : List Value).toArray 4) := by
      rw [hh0]
      exact whole_start l hflags hbd ⟨B.exec, B.bytes, B.returns, hml, hown, hts, hX, hbl, B.notSynchronized, hgv⟩
    obtain ⟨t, a1, o, b1, b2, b3⟩ := K s₁ rfl X₀
    exact ⟨t, o, a1, b1, b2, b3⟩
theorem lw_pre_spec {args : Array Value} {s : State} (h : (Jvm.Cond.and given_1 narrow_1).before args s = true) (hr : rest_1_c.before args s = true) : ∃ (b : Addr) (xs : List Int32), lw_P b xs args s := by
  have hs := flat_of_before _ h
  have hq := flat_of_before _ hr
  have hc : (Cond.count 1).before args s = true := hs _ (by decide +kernel)
  have harr : (Cond.arrayOf (.arg 0) .int).before args s = true := hs _ (by decide +kernel)
  have hle : (Cond.le (.length (.arg 0)) (.int 2560)).before args s = true := hs _ (by decide +kernel)
  have hlen : (Cond.isInt (.length (.arg 0))).before args s = true := hq _ (by decide +kernel)
  have hall : (Cond.all (.arg 0) (.isInt (.elem (.arg 0) (.index 0)))).before args s = true := hq _ (by decide +kernel)
  obtain ⟨b, xs, hb, hx⟩ := State.ints_of_pre rfl harr hlen hall
  have hsm : xs.length < 2 ^ 31 := hx.choose_spec.2.2.2
  have hev : (Term.length (.arg 0)).eval args s none [] s = some (.int xs.length.toInt32) := hx.length_eval hb
  have hv := Cond.le_ints hev (show (Term.int 2560).eval args s none [] s = some (.int 2560) from rfl)
  have hd : xs.length.toInt32 ≤ 2560 := by
    simpa [Cond.before, Cond.holds, hv] using hle
  have hN : xs.length ≤ 2560 := (Int32.ofNat_le_ofNat hsm (by decide)).mp (show Int32.ofNat xs.length ≤ Int32.ofNat 2560 from hd)
  exact ⟨b, xs, Cond.one_arg hc (show args[0]? = some (.ref b) from hb), hx, hN, h⟩
theorem lw_comes (l : Launch) (hflags : l.flags = flags0) : Comes l x (Jvm.Cond.code x code maxLocals ret :: tables_1) room_1 (fun tb e args s => Calls_1 tb e args s ∧ rest_1 tb e args s ∧ Pre_1 tb e args s)
    (fun _ _ args s o t => lw_Q args s o t) := by
  intro p e ha hc hk s m args below hf hfit hheap happ hpre
  obtain ⟨b, xs, hP⟩ := lw_pre_spec hpre.2.2 hpre.2.1
  obtain ⟨k, o, h1, h2, h3, hQ⟩ := lw_walk l hflags b xs p e ha hc hk s m args below hf ((Spec.applies_iff_loose hf).mp happ).1 hP trivial
  exact ⟨k, o, h1, h2, h3, hQ⟩
theorem lw_frame {s t : State} {o : Outcome} {args : Array Value} (h : Framed s o t [] 600000 7302250) :
    Framed s o t (fieldLocs frame_1_writes args s ++ arrayLocs frame_1_arrays args s ++ staticLocs frame_1_statics s) 600000 7302250 := h
theorem lw_limb (L : Cond) (hL : ∀ (args : Array Value) (s t : State), L.after args s (.returned (some (.int 1))) t = true) :
    ArmFor flags0 classFile x code maxLocals ret World_1 tables_1 room_1 Calls_1 rest_1 Pre_1
      (fun tb e a s o t => postC L tb e a s o t ∧ Framed s o t (fieldLocs frame_1_writes a s ++ arrayLocs frame_1_arrays a s ++ staticLocs frame_1_statics s) 600000 7302250) := by
  intro l hflags _ _ p e ha hc hk s m args below hf hfit hheap happ hpre
  obtain ⟨k, o, h1, h2, h3, rfl, hF⟩ := lw_comes l hflags p e ha hc hk s m args below hf hfit hheap happ hpre
  exact ⟨k, _, h1, h2, h3, hL args s _, lw_frame hF⟩
theorem i_vc : Claimed_1_1 ∧ Claimed_1_2 := ⟨lw_limb limb_1_1 (fun args s t => by simp [limb_1_1, Cond.after, Cond.holds, Cond.value]), lw_limb limb_1_2 (fun args s t => Cond.after_iff.mpr (by
  first | (rw [show limb_1_2 = Cond.eq .result (.int 1) from rfl, Cond.eq_ints (x := 1) (y := 1) rfl rfl]; simp; done) | (simp [limb_1_2, Cond.value, Term.eval]; done)))⟩
