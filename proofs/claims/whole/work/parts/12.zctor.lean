/-! rows for constructors and for the law -/
theorem zad_nil : (fun _ => none : Nat → Option Nat) = zad [] := by
  funext k
  simp [zad]
theorem zad_push (L : List Nat) (v : Nat) : va_up (zad L) L.length (some v) = zad (L ++ [v]) := by
  funext k
  simp only [va_up, zad]
  by_cases h : k = L.length
  · subst h
    simp
  · rw [if_neg h]
    by_cases h2 : k < L.length
    · rw [List.getElem?_append_left h2]
    · rw [List.getElem?_eq_none (by omega), List.getElem?_eq_none (by simp; omega)]
def zMc (l : Launch) (y : MethodName) (tw : List Cond) (rm : Room) (D : va_G) (cy : Nat → ClassId) (sz : Nat) (o : Nat) (wc : va_W) (k : Nat) (w1 : List Nat → va_W) (mc ms : Nat) : Prop := Met l y tw rm (va_Pc [.ref o] (zPre D cy sz wc)) (va_Qv (fun (u : List Nat) => u.length = k) (fun u t => va_P D vwCl (w1 u) t.heap ∧ va_D (va_A wc sz) (w1 u)) (va_A wc sz)) mc ms (va_A wc sz)
section ZD
variable {p : Program} {l : Launch} {e : Env} {R : Room} {s : State} {m : MethodId} {args : Array Value} {below : List Frame} {meth : Method} {c : Code} {H : Heap} {locs : List Loc} {cells slots : Nat} {Q : State → Prop}
variable {y : MethodName} {bytes cc : ByteArray} {maxL nL n index mc ms k : Nat} {tw : List Cond} {rm : Room} {Ts : List Cond} {own C host : String} {b : Addr} {rest st : List Value} {D : va_G} {cy : Nat → ClassId} {w wc wr : va_W} {w1 : List Nat → va_W} {A : Nat → Prop} {pc : Nat} {ls : Array Slot} {ad : Nat}

theorem zcallI (S : CallFix p m c cc nL s args Ts own) (hM : zMc l y tw rm D cy H.size b wc k w1 mc ms) (cw : CallB R s args own index y bytes maxL none tw rm mc ms 0 ∧ y.name = "<init>" ∧ (Cond.instanceMethod y).before args s = true) (hK : zK D cy s) (hP : va_P D vwCl w H) (hD : va_D A w) (hS : va_S A s.heap H locs) (hA : ∀ q, s.heap.size ≤ q → A q) (isC isR : List Nat) (hC : isC.map (fun i => w[i]?) = wc.map some) (hR : isR.map (fun i => w[i]?) = wr.map some) (hnC : va_nd isC = true) (hnR : va_nd isR = true) (hdis : ∀ i ∈ isR, i ∉ isC) (hsize : ls.size = nL) (hstack : st = .ref b :: rest) (hW : (rest.map fun v => v.category).sum ≤ 8) (hdg : decode cc pc = .ok (.invokespecial index, 3)) (hf : cells + mc ≤ R.cells ∧ slots + ms ≤ R.slots) (kk : ∀ (u : List Nat) (H1 : Heap) (locs1 : List Loc), u.length = k → va_P D vwCl (wr ++ w1 u) H1 → va_D A (wr ++ w1 u) → va_S A s.heap H1 locs1 → W p l e R s m args below meth c H1 locs1 (cells + mc) (slots + ms) Q (F0 m (pc + 3) ls rest)) : W p l e R s m args below meth c H locs cells slots Q (F0 m pc ls st) := by
  have hF := va_free (wc := wc) hD hS hA isC hC
  refine va_callv (va_runI (As := []) (rest := rest) S hM cw ⟨zPre_blind, fun U hU hW => ⟨rfl, zpre_at hK hP hD isC hC hnC U hU hW⟩⟩ rfl rfl hsize hstack (lv_room hW) hdg hf) hS (fun q _ h => hF q h) hF (fun u t H1 locs1 ht hvm hw hB hz1 hk1 hS1 => ?_)
  obtain ⟨hP1, hD1⟩ := hB
  rw [ht] at hP1
  obtain ⟨hP2, hD2⟩ := va_join (wr := wr) (w1 := w1 u) hP hD isC isR hC hR hnR hdis hk1 hF hP1 hD1
  exact kk u H1 locs1 hw hP2 hD2 hS1
theorem zcallIN (S : CallFix p m c cc nL s args Ts own) (hM : zMc l y tw rm D cy H.size b wc k w1 mc ms) (cw : va_CN R s args own index y host bytes maxL none tw rm mc ms 0 ∧ y.name = "<init>" ∧ (Cond.instanceMethod y).before args s = true) (hK : zK D cy s) (hP : va_P D vwCl w H) (hD : va_D A w) (hS : va_S A s.heap H locs) (hA : ∀ q, s.heap.size ≤ q → A q) (isC isR : List Nat) (hC : isC.map (fun i => w[i]?) = wc.map some) (hR : isR.map (fun i => w[i]?) = wr.map some) (hnC : va_nd isC = true) (hnR : va_nd isR = true) (hdis : ∀ i ∈ isR, i ∉ isC) (hsize : ls.size = nL) (hstack : st = .ref b :: rest) (hW : (rest.map fun v => v.category).sum ≤ 8) (hdg : decode cc pc = .ok (.invokespecial index, 3)) (hf : cells + mc ≤ R.cells ∧ slots + ms ≤ R.slots) (kk : ∀ (u : List Nat) (H1 : Heap) (locs1 : List Loc), u.length = k → va_P D vwCl (wr ++ w1 u) H1 → va_D A (wr ++ w1 u) → va_S A s.heap H1 locs1 → W p l e R s m args below meth c H1 locs1 (cells + mc) (slots + ms) Q (F0 m (pc + 3) ls rest)) : W p l e R s m args below meth c H locs cells slots Q (F0 m pc ls st) := by
  have hF := va_free (wc := wc) hD hS hA isC hC
  refine va_callv (va_runIN (As := []) (rest := rest) S hM cw ⟨zPre_blind, fun U hU hW => ⟨rfl, zpre_at hK hP hD isC hC hnC U hU hW⟩⟩ rfl rfl hsize hstack (lv_room hW) hdg hf) hS (fun q _ h => hF q h) hF (fun u t H1 locs1 ht hvm hw hB hz1 hk1 hS1 => ?_)
  obtain ⟨hP1, hD1⟩ := hB
  rw [ht] at hP1
  obtain ⟨hP2, hD2⟩ := va_join (wr := wr) (w1 := w1 u) hP hD isC isR hC hR hnR hdis hk1 hF hP1 hD1
  exact kk u H1 locs1 hw hP2 hD2 hS1
theorem zz_newi (hx : p.tables.exec = Jvm.exec) (hb : c.code = cc) (harr : (Cond.arrayClass .int).before args s = true) (hK : zK D cy s) (hP : va_P D vwCl w H) (hD : va_D A w) (hS : va_S A s.heap H locs) (hA : ∀ q, s.heap.size ≤ q → A q) (N : Nat) (hN : N ≤ 1000) (hcells : cells + 1 ≤ R.cells) (hslots : slots + N ≤ R.slots) (hdg : decode cc pc = .ok (.newarray .int, 2)) (kk : ∀ (q : Nat) (H1 : Heap), va_P D vwCl (w ++ [eA q (cy 0) N (fun _ => 0)]) H1 → va_D A (w ++ [eA q (cy 0) N (fun _ => 0)]) → va_S A s.heap H1 locs → W p l e R s m args below meth c H1 locs (cells + 1) (slots + N) Q (F0 m (pc + 2) ls (.ref q :: rest))) : W p l e R s m args below meth c H locs cells slots Q (F0 m pc ls (.int (zI N) :: rest)) := by
  have hR0 : zR (N : Int) := ⟨by omega, by omega⟩
  refine va_newa (atype := .int) (ty := .int) (N' := N) (a0 := (N, .inl (fun _ => 0))) hx hb harr rfl hK.1 hP hD hS hA (fun cA => rfl) ?_ ?_ ?_ hcells hslots hdg (fun q cA H1 hK1 hP1 hD1 hS1 => ?_)
  · intro h
    rw [Int32.lt_iff_toInt_lt, zI_toInt hR0] at h
    have e0 : (0 : Int32).toInt = 0 := rfl
    omega
  · rw [zI_cl (by omega) (by omega)]
    simp
  · show N * 4 ≤ 536870912
    omega
  · have h1 : s.vm.findClass ("[" ++ (.int : FieldType).toString) = some cA := (hK1.2 5 (cA, .int) rfl).2
    have h2 : s.vm.findClass ("[" ++ (.int : FieldType).toString) = some (cy 0) := (hK.1.2 0 (cy 0, .int) rfl).2
    have e : cA = cy 0 := Option.some.inj (h1.symm.trans h2)
    subst e
    exact kk q H1 hP1 hD1 hS1
theorem zz_newc (hx : p.tables.exec = Jvm.exec) (hb : c.code = cc) (harr : (Cond.arrayClass .char).before args s = true) (hK : zK D cy s) (hP : va_P D vwCl w H) (hD : va_D A w) (hS : va_S A s.heap H locs) (hA : ∀ q, s.heap.size ≤ q → A q) (N : Nat) (hN : N ≤ 1000) (hcells : cells + 1 ≤ R.cells) (hslots : slots + N ≤ R.slots) (hdg : decode cc pc = .ok (.newarray .char, 2)) (kk : ∀ (q : Nat) (H1 : Heap), va_P D vwCl (w ++ [eA q (cy 1) N (fun _ => 0)]) H1 → va_D A (w ++ [eA q (cy 1) N (fun _ => 0)]) → va_S A s.heap H1 locs → W p l e R s m args below meth c H1 locs (cells + 1) (slots + N) Q (F0 m (pc + 2) ls (.ref q :: rest))) : W p l e R s m args below meth c H locs cells slots Q (F0 m pc ls (.int (zI N) :: rest)) := by
  have hR0 : zR (N : Int) := ⟨by omega, by omega⟩
  refine va_newa (atype := .char) (ty := .char) (N' := N) (a0 := (N, .inl (fun _ => 0))) hx hb harr rfl hK.1 hP hD hS hA (fun cA => rfl) ?_ ?_ ?_ hcells hslots hdg (fun q cA H1 hK1 hP1 hD1 hS1 => ?_)
  · intro h
    rw [Int32.lt_iff_toInt_lt, zI_toInt hR0] at h
    have e0 : (0 : Int32).toInt = 0 := rfl
    omega
  · rw [zI_cl (by omega) (by omega)]
    simp
  · show N * 2 ≤ 536870912
    omega
  · have h1 : s.vm.findClass ("[" ++ (.char : FieldType).toString) = some cA := (hK1.2 5 (cA, .char) rfl).2
    have h2 : s.vm.findClass ("[" ++ (.char : FieldType).toString) = some (cy 1) := (hK.1.2 1 (cy 1, .char) rfl).2
    have e : cA = cy 1 := Option.some.inj (h1.symm.trans h2)
    subst e
    exact kk q H1 hP1 hD1 hS1
theorem zz_newz (hx : p.tables.exec = Jvm.exec) (hb : c.code = cc) (harr : (Cond.arrayClass .boolean).before args s = true) (hK : zK D cy s) (hP : va_P D vwCl w H) (hD : va_D A w) (hS : va_S A s.heap H locs) (hA : ∀ q, s.heap.size ≤ q → A q) (N : Nat) (hN : N ≤ 1000) (hcells : cells + 1 ≤ R.cells) (hslots : slots + N ≤ R.slots) (hdg : decode cc pc = .ok (.newarray .boolean, 2)) (kk : ∀ (q : Nat) (H1 : Heap), va_P D vwCl (w ++ [eA q (cy 2) N (fun _ => 0)]) H1 → va_D A (w ++ [eA q (cy 2) N (fun _ => 0)]) → va_S A s.heap H1 locs → W p l e R s m args below meth c H1 locs (cells + 1) (slots + N) Q (F0 m (pc + 2) ls (.ref q :: rest))) : W p l e R s m args below meth c H locs cells slots Q (F0 m pc ls (.int (zI N) :: rest)) := by
  have hR0 : zR (N : Int) := ⟨by omega, by omega⟩
  refine va_newa (atype := .boolean) (ty := .boolean) (N' := N) (a0 := (N, .inl (fun _ => 0))) hx hb harr rfl hK.1 hP hD hS hA (fun cA => rfl) ?_ ?_ ?_ hcells hslots hdg (fun q cA H1 hK1 hP1 hD1 hS1 => ?_)
  · intro h
    rw [Int32.lt_iff_toInt_lt, zI_toInt hR0] at h
    have e0 : (0 : Int32).toInt = 0 := rfl
    omega
  · rw [zI_cl (by omega) (by omega)]
    simp
  · show N * 1 ≤ 536870912
    omega
  · have h1 : s.vm.findClass ("[" ++ (.boolean : FieldType).toString) = some cA := (hK1.2 5 (cA, .boolean) rfl).2
    have h2 : s.vm.findClass ("[" ++ (.boolean : FieldType).toString) = some (cy 2) := (hK.1.2 2 (cy 2, .boolean) rfl).2
    have e : cA = cy 2 := Option.some.inj (h1.symm.trans h2)
    subst e
    exact kk q H1 hP1 hD1 hS1
theorem zz_newq (hx : p.tables.exec = Jvm.exec) (hb : c.code = cc) (hown : s.vm.findClass own = some m.cls) (hclink : (Cond.classLink own index C).before args s = true) (hover : va_AO C s) (hK : zK D cy s) (t0 : Nat) (ht : (zty cy)[t0]? = some (cy t0, .object C)) (hP : va_P D vwCl w H) (hD : va_D A w) (hS : va_S A s.heap H locs) (hA : ∀ q, s.heap.size ≤ q → A q) (N : Nat) (hN : N ≤ 1000) (hcells : cells + 1 ≤ R.cells) (hslots : slots + N ≤ R.slots) (hdg : decode cc pc = .ok (.anewarray index, 3)) (kk : ∀ (q : Nat) (H1 : Heap), va_P D vwCl (w ++ [eR q (cy t0) N []]) H1 → va_D A (w ++ [eR q (cy t0) N []]) → va_S A s.heap H1 locs → W p l e R s m args below meth c H1 locs (cells + 1) (slots + N) Q (F0 m (pc + 3) ls (.ref q :: rest))) : W p l e R s m args below meth c H locs cells slots Q (F0 m pc ls (.int (zI N) :: rest)) := by
  have hR0 : zR (N : Int) := ⟨by omega, by omega⟩
  refine va_newq (N' := N) hx hb hown hclink hover hK.1 hP hD hS hA ?_ ?_ (by omega) hcells hslots hdg (fun q cA H1 hK1 hP1 hD1 hS1 => ?_)
  · intro h
    rw [Int32.lt_iff_toInt_lt, zI_toInt hR0] at h
    have e0 : (0 : Int32).toInt = 0 := rfl
    omega
  · rw [zI_cl (by omega) (by omega)]
    simp
  · obtain ⟨_, _, _, _, _, h1⟩ := (hK1.2 5 (cA, .object C) rfl).2
    obtain ⟨_, _, _, _, _, h2⟩ := (hK.1.2 t0 (cy t0, .object C) ht).2
    have e : cA = cy t0 := Option.some.inj (h1.symm.trans h2)
    subst e
    rw [zad_nil] at hP1 hD1
    exact kk q H1 hP1 hD1 hS1
theorem zz_aast (hx : p.tables.exec = Jvm.exec) (hb : c.code = cc) (hK : zK D cy s) (hP : va_P D vwCl w H) (hD : va_D A w) (hS : va_S A s.heap H locs) (q0 t0 qk ci : Nat) {r : vw_C} {N v : Nat} {vs : List Value} {L : List Nat} {i : Int} (ha : w[q0]? = some (eR ad (cy t0) N L)) (ht : (zty cy)[t0]? = some (cy t0, .object r.1)) (hv : w[qk]? = some (v, .inr (ci, vs))) (hc : vwCl[ci]? = some r) (hN : N ≤ 1000) (hi : i = (L.length : Int)) (h : zin i N) (hdg : decode cc pc = .ok (.aastore, 1)) (kk : ∀ (H1 : Heap) (locs1 : List Loc), va_P D vwCl (w.set q0 (eR ad (cy t0) N (L ++ [v]))) H1 → va_D A (w.set q0 (eR ad (cy t0) N (L ++ [v]))) → va_S A s.heap H1 locs1 → W p l e R s m args below meth c H1 locs1 cells slots Q (F0 m (pc + 1) ls rest)) : W p l e R s m args below meth c H locs cells slots Q (F0 m pc ls (.ref v :: .int (zI i) :: .ref ad :: rest)) := by
  refine va_astq hx hb hK.1 hP hD hS q0 t0 qk ci ha ht hv hc (zin_vp hN h) hdg (fun H1 locs1 hP1 hD1 hS1 => ?_)
  have h2 := h.2
  rw [zI_cl h.1 (by omega)] at hP1 hD1
  rw [show i.toNat = L.length by omega, zad_push] at hP1 hD1
  exact kk H1 locs1 hP1 hD1 hS1
theorem zz_sld {b2 L : Nat} {xs : Nat → Int32} (hx : p.tables.exec = Jvm.exec) (hb : c.code = cc) (hX : va_X b2 L xs s s.heap) (hbl : b2 < s.heap.size) (hbA : ¬ A b2) (hS : va_S A s.heap H locs) {i : Int} (hL : L ≤ 2560) (h : zin i L) (hdg : decode cc pc = .ok (.iaload, 1)) (k : W p l e R s m args below meth c H locs cells slots Q (F0 m (pc + 1) ls (.int (zI ((xs i.toNat).toInt)) :: rest))) : W p l e R s m args below meth c H locs cells slots Q (F0 m pc ls (.int (zI i) :: .ref b2 :: rest)) := by
  have h1 := h.1
  have h2 := h.2
  have hR : zR i := ⟨by omega, by omega⟩
  have e : vp_in (zI i) L ↔ 0 ≤ (zI i).toInt ∧ (zI i).toInt < L := vp_in_iff
  have hv : vp_in (zI i) L := by rw [e, zI_toInt hR]; exact h
  refine va_sld hx hb hX hbl hbA hS hv hdg ?_
  rw [zI_cl h1 (by omega), ← zI_of (xs i.toNat)]
  exact k
theorem zz_slen {b2 L : Nat} {xs : Nat → Int32} (hx : p.tables.exec = Jvm.exec) (hb : c.code = cc) (hX : va_X b2 L xs s s.heap) (hbl : b2 < s.heap.size) (hbA : ¬ A b2) (hS : va_S A s.heap H locs) (hdg : decode cc pc = .ok (.arraylength, 1)) (k : W p l e R s m args below meth c H locs cells slots Q (F0 m (pc + 1) ls (.int (zI (L : Int)) :: rest))) : W p l e R s m args below meth c H locs cells slots Q (F0 m pc ls (.ref b2 :: rest)) := by
  refine va_slen hx hb hX hbl hbA hS hdg ?_
  exact k
end ZD
