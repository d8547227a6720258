/-! PURE: heard: the class from token to token -/
theorem gd_T {α : Type} {i : Decidable True} {x : Option α} : @gd α True i x = x := if_pos trivial
theorem c_skip {n last : Int} {L : Nat → Int} {rw rb ri az alo ahi asl : Int} {aT : Nat → Int} (hl : -1 ≤ last) (hl2 : last < n) (hn : n ≤ 100) (hL : ∀ k : Nat, (k : Int) < n → 0 ≤ L k ∧ L k ≤ 255) : ∀ (m : Nat) (c s : Int), 0 ≤ c → c ≤ s → s ≤ n → (s - c).toNat = m → (∀ k : Nat, c ≤ (k : Int) → (k : Int) < s → (k : Int) ≤ last ∨ L k = 32) → zev (st_X5_read n L) (last, c, rw, rb, ri, az, alo, ahi, asl, aT) = zev (st_X5_read n L) (last, s, rw, rb, ri, az, alo, ahi, asl, aT) := by
  intro m
  induction m with
  | zero =>
    intro c s h0 h1 h2 h3 _
    rw [show c = s by omega]
  | succ m ih =>
    intro c s h0 h1 h2 h3 h4
    rw [← ih (c + 1) s (by omega) (by omega) h2 (by omega) (fun k hk1 hk2 => h4 k (by omega) hk2)]
    apply zev_inl
    have hc := hL c.toNat (by omega)
    by_cases h5 : c ≤ last
    · simp (disch := omega) only [st_X5_read, gd_t, if_true, if_false, if_pos]
    · have h6 : L c.toNat = 32 := by
        rcases h4 c.toNat (by omega) (by omega) with h | h
        · omega
        · exact h
      simp (disch := omega) only [st_X5_read, gd_t, if_true, if_false, if_pos, if_neg]
theorem c_tok {n last c s e tok val v : Int} {L : Nat → Int} {rw rb ri az alo ahi asl r rw2 rb2 ri2 az2 alo2 ahi2 asl2 : Int} {aT aT2 : Nat → Int} (hn : n ≤ 100) (hL : ∀ k : Nat, (k : Int) < n → 0 ≤ L k ∧ L k ≤ 255) (h : zTk n L c s e tok val v) (hs : s < n) (hl : -1 ≤ last) (hl2 : last < c) (ht : f_X5_takes (L s.toNat) v rw rb ri az alo ahi asl aT = some (r, rw2, rb2, ri2, az2, alo2, ahi2, asl2, aT2)) : (r = 0 → zev (st_X5_read n L) (last, c, rw, rb, ri, az, alo, ahi, asl, aT) = some (-10 - s, rw2, rb2, ri2, az2, alo2, ahi2, asl2, aT2)) ∧ (r = 1 → zev (st_X5_read n L) (last, c, rw, rb, ri, az, alo, ahi, asl, aT) = zev (st_X5_read n L) (e - 1, e, rw2, rb2, ri2, az2, alo2, ahi2, asl2, aT2)) := by
  obtain ⟨k1, k2, k3, k4, k5, k6⟩ := h
  have hc := hL s.toNat (by omega)
  rcases k6 with ⟨k6, -⟩ | ⟨-, k6, k7, k8, k9, -⟩
  · omega
  have e1 := c_skip (L := L) (rw := rw) (rb := rb) (ri := ri) (az := az) (alo := alo) (ahi := ahi) (asl := asl) (aT := aT) hl (by omega) hn hL (s - c).toNat c s k1 k2 k3 rfl (fun k h1 h2 => Or.inr (k5 k h1 h2))
  rw [e1]
  refine ⟨fun hr => ?_, fun hr => ?_⟩
  · subst hr
    apply zev_inr
    simp (disch := omega) only [st_X5_read, k8, k9, ht, Option.bind_some, gd_t, if_true, if_false, if_pos, if_neg]
  · subst hr
    rw [← c_skip (L := L) (rw := rw2) (rb := rb2) (ri := ri2) (az := az2) (alo := alo2) (ahi := ahi2) (asl := asl2) (aT := aT2) (last := e - 1) (by omega) (by omega) hn hL (e - (s + 1)).toNat (s + 1) e (by omega) (by omega) k4 rfl (fun k h1 h2 => Or.inl (by omega))]
    apply zev_inl
    simp (disch := omega) only [st_X5_read, k8, k9, ht, Option.bind_some, gd_t, if_true, if_false, if_pos, if_neg]
theorem c_end {n last c s e tok val v : Int} {L : Nat → Int} {rw rb ri az alo ahi asl : Int} {aT : Nat → Int} (hn : n ≤ 100) (hL : ∀ k : Nat, (k : Int) < n → 0 ≤ L k ∧ L k ≤ 255) (h : zTk n L c s e tok val v) (hs : s = n) (hl : -1 ≤ last) (hl2 : last < c) (hw : 0 ≤ rw ∧ rw ≤ 5) : zev (st_X5_read n L) (last, c, rw, rb, ri, az, alo, ahi, asl, aT) = some (if rw = 0 then ri else -10 - s, rw, rb, ri, az, alo, ahi, asl, aT) := by
  subst hs
  obtain ⟨k1, k2, k3, k4, k5, -⟩ := h
  rw [c_skip (L := L) (rw := rw) (rb := rb) (ri := ri) (az := az) (alo := alo) (ahi := ahi) (asl := asl) (aT := aT) hl (by omega) hn hL (s - c).toNat c s k1 k2 k3 rfl (fun k h1 h2 => Or.inr (k5 k h1 h2))]
  apply zev_inr
  by_cases h : rw = 0
  · simp (disch := omega) only [st_X5_read, gd_t, if_true, if_false, if_pos, if_neg]
  · simp (disch := omega) only [st_X5_read, gd_t, if_true, if_false, if_neg]
/-- a token that can't stand, or none: the class tells its place -/
theorem c_bad {n last c s e tok val v : Int} {L : Nat → Int} {rw rb ri az alo ahi asl : Int} {aT : Nat → Int} {o : Int × Int × Int × Int × Int × Int × Int × (Nat → Int)} (hn : n ≤ 100) (hL : ∀ k : Nat, (k : Int) < n → 0 ≤ L k ∧ L k ≤ 255) (h : zTk n L c s e tok val v) (hl : -1 ≤ last) (hl2 : last < c) (hw : 0 ≤ rw ∧ rw ≤ 5) (h0 : s = n → rw ≠ 0) (ht : s < n → f_X5_takes (L s.toNat) v rw rb ri az alo ahi asl aT = some (0, o)) : ∃ o2 : Int × Int × Int × Int × Int × Int × Int × (Nat → Int), zev (st_X5_read n L) (last, c, rw, rb, ri, az, alo, ahi, asl, aT) = some (-10 - s, o2) := by
  have h' := h
  obtain ⟨k1, k2, k3, k4, k5, -⟩ := h'
  by_cases hs : s < n
  · obtain ⟨q1, q2, q3, q4, q5, q6, q7, q8⟩ := o
    exact ⟨_, (c_tok hn hL h hs hl hl2 (ht hs)).1 rfl⟩
  · have hs : s = n := by omega
    have := c_end (rb := rb) (ri := ri) (az := az) (alo := alo) (ahi := ahi) (asl := asl) (aT := aT) hn hL h hs hl hl2 hw
    rw [if_neg (h0 hs)] at this
    exact ⟨_, this⟩
theorem t_v {n : Int} {L : Nat → Int} {c s e tok val v : Int} (h : zTk n L c s e tok val v) : -1 ≤ v ∧ v ≤ 9999 ∧ 0 ≤ tok ∧ tok ≤ 5 ∧ (0 ≤ v → s < n ∧ s < e ∧ tok = 3 ∧ val = v) ∧ (tok = 3 → val = v ∧ 0 ≤ v) := by
  obtain ⟨k1, k2, k3, k4, k5, ⟨k6, k7, k8⟩ | ⟨k6, k7, -, -, -, ⟨a1, a2, a3, a4, -⟩ | ⟨a1, a2⟩⟩⟩ := h
  · exact ⟨by omega, by omega, by omega, by omega, fun _ => by omega, fun _ => by omega⟩
  · exact ⟨by omega, by omega, by omega, by omega, fun _ => ⟨k6, k7, a1, a2⟩, fun _ => ⟨a2, a3⟩⟩
  · rcases a2 with ⟨a2, -⟩ | ⟨a2, -⟩ | ⟨a2, -⟩ | ⟨a2, -⟩ <;> exact ⟨by omega, by omega, by omega, by omega, fun _ => by omega, fun _ => by omega⟩
theorem e_isNumber {n : Int} {L : Nat → Int} {c s e tok val v lo hi : Int} (h : zTk n L c s e tok val v) (hl : 0 ≤ lo) (hl2 : lo ≤ 100000) (hh : 0 ≤ hi) (hh2 : hi ≤ 100000) : f_X7_isNumber lo hi tok val = some (if lo ≤ v ∧ v ≤ hi then 1 else 0) := by
  obtain ⟨a1, a2, a3, a4, a5, a6⟩ := t_v h
  by_cases ht : tok = 3
  · obtain ⟨b1, b2⟩ := a6 ht
    have ei := e_in (a := val) (b := lo) (c := hi) ⟨by omega, by omega⟩ ⟨by omega, by omega⟩ ⟨by omega, by omega⟩
    by_cases hv : lo ≤ v ∧ v ≤ hi
    · rw [if_pos (by omega)] at ei
      rw [if_pos hv]
      simp (disch := omega) only [f_X7_isNumber, ei, Option.bind_some, gd_t, if_true, if_false, if_pos, if_neg]
    · rw [if_neg (by omega)] at ei
      rw [if_neg hv]
      simp (disch := omega) only [f_X7_isNumber, ei, Option.bind_some, gd_t, if_true, if_false, if_pos]
  · rw [if_neg (show ¬ (lo ≤ v ∧ v ≤ hi) from fun q => ht (a5 (by omega)).2.2.1)]
    simp (disch := omega) only [f_X7_isNumber, gd_t, if_true, if_false, if_neg]
/-! what the class makes of a token -/
theorem t_item {l v rb ri az alo ahi asl : Int} {aT : Nat → Int} (hl : 0 ≤ l ∧ l ≤ 255) (hb : rb = 0 ∨ rb = 1) (hz : 0 ≤ az ∧ az ≤ 7) : f_X5_takes l v 0 rb ri az alo ahi asl aT = some (if l = 98 ∧ rb = 0 then (1, 1, 1, ri, az, alo, ahi, asl, aT) else if l = 116 ∧ az < 7 then (1, 4, rb, ri, az, alo, ahi, asl, aT) else (0, 0, rb, ri, az, alo, ahi, asl, aT)) := by
  by_cases c1 : l = 98
  · rcases hb with rfl | rfl
    · simp (disch := omega) only [f_X5_takes, f_X5_takesItem, Option.bind_some, gd_t, gd_T, or_true, true_or, or_false, false_or, and_true, true_and, and_false, false_and, if_true, if_false, if_pos, if_neg]
    · simp (disch := omega) only [f_X5_takes, f_X5_takesItem, Option.bind_some, gd_t, gd_T, or_true, true_or, or_false, false_or, and_true, true_and, and_false, false_and, if_true, if_false, if_pos, if_neg]
  · by_cases c2 : l = 116
    · by_cases c3 : az < 7
      · simp (disch := omega) only [f_X5_takes, f_X5_takesItem, Option.bind_some, gd_t, gd_T, or_true, true_or, or_false, false_or, and_true, true_and, and_false, false_and, if_true, if_false, if_pos, if_neg]
      · simp (disch := omega) only [f_X5_takes, f_X5_takesItem, Option.bind_some, gd_t, gd_T, or_true, true_or, or_false, false_or, and_true, true_and, and_false, false_and, if_true, if_false, if_pos, if_neg]
    · simp (disch := omega) only [f_X5_takes, f_X5_takesItem, Option.bind_some, gd_t, gd_T, or_true, true_or, or_false, false_or, and_true, true_and, and_false, false_and, if_true, if_false, if_pos, if_neg]
theorem t_low {l v rb ri az alo ahi asl : Int} {aT : Nat → Int} (hv : -1 ≤ v ∧ v ≤ 9999) : f_X5_takes l v 1 rb ri az alo ahi asl aT = some (if 10 ≤ v ∧ v ≤ 999 then 1 else 0, 2, rb, ri, az, v, ahi, asl, aT) := by
  have e : f_X6_isLow v = some (if 10 ≤ v ∧ v ≤ 999 then 1 else 0) := by
    by_cases a : v < 10
    · simp (disch := omega) only [f_X6_isLow, gd_t, if_true, if_false, if_pos, if_neg]
    · by_cases b : v ≤ 999
      · simp (disch := omega) only [f_X6_isLow, gd_t, if_true, if_false, if_pos, if_neg]
      · simp (disch := omega) only [f_X6_isLow, gd_t, if_true, if_false, if_neg]
  by_cases a : 10 ≤ v ∧ v ≤ 999
  · rw [if_pos a] at e ⊢
    simp (disch := omega) only [f_X5_takes, e, Option.bind_some, gd_t, gd_T, or_true, true_or, or_false, false_or, and_true, true_and, and_false, false_and, if_true, if_false, if_pos, if_neg]
  · rw [if_neg a] at e ⊢
    simp (disch := omega) only [f_X5_takes, e, Option.bind_some, gd_t, gd_T, or_true, true_or, or_false, false_or, and_true, true_and, and_false, false_and, if_true, if_false, if_pos, if_neg]
theorem t_high {l v rb ri az alo ahi asl : Int} {aT : Nat → Int} (hv : -1 ≤ v ∧ v ≤ 9999) (hlo : 10 ≤ alo ∧ alo ≤ 999) : f_X5_takes l v 2 rb ri az alo ahi asl aT = some (if alo ≤ v ∧ v ≤ 999 then 1 else 0, 3, rb, ri, az, alo, v, asl, aT) := by
  have e : f_X6_isHigh alo v = some (if alo ≤ v ∧ v ≤ 999 then 1 else 0) := by
    by_cases a : v < alo
    · simp (disch := omega) only [f_X6_isHigh, gd_t, if_true, if_false, if_pos, if_neg]
    · by_cases b : v ≤ 999
      · simp (disch := omega) only [f_X6_isHigh, gd_t, if_true, if_false, if_pos, if_neg]
      · simp (disch := omega) only [f_X6_isHigh, gd_t, if_true, if_false, if_neg]
  by_cases a : alo ≤ v ∧ v ≤ 999
  · rw [if_pos a] at e ⊢
    simp (disch := omega) only [f_X5_takes, e, Option.bind_some, gd_t, gd_T, or_true, true_or, or_false, false_or, and_true, true_and, and_false, false_and, if_true, if_false, if_pos, if_neg]
  · rw [if_neg a] at e ⊢
    simp (disch := omega) only [f_X5_takes, e, Option.bind_some, gd_t, gd_T, or_true, true_or, or_false, false_or, and_true, true_and, and_false, false_and, if_true, if_false, if_pos, if_neg]
theorem t_slack {l v rb ri az alo ahi asl : Int} {aT : Nat → Int} (hv : -1 ≤ v ∧ v ≤ 9999) (hlo : 10 ≤ alo ∧ alo ≤ 999) : f_X5_takes l v 3 rb ri az alo ahi asl aT = some (if 0 ≤ v ∧ v ≤ 99 ∧ 4 * v < alo then 1 else 0, 5, rb, ri, az, alo, ahi, v, aT) := by
  have e : f_X6_isSlack alo v = some (if 0 ≤ v ∧ v ≤ 99 ∧ 4 * v < alo then 1 else 0) := by
    by_cases a : v < 0
    · simp (disch := omega) only [f_X6_isSlack, gd_t, if_true, if_false, if_pos, if_neg]
    · by_cases b : v ≤ 99
      · by_cases c : 4 * v < alo
        · simp (disch := omega) only [f_X6_isSlack, gd_t, if_true, if_false, if_pos, if_neg]
        · simp (disch := omega) only [f_X6_isSlack, gd_t, if_true, if_false, if_pos, if_neg]
      · simp (disch := omega) only [f_X6_isSlack, gd_t, if_true, if_false, if_neg]
  by_cases a : 0 ≤ v ∧ v ≤ 99 ∧ 4 * v < alo
  · rw [if_pos a] at e ⊢
    simp (disch := omega) only [f_X5_takes, e, Option.bind_some, gd_t, gd_T, or_true, true_or, or_false, false_or, and_true, true_and, and_false, false_and, if_true, if_false, if_pos, if_neg]
  · rw [if_neg a] at e ⊢
    simp (disch := omega) only [f_X5_takes, e, Option.bind_some, gd_t, gd_T, or_true, true_or, or_false, false_or, and_true, true_and, and_false, false_and, if_true, if_false, if_pos, if_neg]
theorem t_fin {l v rb ri az alo ahi asl : Int} {aT : Nat → Int} (hl : 0 ≤ l ∧ l ≤ 255) : f_X5_takes l v 5 rb ri az alo ahi asl aT = some (if l = 59 then 1 else 0, 0, rb, ri + 1, az, alo, ahi, asl, aT) := by
  by_cases a : l = 59
  · rw [if_pos a]
    simp (disch := omega) only [f_X5_takes, gd_t, gd_T, or_true, true_or, or_false, false_or, and_true, true_and, and_false, false_and, if_true, if_false, if_pos, if_neg]
  · rw [if_neg a]
    simp (disch := omega) only [f_X5_takes, gd_t, gd_T, or_true, true_or, or_false, false_or, and_true, true_and, and_false, false_and, if_true, if_false, if_neg]
theorem t_time {l v rb ri az alo ahi asl : Int} {aT F : Nat → Int} (hv : -1 ≤ v ∧ v ≤ 9999) (h : zBoth F 0 az alo ahi asl aT) (h6 : az ≤ 6) : (¬ (0 ≤ v ∧ v ≤ 2999) ∧ f_X5_takes l v 4 rb ri az alo ahi asl aT = some (0, 4, rb, ri, az, alo, ahi, asl, aT)) ∨ ((0 ≤ v ∧ v ≤ 2999) ∧ (∃ p, f_X7_placeOf v F = some p ∧ 0 ≤ p ∧ p ≤ 7) ∧ f_X5_takes l v 4 rb ri az alo ahi asl aT = some (0, 4, rb, ri, az, alo, ahi, asl, aT)) ∨ ((0 ≤ v ∧ v ≤ 2999) ∧ (∃ p, f_X7_placeOf v F = some p ∧ p < 0 ∧ -8 ≤ p) ∧ ∃ T2 F2, f_X7_put v F = some F2 ∧ zBoth F2 0 (az + 1) alo ahi asl T2 ∧ f_X5_takes l v 4 rb ri az alo ahi asl aT = some (1, 5, rb, ri, az + 1, alo, ahi, asl, T2)) := by
  obtain ⟨w1, w2⟩ := zRz h
  have h' := h
  obtain ⟨⟨a1, a2, a3, a4, a5, a6, a7, a8, a9, a10⟩, b1, b2, b3, b4, b5⟩ := h'
  have b5' : ∀ k : Nat, (k : Int) < az → F (4 + k) = aT k := fun k hk => by rw [← b5 k hk, Nat.zero_add]
  have hvR : zR v := ⟨by omega, by omega⟩
  by_cases hc : 0 ≤ v ∧ v ≤ 2999
  · have e2 : f_X6_isTime v = some 1 := by simp (disch := omega) only [f_X6_isTime, gd_t, gd_T, or_true, true_or, or_false, false_or, and_true, true_and, and_false, false_and, if_true, if_false, if_pos, if_neg]
    obtain ⟨r1, e1, h1⟩ := e_hears hvR a1 a2 w1
    rcases h1 with ⟨rfl, k, h1, h2⟩ | ⟨rfl, h1⟩
    · refine Or.inr (Or.inl ⟨hc, ⟨_, e_rplace h hvR h1 h2, by omega, by omega⟩, ?_⟩)
      simp (disch := omega) only [f_X5_takes, f_X5_takesTime, e2, e1, Option.bind_some, gd_t, gd_T, or_true, true_or, or_false, false_or, and_true, true_and, and_false, false_and, if_true, if_false, if_pos, if_neg]
    · obtain ⟨q, T2, e3, i1, i2, i3⟩ := e_place hvR a1 h6 w1
      obtain ⟨F2, q2, e4, j0, j1, j2, j3, j4, j5, j6⟩ := e_put (R := F) hvR (by omega) (by omega) w2 (fun k hk => by rw [b5' k (by omega)]; exact h1 k (by omega))
      obtain ⟨p, e5, p1, g1, g2, g3⟩ := e_placeOf (R := F) hvR (by omega) (by omega) w2
      refine Or.inr (Or.inr ⟨hc, ⟨p, e5, ?_⟩, T2, F2, e4, (zBoth_ins h h6 hc.1 hc.2 h1 i1 i2 i3 j0 j1 j2 j3 j4 j5 j6).2, ?_⟩)
      · rcases g3 with ⟨g3, g4, -⟩ | ⟨-, g4⟩
        · exfalso
          rw [b5' p1 (by omega)] at g4
          exact h1 p1 (by omega) g4
        · omega
      · simp (disch := omega) only [f_X5_takes, f_X5_takesTime, e2, e1, e3, Option.bind_some, gd_t, gd_T, or_true, true_or, or_false, false_or, and_true, true_and, and_false, false_and, if_true, if_false, if_pos, if_neg]
  · have e2 : f_X6_isTime v = some 0 := by
      by_cases h : v < 0
      · simp (disch := omega) only [f_X6_isTime, gd_t, gd_T, or_true, true_or, or_false, false_or, and_true, true_and, and_false, false_and, if_true, if_false, if_pos]
      · simp (disch := omega) only [f_X6_isTime, gd_t, gd_T, or_true, true_or, or_false, false_or, and_true, true_and, and_false, false_and, if_true, if_false, if_neg]
    refine Or.inl ⟨hc, ?_⟩
    simp (disch := omega) only [f_X5_takes, f_X5_takesTime, e2, Option.bind_some, gd_t, gd_T, or_true, true_or, or_false, false_or, and_true, true_and, and_false, false_and, if_true, if_false, if_pos, if_neg]
