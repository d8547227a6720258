/-! PURE: heard: items, the loop -/
theorem e_readBox {n c last : Int} {T L F : Nat → Int} {ri az alo ahi asl : Int} {aT : Nat → Int} (a b d : Int) (h0 : 0 ≤ c) (hc : c ≤ n) (hn : n ≤ 100) (hT : ∀ k : Nat, (k : Int) < n → T k = L k ∧ 0 ≤ L k ∧ L k ≤ 255) (hl : -1 ≤ last) (hl2 : last < c) : ∃ (r e s tok val : Int) (F2 : Nat → Int), f_X7_readBox n c a b d T F = some (r, e, s, tok, val, F2) ∧ 0 ≤ s ∧ s ≤ n ∧ 0 ≤ tok ∧ tok ≤ 5 ∧ ((r = 0 ∧ ∃ o : Int × Int × Int × Int × Int × Int × Int × (Nat → Int), zev (st_X5_read n L) (last, c, 1, 1, ri, az, alo, ahi, asl, aT) = some (-10 - s, o)) ∨ (r = 1 ∧ c < e ∧ e ≤ n ∧ ∃ lo hi sl : Int, 10 ≤ lo ∧ lo ≤ hi ∧ hi ≤ 999 ∧ 0 ≤ sl ∧ sl ≤ 99 ∧ 4 * sl < lo ∧ F2 = zup (zup (zup F 1 lo) 2 hi) 3 sl ∧ zev (st_X5_read n L) (last, c, 1, 1, ri, az, alo, ahi, asl, aT) = zev (st_X5_read n L) (e - 1, e, 5, 1, ri, az, lo, hi, sl, aT))) := by
  have hL := fun (k : Nat) (hk : (k : Int) < n) => (hT k hk).2
  obtain ⟨s1, e1, k1, v1, w1, x1, t1⟩ := e_tnext a b d h0 hc hn hT
  obtain ⟨m1, m2, m3, m4, m5, -⟩ := t_v t1
  have i1 := e_isNumber (lo := 10) (hi := 999) t1 (by omega) (by omega) (by omega) (by omega)
  have tk1 := t_low (l := L s1.toNat) (v := w1) (rb := 1) (ri := ri) (az := az) (alo := alo) (ahi := ahi) (asl := asl) (aT := aT) ⟨m1, m2⟩
  have t1' := t1
  obtain ⟨p1, p2, p3, p4, -, -⟩ := t1'
  by_cases c1 : 10 ≤ w1 ∧ w1 ≤ 999
  · rw [if_pos c1] at i1
    obtain ⟨u1, u2, u3, u4⟩ := m5 (by omega)
    subst u4
    have g1 := (c_tok hn hL t1 u1 hl hl2 tk1).2 (if_pos c1)
    obtain ⟨s2, e2, k2, v2, w2, x2, t2⟩ := e_tnext s1 k1 v1 (show 0 ≤ e1 by omega) p4 hn hT
    obtain ⟨n1, n2, n3, n4, n5, -⟩ := t_v t2
    have z1 : zup F 1 v1 1 = v1 := zup_s rfl
    have i2 := e_isNumber (lo := v1) (hi := 999) t2 (by omega) (by omega) (by omega) (by omega)
    have tk2 := t_high (l := L s2.toNat) (v := w2) (rb := 1) (ri := ri) (az := az) (alo := v1) (ahi := ahi) (asl := asl) (aT := aT) ⟨n1, n2⟩ c1
    have t2' := t2
    obtain ⟨r1, r2, r3, r4, -, -⟩ := t2'
    by_cases c2 : v1 ≤ w2 ∧ w2 ≤ 999
    · rw [if_pos c2] at i2
      obtain ⟨y1, y2, y3, y4⟩ := n5 (by omega)
      subst y4
      have g2 := (c_tok (last := e1 - 1) hn hL t2 y1 (by omega) (by omega) tk2).2 (if_pos c2)
      obtain ⟨s3, e3, k3, v3, w3, x3, t3⟩ := e_tnext s2 k2 v2 (show 0 ≤ e2 by omega) r4 hn hT
      obtain ⟨o1, o2, o3, o4, o5, -⟩ := t_v t3
      have z3 : zup (zup (zup F 1 v1) 2 v2) 3 v3 1 = v1 := by rw [zup_n (by decide), zup_n (by decide), z1]
      have i3 := e_isNumber (lo := 0) (hi := 99) t3 (by omega) (by omega) (by omega) (by omega)
      have tk3 := t_slack (l := L s3.toNat) (v := w3) (rb := 1) (ri := ri) (az := az) (alo := v1) (ahi := v2) (asl := asl) (aT := aT) ⟨o1, o2⟩ c1
      have t3' := t3
      obtain ⟨j1, j2, j3, j4, -, -⟩ := t3'
      by_cases c3 : 0 ≤ w3 ∧ w3 ≤ 99 ∧ 4 * w3 < v1
      · obtain ⟨c31, c32, c33⟩ := c3
        rw [if_pos ⟨c31, c32⟩] at i3
        obtain ⟨l1, l2, l3, l4⟩ := o5 (by omega)
        subst l4
        have g3 := (c_tok (last := e2 - 1) hn hL t3 l1 (by omega) (by omega) tk3).2 (if_pos ⟨c31, c32, c33⟩)
        refine ⟨1, e3, s3, k3, v3, zup (zup (zup F 1 v1) 2 v2) 3 v3, ?_, by omega, j3, o3, o4, Or.inr ⟨rfl, by omega, j4, v1, v2, v3, c1.1, c2.1, c2.2, c31, c32, c33, rfl, ?_⟩⟩
        · simp (disch := omega) only [f_X7_readBox, x1, i1, x2, z1, i2, x3, i3, z3, Option.bind_some, gd_t, if_true, if_false, if_pos, if_neg]
        · rw [g1, g2, g3]
      · refine ⟨0, e3, s3, k3, v3, zup (zup (zup F 1 v1) 2 v2) 3 v3, ?_, by omega, j3, o3, o4, Or.inl ⟨rfl, ?_⟩⟩
        · by_cases c4 : 0 ≤ w3 ∧ w3 ≤ 99
          · rw [if_pos c4] at i3
            obtain ⟨l1, l2, l3, l4⟩ := o5 (by omega)
            subst l4
            simp (disch := omega) only [f_X7_readBox, x1, i1, x2, z1, i2, x3, i3, z3, Option.bind_some, gd_t, if_true, if_false, if_neg]
          · rw [if_neg c4] at i3
            simp (disch := omega) only [f_X7_readBox, x1, i1, x2, z1, i2, x3, i3, z3, Option.bind_some, gd_t, if_true, if_false, if_pos, if_neg]
        · rw [g1, g2]
          refine c_bad (o := (5, 1, ri, az, v1, v2, w3, aT)) hn hL t3 (by omega) (by omega) ⟨by omega, by omega⟩ (fun _ => by omega) (fun _ => ?_)
          rw [tk3, if_neg c3]
    · rw [if_neg c2] at i2
      refine ⟨0, e2, s2, k2, v2, zup F 1 v1, ?_, by omega, r3, n3, n4, Or.inl ⟨rfl, ?_⟩⟩
      · simp (disch := omega) only [f_X7_readBox, x1, i1, x2, z1, i2, Option.bind_some, gd_t, if_true, if_false, if_pos, if_neg]
      · rw [g1]
        refine c_bad (o := (3, 1, ri, az, v1, w2, asl, aT)) hn hL t2 (by omega) (by omega) ⟨by omega, by omega⟩ (fun _ => by omega) (fun _ => ?_)
        rw [tk2, if_neg c2]
  · rw [if_neg c1] at i1
    refine ⟨0, e1, s1, k1, v1, F, ?_, by omega, p3, m3, m4, Or.inl ⟨rfl, ?_⟩⟩
    · simp (disch := omega) only [f_X7_readBox, x1, i1, Option.bind_some, gd_t, if_true, if_false, if_pos]
    · refine c_bad (o := (2, 1, ri, az, w1, ahi, asl, aT)) hn hL t1 hl hl2 ⟨by omega, by omega⟩ (fun _ => by omega) (fun _ => ?_)
      rw [tk1, if_neg c1]
theorem e_readTime {n c last : Int} {T L F : Nat → Int} {rb ri az alo ahi asl : Int} {aT : Nat → Int} (a b d : Int) (h0 : 0 ≤ c) (hc : c ≤ n) (hn : n ≤ 100) (hT : ∀ k : Nat, (k : Int) < n → T k = L k ∧ 0 ≤ L k ∧ L k ≤ 255) (hl : -1 ≤ last) (hl2 : last < c) (h : zBoth F 0 az alo ahi asl aT) (h6 : az ≤ 6) : ∃ (r e s tok val : Int) (F2 : Nat → Int), f_X7_readTime n c a b d T F = some (r, e, s, tok, val, F2) ∧ 0 ≤ s ∧ s ≤ n ∧ 0 ≤ tok ∧ tok ≤ 5 ∧ ((r = 0 ∧ ∃ o : Int × Int × Int × Int × Int × Int × Int × (Nat → Int), zev (st_X5_read n L) (last, c, 4, rb, ri, az, alo, ahi, asl, aT) = some (-10 - s, o)) ∨ (r = 1 ∧ c < e ∧ e ≤ n ∧ ∃ T2 : Nat → Int, zBoth F2 0 (az + 1) alo ahi asl T2 ∧ zev (st_X5_read n L) (last, c, 4, rb, ri, az, alo, ahi, asl, aT) = zev (st_X5_read n L) (e - 1, e, 5, rb, ri, az + 1, alo, ahi, asl, T2))) := by
  have hL := fun (k : Nat) (hk : (k : Int) < n) => (hT k hk).2
  have f0 : F 0 = az := h.2.1
  have z0 : 0 ≤ az := h.1.1
  obtain ⟨s1, e1, k1, v1, w1, x1, t1⟩ := e_tnext a b d h0 hc hn hT
  obtain ⟨m1, m2, m3, m4, m5, -⟩ := t_v t1
  have i1 := e_isNumber (lo := 0) (hi := 2999) t1 (by omega) (by omega) (by omega) (by omega)
  have t1' := t1
  obtain ⟨p1, p2, p3, p4, -, -⟩ := t1'
  rcases t_time (l := L s1.toNat) (rb := rb) (ri := ri) ⟨m1, m2⟩ h h6 with ⟨c1, tk⟩ | ⟨c1, ⟨p, ep, ep0, ep1⟩, tk⟩ | ⟨c1, ⟨p, ep, ep0, ep1⟩, T2, F2, eF, hF, tk⟩
  · rw [if_neg c1] at i1
    refine ⟨0, e1, s1, k1, v1, F, ?_, by omega, p3, m3, m4, Or.inl ⟨rfl, ?_⟩⟩
    · simp (disch := omega) only [f_X7_readTime, x1, i1, Option.bind_some, gd_t, if_true, if_false, if_pos, if_neg]
    · exact c_bad (o := (4, rb, ri, az, alo, ahi, asl, aT)) hn hL t1 hl hl2 ⟨by omega, by omega⟩ (fun _ => by omega) (fun _ => tk)
  · rw [if_pos c1] at i1
    obtain ⟨u1, u2, u3, u4⟩ := m5 c1.1
    subst u4
    refine ⟨0, e1, s1, k1, v1, F, ?_, by omega, p3, m3, m4, Or.inl ⟨rfl, ?_⟩⟩
    · simp (disch := omega) only [f_X7_readTime, x1, i1, ep, Option.bind_some, gd_t, if_true, if_false, if_neg]
    · exact c_bad (o := (4, rb, ri, az, alo, ahi, asl, aT)) hn hL t1 hl hl2 ⟨by omega, by omega⟩ (fun _ => by omega) (fun _ => tk)
  · rw [if_pos c1] at i1
    obtain ⟨u1, u2, u3, u4⟩ := m5 c1.1
    subst u4
    refine ⟨1, e1, s1, k1, v1, F2, ?_, by omega, p3, m3, m4, Or.inr ⟨rfl, by omega, p4, T2, hF, ?_⟩⟩
    · simp (disch := omega) only [f_X7_readTime, x1, i1, ep, eF, Option.bind_some, gd_t, if_true, if_false, if_pos, if_neg]
    · exact (c_tok hn hL t1 u1 hl hl2 tk).2 rfl
theorem t_k {n : Int} {L : Nat → Int} {c s e tok val v : Int} (h : zTk n L c s e tok val v) : (tok ≠ 0 → s < n ∧ s < e) ∧ (tok = 0 → s = n) ∧ (s < n → (tok = 4 ↔ L s.toNat = 59) ∧ (tok = 1 ↔ L s.toNat = 98) ∧ (tok = 2 ↔ L s.toNat = 116)) := by
  obtain ⟨k1, k2, k3, k4, k5, ⟨k6, k7, k8⟩ | ⟨k6, k7, -, -, -, ⟨a1, a2, a3, a4, a5, a6⟩ | ⟨a1, a2⟩⟩⟩ := h
  · exact ⟨fun _ => by omega, fun _ => k6, fun _ => by omega⟩
  · exact ⟨fun _ => ⟨k6, k7⟩, fun _ => by omega, fun _ => by omega⟩
  · exact ⟨fun _ => ⟨k6, k7⟩, fun _ => by omega, fun _ => by omega⟩
/-- the end of an item, and the token behind it -/
theorem e_semi {n c last : Int} {T L : Nat → Int} {rb ri az alo ahi asl : Int} {aT : Nat → Int} (a b d : Int) (h0 : 0 ≤ c) (hc : c ≤ n) (hn : n ≤ 100) (hT : ∀ k : Nat, (k : Int) < n → T k = L k ∧ 0 ≤ L k ∧ L k ≤ 255) (hl : -1 ≤ last) (hl2 : last < c) : ∃ e1 s1 k1 v1 : Int, f_X7_next n c a b d T = some (e1, s1, k1, v1) ∧ 0 ≤ k1 ∧ k1 ≤ 5 ∧ 0 ≤ s1 ∧ s1 ≤ n ∧ ((k1 ≠ 4 ∧ ∃ o : Int × Int × Int × Int × Int × Int × Int × (Nat → Int), zev (st_X5_read n L) (last, c, 5, rb, ri, az, alo, ahi, asl, aT) = some (-10 - s1, o)) ∨ (k1 = 4 ∧ c < e1 ∧ zev (st_X5_read n L) (last, c, 5, rb, ri, az, alo, ahi, asl, aT) = zev (st_X5_read n L) (e1 - 1, e1, 0, rb, ri + 1, az, alo, ahi, asl, aT) ∧ ∃ s2 e2 k2 v2 w2 : Int, f_X7_next n e1 s1 k1 v1 T = some (e2, s2, k2, v2) ∧ zTk n L e1 s2 e2 k2 v2 w2)) := by
  have hL := fun (k : Nat) (hk : (k : Int) < n) => (hT k hk).2
  obtain ⟨s1, e1, k1, v1, w1, x1, t1⟩ := e_tnext a b d h0 hc hn hT
  obtain ⟨m1, m2, m3, m4, m5, -⟩ := t_v t1
  obtain ⟨y1, y2, y3⟩ := t_k t1
  have t1' := t1
  obtain ⟨p1, p2, p3, p4, -, -⟩ := t1'
  refine ⟨e1, s1, k1, v1, x1, m3, m4, by omega, p3, ?_⟩
  by_cases hk : k1 = 4
  · obtain ⟨u1, u2⟩ := y1 (by omega)
    have tk := t_fin (l := L s1.toNat) (v := w1) (rb := rb) (ri := ri) (az := az) (alo := alo) (ahi := ahi) (asl := asl) (aT := aT) (hL s1.toNat (by omega))
    obtain ⟨s2, e2, k2, v2, w2, x2, t2⟩ := e_tnext s1 k1 v1 (show 0 ≤ e1 by omega) p4 hn hT
    exact Or.inr ⟨hk, by omega, (c_tok hn hL t1 u1 hl hl2 tk).2 (if_pos ((y3 u1).1.mp hk)), s2, e2, k2, v2, w2, x2, t2⟩
  · refine Or.inl ⟨hk, ?_⟩
    refine c_bad (o := (0, rb, ri + 1, az, alo, ahi, asl, aT)) hn hL t1 hl hl2 ⟨by omega, by omega⟩ (fun _ => by omega) (fun u1 => ?_)
    rw [t_fin (hL s1.toNat (by omega)), if_neg (fun q => hk ((y3 u1).1.mpr q))]
theorem zBoth_fbox {F : Nat → Int} {z lo hi sl lo2 hi2 sl2 : Int} {T : Nat → Int} (h : zBoth F 0 z lo hi sl T) (h1 : 10 ≤ lo2) (h2 : lo2 ≤ hi2) (h3 : hi2 ≤ 999) (h4 : 0 ≤ sl2) (h5 : sl2 ≤ 99) (h6 : 4 * sl2 < lo2) : zBoth (zup (zup (zup F 1 lo2) 2 hi2) 3 sl2) 0 z lo2 hi2 sl2 T := by
  obtain ⟨⟨a1, a2, a3, a4, a5, a6, a7, a8, a9, a10⟩, b1, b2, b3, b4, b5⟩ := h
  refine ⟨⟨a1, a2, h1, h2, h3, h4, h5, h6, a9, a10⟩, ?_, ?_, ?_, ?_, fun k hk => ?_⟩
  · rw [zup_n (by decide), zup_n (by decide), zup_n (by decide)]; exact b1
  · rw [zup_n (by decide), zup_n (by decide), zup_s (by decide)]
  · rw [zup_n (by decide), zup_s (by decide)]
  · rw [zup_s (by decide)]
  · have e1 : Int.toNat 1 = 1 := rfl
    have e2 : Int.toNat 2 = 2 := rfl
    have e3 : Int.toNat 3 = 3 := rfl
    rw [zup_n (by omega), zup_n (by omega), zup_n (by omega)]; exact b5 k hk
