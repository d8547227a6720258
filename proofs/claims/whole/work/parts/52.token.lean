/-! PURE: heard: tokens -/
theorem e_isDigit {L : Nat → Int} {s : Int} (h0 : 0 ≤ s) (h1 : s < 100) (hL : 0 ≤ L s.toNat ∧ L s.toNat ≤ 255) : f_X5_isDigit s L = some (if 48 ≤ L s.toNat ∧ L s.toNat ≤ 57 then 1 else 0) := by
  obtain ⟨g1, g2⟩ := hL
  by_cases a : L s.toNat < 48
  · simp (disch := omega) only [f_X5_isDigit, gd_t, if_true, if_false, if_pos, if_neg]
  · by_cases b : L s.toNat ≤ 57
    · simp (disch := omega) only [f_X5_isDigit, gd_t, if_true, if_false, if_pos, if_neg]
    · simp (disch := omega) only [f_X5_isDigit, gd_t, if_true, if_false, if_neg]
theorem e_last {L : Nat → Int} {n s : Int} (h0 : 0 ≤ s) (hs : s < n) (hn : n ≤ 100) (hL : ∀ k : Nat, (k : Int) < n → 0 ≤ L k ∧ L k ≤ 255) : ∃ e : Int, f_X5_lastOfToken s n L = some (e - 1) ∧ s < e ∧ e ≤ n ∧ ((¬ (48 ≤ L s.toNat ∧ L s.toNat ≤ 57) ∧ e = s + 1) ∨ ((∀ k : Nat, s ≤ (k : Int) → (k : Int) < e → 48 ≤ L k ∧ L k ≤ 57) ∧ (e < n → ¬ (48 ≤ L e.toNat ∧ L e.toNat ≤ 57)))) := by
  have ds := e_isDigit (L := L) h0 (by omega) (hL s.toNat (by omega))
  have e0 : f_X5_lastOfToken s n L = zev (st_X5_lastOfToken s n L) (s, s + 1) := by
    unfold f_X5_lastOfToken
    rw [zlt_t]
  rw [e0]
  by_cases hd : 48 ≤ L s.toNat ∧ L s.toNat ≤ 57
  · rw [if_pos hd] at ds
    obtain ⟨r, e, E, h1, h2, h3, h4, h5⟩ := zwhile (st := st_X5_lastOfToken s n L) (fun v => v.1 = v.2 - 1 ∧ s < v.2 ∧ v.2 ≤ n ∧ ∀ k : Nat, s ≤ (k : Int) → (k : Int) < v.2 → 48 ≤ L k ∧ L k ≤ 57) (fun v => (n - v.2).toNat) (fun r => ∃ E : Int, r = E - 1 ∧ s < E ∧ E ≤ n ∧ (∀ k : Nat, s ≤ (k : Int) → (k : Int) < E → 48 ≤ L k ∧ L k ≤ 57) ∧ (E < n → ¬ (48 ≤ L E.toNat ∧ L E.toNat ≤ 57))) (by
      rintro ⟨x, y⟩ ⟨g1, g2, g3, g4⟩
      dsimp only at g1 g2 g3 g4
      subst g1
      by_cases h : y < n
      · have dy := e_isDigit (L := L) (s := y) (by omega) (by omega) (hL y.toNat (by omega))
        by_cases hy : 48 ≤ L y.toNat ∧ L y.toNat ≤ 57
        · rw [if_pos hy] at dy
          refine Or.inr ⟨(y, y + 1), by simp (disch := omega) only [st_X5_lastOfToken, ds, dy, Option.bind_some, gd_t, if_true, if_false, if_pos, if_neg], ⟨by show y = y + 1 - 1; omega, by show s < y + 1; omega, by show y + 1 ≤ n; omega, fun k hk1 hk2 => ?_⟩, by show (n - (y + 1)).toNat < (n - y).toNat; omega⟩
          have hk2 : (k : Int) < y + 1 := hk2
          by_cases ek : k = y.toNat
          · rw [ek]; exact hy
          · exact g4 k hk1 (by omega)
        · rw [if_neg hy] at dy
          exact Or.inl ⟨y - 1, by simp (disch := omega) only [st_X5_lastOfToken, ds, dy, Option.bind_some, gd_t, if_true, if_false, if_pos, if_neg], y, rfl, g2, g3, g4, fun _ => hy⟩
      · exact Or.inl ⟨y - 1, by simp (disch := omega) only [st_X5_lastOfToken, gd_t, if_true, if_false, if_neg], y, rfl, g2, g3, g4, fun h2 => absurd h2 h⟩) (s, s + 1) ⟨by show s = s + 1 - 1; omega, by show s < s + 1; omega, by show s + 1 ≤ n; omega, fun k hk1 hk2 => by
        have hk2 : (k : Int) < s + 1 := hk2
        rw [show k = s.toNat by omega]; exact hd⟩
    exact ⟨E, by rw [e, h1], h2, h3, Or.inr ⟨h4, h5⟩⟩
  · rw [if_neg hd] at ds
    refine ⟨s + 1, ?_, by omega, by omega, Or.inl ⟨hd, rfl⟩⟩
    rw [show s + 1 - 1 = s by omega]
    apply zev_inr
    by_cases h : s + 1 < n
    · simp (disch := omega) only [st_X5_lastOfToken, ds, Option.bind_some, gd_t, if_true, if_false, if_pos, if_neg]
    · simp (disch := omega) only [st_X5_lastOfToken, gd_t, if_true, if_false, if_neg]
def zval (L : Nat → Int) (s : Nat) : Nat → Int
  | 0 => 0
  | k + 1 => if zval L s k < 10000 then zval L s k * 10 + (L (s + k) - 48) else zval L s k
theorem zval_s {L : Nat → Int} {s k : Nat} : zval L s (k + 1) = if zval L s k < 10000 then zval L s k * 10 + (L (s + k) - 48) else zval L s k := rfl
theorem zval_bd {L : Nat → Int} {s : Nat} : ∀ m : Nat, (∀ k : Nat, k < m → 48 ≤ L (s + k) ∧ L (s + k) ≤ 57) → 0 ≤ zval L s m ∧ zval L s m ≤ 99999 := by
  intro m
  induction m with
  | zero =>
    intro _
    show (0 : Int) ≤ 0 ∧ (0 : Int) ≤ 99999
    omega
  | succ m ih =>
    intro h
    obtain ⟨a, b⟩ := ih (fun k hk => h k (by omega))
    obtain ⟨c, d⟩ := h m (by omega)
    rw [zval_s]
    by_cases g : zval L s m < 10000
    · rw [if_pos g]; omega
    · rw [if_neg g]; exact ⟨a, b⟩
theorem zval_stay {L : Nat → Int} {s m : Nat} (h : ¬ zval L s m < 10000) : ∀ d : Nat, zval L s (m + d) = zval L s m := by
  intro d
  induction d with
  | zero => rfl
  | succ d ih =>
    show zval L s (m + d + 1) = zval L s m
    rw [zval_s, ih, if_neg h]
theorem e_valL {L : Nat → Int} {n s e : Int} (h0 : 0 ≤ s) (hs : s < e) (he : e ≤ n) (hn : n ≤ 100) (hd : ∀ k : Nat, s ≤ (k : Int) → (k : Int) < e → 48 ≤ L k ∧ L k ≤ 57) : zev (st_X5_valueOfToken (e - 1) L) (0, s) = some (if zval L s.toNat (e - s).toNat < 10000 then zval L s.toNat (e - s).toNat else -1) := by
  obtain ⟨r, er, hr⟩ := zwhile (st := st_X5_valueOfToken (e - 1) L) (fun v => s ≤ v.2 ∧ v.2 ≤ e ∧ v.1 = zval L s.toNat (v.2 - s).toNat) (fun v => (e - v.2).toNat) (fun r => r = if zval L s.toNat (e - s).toNat < 10000 then zval L s.toNat (e - s).toNat else -1) (by
    rintro ⟨x, y⟩ ⟨g1, g2, g3⟩
    dsimp only at g1 g2 g3
    have hb := zval_bd (L := L) (s := s.toNat) (y - s).toNat (fun k hk => hd (s.toNat + k) (by omega) (by omega))
    rw [← g3] at hb
    obtain ⟨b1, b2⟩ := hb
    by_cases h : y ≤ e - 1
    · by_cases hx : x < 10000
      · obtain ⟨d1, d2⟩ := hd y.toNat (by omega) (by omega)
        refine Or.inr ⟨(x * 10 + (L y.toNat - 48), y + 1), by simp (disch := omega) only [st_X5_valueOfToken, gd_t, if_true, if_false, if_pos, zlt_t], ⟨by show s ≤ y + 1; omega, by show y + 1 ≤ e; omega, ?_⟩, by show (e - (y + 1)).toNat < (e - y).toNat; omega⟩
        show x * 10 + (L y.toNat - 48) = zval L s.toNat (y + 1 - s).toNat
        rw [show (y + 1 - s).toNat = (y - s).toNat + 1 by omega, zval_s, ← g3, if_pos hx, show s.toNat + (y - s).toNat = y.toNat by omega]
      · refine Or.inl ⟨-1, by simp (disch := omega) only [st_X5_valueOfToken, gd_t, if_true, if_false, if_pos, if_neg], ?_⟩
        have hs2 := zval_stay (L := L) (s := s.toNat) (m := (y - s).toNat) (by rw [← g3]; exact hx) (e - y).toNat
        rw [show (y - s).toNat + (e - y).toNat = (e - s).toNat by omega, ← g3] at hs2
        rw [hs2, if_neg hx]
    · have hy : y = e := by omega
      rw [hy] at g3
      by_cases hx : x < 10000
      · refine Or.inl ⟨x, by simp (disch := omega) only [st_X5_valueOfToken, gd_t, if_true, if_false, if_pos, if_neg], ?_⟩
        rw [← g3, if_pos hx]
      · refine Or.inl ⟨-1, by simp (disch := omega) only [st_X5_valueOfToken, gd_t, if_true, if_false, if_neg], ?_⟩
        rw [← g3, if_neg hx]) (0, s) ⟨by show s ≤ s; omega, by show s ≤ e; omega, by show 0 = zval L s.toNat (s - s).toNat; rw [show (s - s).toNat = 0 by omega]; rfl⟩
  rw [er, hr]
theorem e_value {L : Nat → Int} {n s e : Int} (h0 : 0 ≤ s) (hs : s < e) (he : e ≤ n) (hn : n ≤ 100) (hd : ∀ k : Nat, s ≤ (k : Int) → (k : Int) < e → 48 ≤ L k ∧ L k ≤ 57) : f_X5_valueOfToken s (e - 1) L = some (if L s.toNat = 48 ∧ s + 1 < e then -1 else if zval L s.toNat (e - s).toNat < 10000 then zval L s.toNat (e - s).toNat else -1) := by
  have hds := hd s.toNat (by omega) (by omega)
  have ds := e_isDigit (L := L) h0 (by omega) ⟨by omega, by omega⟩
  rw [if_pos hds] at ds
  have ev := e_valL h0 hs he hn hd
  obtain ⟨g1, g2⟩ := hds
  unfold f_X5_valueOfToken
  by_cases a : L s.toNat = 48
  · by_cases b : s + 1 < e
    · rw [if_pos (show L s.toNat = 48 ∧ s + 1 < e from ⟨a, b⟩)]
      simp (disch := omega) only [ds, Option.bind_some, gd_t, if_true, if_false, if_pos, if_neg]
    · rw [if_neg (show ¬ (L s.toNat = 48 ∧ s + 1 < e) from fun h => b h.2), ← ev]
      simp (disch := omega) only [ds, Option.bind_some, gd_t, if_true, if_false, if_pos, if_neg]
  · rw [if_neg (show ¬ (L s.toNat = 48 ∧ s + 1 < e) from fun h => a h.1), ← ev]
    simp (disch := omega) only [ds, Option.bind_some, gd_t, if_true, if_false, if_neg]
theorem e_valueN {L : Nat → Int} {s e : Int} (h0 : 0 ≤ s) (h1 : s < 100) (hL : 0 ≤ L s.toNat ∧ L s.toNat ≤ 255) (hd : ¬ (48 ≤ L s.toNat ∧ L s.toNat ≤ 57)) : f_X5_valueOfToken s e L = some (-1) := by
  have ds := e_isDigit (L := L) h0 h1 hL
  rw [if_neg hd] at ds
  unfold f_X5_valueOfToken
  simp (disch := omega) only [ds, Option.bind_some, gd_t, if_true, if_false, if_pos]
/-- how a token looks to the class (its letter, its value) and to the reference (its kind, its value) -/
def zAs (l v tok val : Int) : Prop := (tok = 3 ∧ val = v ∧ 0 ≤ v ∧ v ≤ 9999 ∧ 48 ≤ l ∧ l ≤ 57) ∨ (v = -1 ∧ ((tok = 1 ∧ l = 98) ∨ (tok = 2 ∧ l = 116) ∨ (tok = 4 ∧ l = 59) ∨ (tok = 5 ∧ l ≠ 98 ∧ l ≠ 116 ∧ l ≠ 59)))
/-- the token that comes behind place c: from s up to e, or none -/
def zTk (n : Int) (L : Nat → Int) (c s e tok val v : Int) : Prop := 0 ≤ c ∧ c ≤ s ∧ s ≤ n ∧ e ≤ n ∧ (∀ k : Nat, c ≤ (k : Int) → (k : Int) < s → L k = 32) ∧ ((s = n ∧ tok = 0 ∧ v = -1) ∨ (s < n ∧ s < e ∧ L s.toNat ≠ 32 ∧ f_X5_lastOfToken s n L = some (e - 1) ∧ f_X5_valueOfToken s (e - 1) L = some v ∧ zAs (L s.toNat) v tok val))
theorem e_letterAt {T L : Nat → Int} {n c : Int} (h0 : 0 ≤ c) (hc : c < n) (hn : n ≤ 100) (hT : ∀ k : Nat, (k : Int) < n → T k = L k ∧ 0 ≤ L k ∧ L k ≤ 255) : f_X7_letterAt c n T = some (L c.toNat) := by
  rw [← (hT c.toNat (by omega)).1]
  simp (disch := omega) only [f_X7_letterAt, gd_t, if_true, if_false, if_pos]
theorem e_letterEnd {T : Nat → Int} {n : Int} (h0 : 0 ≤ n) (hn : n ≤ 100) : f_X7_letterAt n n T = some (-1) := by
  simp (disch := omega) only [f_X7_letterAt, gd_t, if_true, if_false, if_neg]
/-- the digits of a number, as the reference reads them -/
theorem e_digits {T L : Nat → Int} {n s e : Int} (h0 : 0 ≤ s) (hs : s < e) (he : e ≤ n) (hn : n ≤ 100) (hT : ∀ k : Nat, (k : Int) < n → T k = L k ∧ 0 ≤ L k ∧ L k ≤ 255) (hd : ∀ k : Nat, s ≤ (k : Int) → (k : Int) < e → 48 ≤ L k ∧ L k ≤ 57) (hE : e < n → ¬ (48 ≤ L e.toNat ∧ L e.toNat ≤ 57)) : zev (st_X7_next n T) (1, L s.toNat, s + 1, s, 3, L s.toNat - 48) = some (e, s, if L s.toNat = 48 ∧ s + 1 < e then 5 else if zval L s.toNat (e - s).toNat < 10000 then 3 else 5, zval L s.toNat (e - s).toNat) := by
  obtain ⟨r, er, hr⟩ := zwhile (st := st_X7_next n T) (fun v => ∃ y : Int, s < y ∧ y ≤ e ∧ v = (1, L s.toNat, y, s, 3, zval L s.toNat (y - s).toNat)) (fun v => (e - v.2.2.1).toNat) (fun r => r = (e, s, if L s.toNat = 48 ∧ s + 1 < e then 5 else if zval L s.toNat (e - s).toNat < 10000 then 3 else 5, zval L s.toNat (e - s).toNat)) (by
    rintro v ⟨y, g1, g2, rfl⟩
    obtain ⟨b1, b2⟩ := zval_bd (L := L) (s := s.toNat) (y - s).toNat (fun k hk => hd (s.toNat + k) (by omega) (by omega))
    obtain ⟨c1, c2⟩ := hd s.toNat (by omega) (by omega)
    by_cases h : y < e
    · obtain ⟨d1, d2⟩ := hd y.toNat (by omega) (by omega)
      have ey := e_letterAt (T := T) (L := L) (n := n) (c := y) (by omega) (by omega) hn hT
      have ei := e_in (a := L y.toNat) (b := 48) (c := 57) ⟨by omega, by omega⟩ ⟨by omega, by omega⟩ ⟨by omega, by omega⟩
      rw [if_pos ⟨d1, d2⟩] at ei
      refine Or.inr ⟨(1, L s.toNat, y + 1, s, 3, zval L s.toNat (y + 1 - s).toNat), ?_, ⟨y + 1, by omega, by omega, rfl⟩, by show (e - (y + 1)).toNat < (e - y).toNat; omega⟩
      rw [show (y + 1 - s).toNat = (y - s).toNat + 1 by omega, zval_s, show s.toNat + (y - s).toNat = y.toNat by omega]
      by_cases hx : zval L s.toNat (y - s).toNat < 10000
      · rw [if_pos hx, show zval L s.toNat (y - s).toNat * 10 + (L y.toNat - 48) = 10 * zval L s.toNat (y - s).toNat + L y.toNat - 48 by omega]
        simp (disch := omega) only [st_X7_next, ey, ei, Option.bind_some, gd_t, if_true, if_false, if_pos, if_neg]
      · rw [if_neg hx]
        simp (disch := omega) only [st_X7_next, ey, ei, Option.bind_some, gd_t, if_true, if_false, if_neg]
    · have hy : y = e := by omega
      subst hy
      have ex : ∃ x : Int, f_X7_letterAt y n T = some x ∧ -1 ≤ x ∧ x ≤ 255 ∧ f_X7_in x 48 57 = some 0 := by
        by_cases hyn : y < n
        · have u := hT y.toNat (by omega)
          refine ⟨L y.toNat, e_letterAt (by omega) hyn hn hT, by omega, by omega, ?_⟩
          rw [e_in ⟨by omega, by omega⟩ ⟨by omega, by omega⟩ ⟨by omega, by omega⟩, if_neg (hE hyn)]
        · have : y = n := by omega
          subst this
          refine ⟨-1, e_letterEnd (by omega) hn, by omega, by omega, ?_⟩
          rw [e_in ⟨by omega, by omega⟩ ⟨by omega, by omega⟩ ⟨by omega, by omega⟩, if_neg (by omega)]
      obtain ⟨x, ey, x1, x2, ei⟩ := ex
      refine Or.inl ⟨_, ?_, rfl⟩
      by_cases hx : zval L s.toNat (y - s).toNat < 10000
      · rw [if_pos hx]
        by_cases ha : L s.toNat = 48
        · by_cases hb : s + 1 < y
          · rw [if_pos (show L s.toNat = 48 ∧ s + 1 < y from ⟨ha, hb⟩)]
            simp (disch := omega) only [st_X7_next, ey, ei, Option.bind_some, gd_t, if_true, if_false, if_pos, if_neg]
          · rw [if_neg (show ¬ (L s.toNat = 48 ∧ s + 1 < y) from fun h => hb h.2)]
            simp (disch := omega) only [st_X7_next, ey, ei, Option.bind_some, gd_t, if_true, if_false, if_pos, if_neg]
        · rw [if_neg (show ¬ (L s.toNat = 48 ∧ s + 1 < y) from fun h => ha h.1)]
          simp (disch := omega) only [st_X7_next, ey, ei, Option.bind_some, gd_t, if_true, if_false, if_pos, if_neg]
      · rw [if_neg hx, ite_self]
        simp (disch := omega) only [st_X7_next, ey, ei, Option.bind_some, gd_t, if_true, if_false, if_pos, if_neg]) (1, L s.toNat, s + 1, s, 3, L s.toNat - 48) ⟨s + 1, by omega, by omega, by
      rw [show (s + 1 - s).toNat = 0 + 1 by omega, zval_s]
      show (1, L s.toNat, s + 1, s, 3, L s.toNat - 48) = (1, L s.toNat, s + 1, s, 3, if (0 : Int) < 10000 then 0 * 10 + (L (s.toNat + 0) - 48) else 0)
      rw [if_pos (by decide), Nat.add_zero, Int.zero_mul, Int.zero_add]⟩
  rw [er, hr]
/-- the token at s, where no space is -/
theorem e_tok {T L : Nat → Int} {n s a b d : Int} (h0 : 0 ≤ s) (hs : s ≤ n) (hn : n ≤ 100) (hT : ∀ k : Nat, (k : Int) < n → T k = L k ∧ 0 ≤ L k ∧ L k ≤ 255) (h32 : s < n → L s.toNat ≠ 32) : ∃ e tok val v, zTk n L s s e tok val v ∧ zev (st_X7_next n T) (0, 0, s, a, b, d) = some (e, s, tok, val) ∧ f_X7_next n s a b d T = some (e, s, tok, val) := by
  by_cases hsn : s < n
  · have hl := hT s.toNat (by omega)
    have ey := e_letterAt (T := T) (L := L) (n := n) (c := s) (by omega) (by omega) hn hT
    have h32' := h32 hsn
    obtain ⟨e, e1, e2, e3, e4⟩ := e_last (L := L) h0 hsn hn (fun k hk => (hT k hk).2)
    have ei := e_in (a := L s.toNat) (b := 48) (c := 57) ⟨by omega, by omega⟩ ⟨by omega, by omega⟩ ⟨by omega, by omega⟩
    rcases e4 with ⟨hd, rfl⟩ | ⟨hd, hE⟩
    · rw [if_neg hd] at ei
      have ev := e_valueN (L := L) (e := s + 1 - 1) h0 (by omega) hl.2 hd
      refine ⟨s + 1, if L s.toNat = 98 then 1 else if L s.toNat = 116 then 2 else if L s.toNat = 59 then 4 else 5, d, -1, ⟨h0, by omega, hs, e3, fun k hk1 hk2 => by omega, Or.inr ⟨hsn, e2, h32', e1, ev, Or.inr ⟨rfl, ?_⟩⟩⟩, ?_, ?_⟩
      · by_cases c1 : L s.toNat = 98
        · rw [if_pos c1]; exact Or.inl ⟨rfl, c1⟩
        · rw [if_neg c1]
          by_cases c2 : L s.toNat = 116
          · rw [if_pos c2]; exact Or.inr (Or.inl ⟨rfl, c2⟩)
          · rw [if_neg c2]
            by_cases c3 : L s.toNat = 59
            · rw [if_pos c3]; exact Or.inr (Or.inr (Or.inl ⟨rfl, c3⟩))
            · rw [if_neg c3]; exact Or.inr (Or.inr (Or.inr ⟨rfl, c1, c2, c3⟩))
      · apply zev_inr
        by_cases c1 : L s.toNat = 98
        · simp (disch := omega) only [st_X7_next, ey, ei, Option.bind_some, gd_t, if_true, if_false, if_pos, if_neg]
        · by_cases c2 : L s.toNat = 116
          · simp (disch := omega) only [st_X7_next, ey, ei, Option.bind_some, gd_t, if_true, if_false, if_pos, if_neg]
          · by_cases c3 : L s.toNat = 59
            · simp (disch := omega) only [st_X7_next, ey, ei, Option.bind_some, gd_t, if_true, if_false, if_pos, if_neg]
            · simp (disch := omega) only [st_X7_next, ey, ei, Option.bind_some, gd_t, if_true, if_false, if_pos, if_neg]
      · by_cases c1 : L s.toNat = 98
        · simp (disch := omega) only [f_X7_next, ey, ei, Option.bind_some, gd_t, if_true, if_false, if_pos, if_neg]
        · by_cases c2 : L s.toNat = 116
          · simp (disch := omega) only [f_X7_next, ey, ei, Option.bind_some, gd_t, if_true, if_false, if_pos, if_neg]
          · by_cases c3 : L s.toNat = 59
            · simp (disch := omega) only [f_X7_next, ey, ei, Option.bind_some, gd_t, if_true, if_false, if_pos, if_neg]
            · simp (disch := omega) only [f_X7_next, ey, ei, Option.bind_some, gd_t, if_true, if_false, if_pos, if_neg]
    · have hds := hd s.toNat (by omega) (by omega)
      rw [if_pos hds] at ei
      have ev := e_value h0 e2 e3 hn hd
      have er := e_digits (T := T) h0 e2 e3 hn hT hd hE
      obtain ⟨b1, b2⟩ := zval_bd (L := L) (s := s.toNat) (e - s).toNat (fun k hk => hd (s.toNat + k) (by omega) (by omega))
      refine ⟨e, if L s.toNat = 48 ∧ s + 1 < e then 5 else if zval L s.toNat (e - s).toNat < 10000 then 3 else 5, zval L s.toNat (e - s).toNat, _, ⟨h0, by omega, hs, e3, fun k hk1 hk2 => by omega, Or.inr ⟨hsn, e2, h32', e1, ev, ?_⟩⟩, ?_, ?_⟩
      · by_cases c1 : L s.toNat = 48 ∧ s + 1 < e
        · rw [if_pos c1, if_pos c1]
          exact Or.inr ⟨rfl, Or.inr (Or.inr (Or.inr ⟨rfl, by omega, by omega, by omega⟩))⟩
        · rw [if_neg c1, if_neg c1]
          by_cases c2 : zval L s.toNat (e - s).toNat < 10000
          · rw [if_pos c2, if_pos c2]
            exact Or.inl ⟨rfl, rfl, b1, by omega, hds.1, hds.2⟩
          · rw [if_neg c2, if_neg c2]
            exact Or.inr ⟨rfl, Or.inr (Or.inr (Or.inr ⟨rfl, by omega, by omega, by omega⟩))⟩
      · rw [← er]
        apply zev_inl
        simp (disch := omega) only [st_X7_next, ey, ei, Option.bind_some, gd_t, if_true, if_false, if_neg]
      · rw [← er]
        simp (disch := omega) only [f_X7_next, ey, ei, Option.bind_some, gd_t, if_true, if_false, if_neg]
  · have hsn : s = n := by omega
    subst hsn
    have ey := e_letterEnd (T := T) (n := s) h0 hn
    have ei := e_in (a := -1) (b := 48) (c := 57) ⟨by omega, by omega⟩ ⟨by omega, by omega⟩ ⟨by omega, by omega⟩
    rw [if_neg (by omega)] at ei
    refine ⟨s + 0, 0, d, -1, ⟨h0, by omega, hs, by omega, fun k hk1 hk2 => by omega, Or.inl ⟨rfl, rfl, rfl⟩⟩, ?_, ?_⟩
    · apply zev_inr
      simp (disch := omega) only [st_X7_next, ey, ei, Option.bind_some, gd_t, if_true, if_false, if_pos, if_neg]
    · simp (disch := omega) only [f_X7_next, ey, ei, Option.bind_some, gd_t, if_true, if_false, if_pos, if_neg]
/-- spaces are passed over -/
theorem e_spaces {T L : Nat → Int} {n a b d : Int} (hn : n ≤ 100) (hT : ∀ k : Nat, (k : Int) < n → T k = L k ∧ 0 ≤ L k ∧ L k ≤ 255) : ∀ (m : Nat) (c : Int), 0 ≤ c → c ≤ n → (n - c).toNat < m → ∃ s e tok val v, zTk n L c s e tok val v ∧ zev (st_X7_next n T) (0, 0, c, a, b, d) = some (e, s, tok, val) ∧ f_X7_next n c a b d T = some (e, s, tok, val) := by
  intro m
  induction m with
  | zero => intro c _ _ h; omega
  | succ m ih =>
    intro c h0 hc hm
    by_cases h : c < n ∧ L c.toNat = 32
    · obtain ⟨h1, h2⟩ := h
      obtain ⟨s, e, tok, val, v, ⟨k1, k2, k3, k4, k5, k6⟩, t1, -⟩ := ih (c + 1) (by omega) (by omega) (by omega)
      have ey := e_letterAt (T := T) (L := L) (n := n) (c := c) h0 h1 hn hT
      rw [h2] at ey
      refine ⟨s, e, tok, val, v, ⟨h0, by omega, k3, k4, fun k hk1 hk2 => ?_, k6⟩, ?_, ?_⟩
      · by_cases ek : k = c.toNat
        · rw [ek]; exact h2
        · exact k5 k (by omega) hk2
      · rw [← t1]
        apply zev_inl
        simp (disch := omega) only [st_X7_next, ey, Option.bind_some, gd_t, if_true, if_pos]
      · rw [← t1]
        simp (disch := omega) only [f_X7_next, ey, Option.bind_some, gd_t, if_true, if_pos]
    · obtain ⟨e, tok, val, v, t1, t2, t3⟩ := e_tok (T := T) (L := L) (a := a) (b := b) (d := d) h0 hc hn hT (fun h1 h2 => h ⟨h1, h2⟩)
      exact ⟨c, e, tok, val, v, t1, t2, t3⟩
theorem e_tnext {T L : Nat → Int} {n c : Int} (a b d : Int) (h0 : 0 ≤ c) (hc : c ≤ n) (hn : n ≤ 100) (hT : ∀ k : Nat, (k : Int) < n → T k = L k ∧ 0 ≤ L k ∧ L k ≤ 255) : ∃ s e tok val v, f_X7_next n c a b d T = some (e, s, tok, val) ∧ zTk n L c s e tok val v := by
  obtain ⟨s, e, tok, val, v, h1, -, h2⟩ := e_spaces (T := T) (L := L) (a := a) (b := b) (d := d) hn hT ((n - c).toNat + 1) c h0 hc (by omega)
  exact ⟨s, e, tok, val, v, h2, h1⟩
