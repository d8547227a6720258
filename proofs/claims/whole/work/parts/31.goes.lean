/-! PURE: the reference's numberings, one after the other -/
def tD (t : Nat → Int) (s : Int) : Nat → List Int → zB → Nat
  | 0, _, _ => 0
  | d + 1, ν, b => ((cands (bG b (t ν.length - t 0) s - tN ν).toNat (tN ν)).map (fun n => 1 + (if bemp (tb t s ν b n) = true then 0 else tD t s d (ν ++ [n]) (tb t s ν b n)))).sum + 1
def tH (t : Nat → Int) (s : Int) (d : Nat) (ν : List Int) (b : zB) (n : Int) : Nat := 1 + (if bemp (tb t s ν b n) = true then 0 else tD t s d (ν ++ [n]) (tb t s ν b n))
def cD (t : Nat → Int) (s : Int) (k : Nat) (N : Nat → Int) (B : Nat → zB) : Nat → Nat
  | 0 => 0
  | a + 1 => ((cands (bG (B a) (t (a + 1) - t 0) s - N (a + 1)).toNat (N (a + 1))).map (tH t s (k - (a + 2)) (pre N (a + 1)) (B a))).sum + 1 + cD t s k N B a
theorem cD_congr {t : Nat → Int} {s : Int} {k : Nat} {N N2 : Nat → Int} {B B2 : Nat → zB} : ∀ a : Nat, (∀ i : Nat, i ≤ a → N i = N2 i) → (∀ i : Nat, i < a → B i = B2 i) → cD t s k N B a = cD t s k N2 B2 a := by
  intro a
  induction a with
  | zero => intro _ _; rfl
  | succ a ih =>
    intro h1 h2
    have i2 := ih (fun i hi => h1 i (by omega)) (fun i hi => h2 i (by omega))
    simp only [cD]
    rw [i2, h1 (a + 1) (Nat.le_refl _), h2 a (by omega), pre_congr (a + 1) (fun i hi => h1 i (by omega))]
theorem cD_step {t : Nat → Int} {s : Int} {k a : Nat} {N N2 : Nat → Int} {B B2 : Nat → zB} (ha : 0 < a) (hlt : N a < bG (B (a - 1)) (t a - t 0) s) (hN : N2 a = N a + 1) (h1 : ∀ i : Nat, i < a → N2 i = N i) (h2 : ∀ i : Nat, i < a → B2 i = B i) : cD t s k N B a = tH t s (k - (a + 1)) (pre N a) (B (a - 1)) (N a + 1) + cD t s k N2 B2 a := by
  obtain ⟨c, rfl⟩ : ∃ c, a = c + 1 := ⟨a - 1, by omega⟩
  rw [Nat.add_sub_cancel] at hlt ⊢
  have i2 := cD_congr (t := t) (s := s) (k := k) (N := N2) (N2 := N) (B := B2) (B2 := B) c (fun i hi => h1 i (by omega)) (fun i hi => h2 i (by omega))
  have ep : pre N2 (c + 1) = pre N (c + 1) := pre_congr (c + 1) (fun i hi => h1 i hi)
  simp only [cD]
  rw [i2, ep, h2 c (by omega), hN, cands_cons hlt, List.map_cons, List.sum_cons]
  rw [show k - (c + 1 + 1) = k - (c + 2) by omega]
  omega
def mV (t : Nat → Int) (s lo hi : Int) (N : Nat → Int) (B : Nat → zB) (a : Nat) : Prop := (∀ i : Nat, i < a → tI t s lo hi (pre N (i + 1)) (B i)) ∧ (0 < a → N (a - 1) ≤ N a ∧ N a ≤ 320)
def mOut (t : Nat → Int) (s lo hi : Int) (k : Nat) (R : Nat → Int) (L0 : List (List Int × zB)) (r : Int × Int × (Nat → Int) × (Nat → Int) × (Nat → Int) × (Nat → Int) × (Nat → Int) × (Nat → Int)) : Prop :=
  (r.1 = 0 ∧ r.2.1 = 0 ∧ r.2.2.1 = zup R 0 0 ∧ L0 = []) ∨ (r.1 = 1 ∧ r.2.1 = ((k - 1 : Nat) : Int) ∧ r.2.2.1 = R ∧ ∃ z rest, L0 = z :: rest ∧ pre r.2.2.2.1 k = z.1 ∧ bx r.2.2.2.2.1 r.2.2.2.2.2.1 r.2.2.2.2.2.2.1 r.2.2.2.2.2.2.2 (k - 1) = z.2 ∧ mV t s lo hi r.2.2.2.1 (bx r.2.2.2.2.1 r.2.2.2.2.2.1 r.2.2.2.2.2.2.1 r.2.2.2.2.2.2.2) (k - 1) ∧ cR t s k r.2.2.2.1 (bx r.2.2.2.2.1 r.2.2.2.2.2.1 r.2.2.2.2.2.2.1 r.2.2.2.2.2.2.2) (k - 1) = rest)
theorem e_goLoop {k : Nat} {t R nN nLU nLL nHU nHL : Nat → Int} {s lo hi : Int} {a : Nat} {L0 : List (List Int × zB)} (C : zCt k t s lo hi) (hRow : mRow k t s R) (h2k : 2 ≤ k) (ha : a < k) (hv : mV t s lo hi nN (bx nLU nLL nHU nHL) a) (hR : cR t s k nN (bx nLU nLL nHU nHL) a = L0) : ∃ r, zev st_X7_goesOn (((k - 1 : Nat) : Int), (a : Int), R, nN, nLU, nLL, nHU, nHL) = some r ∧ mOut t s lo hi k R L0 r := by
  have hk7 : k ≤ 7 := C.1
  exact zwhile (st := st_X7_goesOn) (fun v => v.1 = ((k - 1 : Nat) : Int) ∧ v.2.2.1 = R ∧ ∃ a : Nat, v.2.1 = (a : Int) ∧ a < k ∧ mV t s lo hi v.2.2.2.1 (bx v.2.2.2.2.1 v.2.2.2.2.2.1 v.2.2.2.2.2.2.1 v.2.2.2.2.2.2.2) a ∧ cR t s k v.2.2.2.1 (bx v.2.2.2.2.1 v.2.2.2.2.2.1 v.2.2.2.2.2.2.1 v.2.2.2.2.2.2.2) a = L0) (fun v => cD t s k v.2.2.2.1 (bx v.2.2.2.2.1 v.2.2.2.2.2.1 v.2.2.2.2.2.2.1 v.2.2.2.2.2.2.2) v.2.1.toNat) (mOut t s lo hi k R L0) (by
    rintro ⟨x, y, S, N, LU, LL, HU, HL⟩ ⟨g0, gS, a, g1, g2, g3, g5⟩
    dsimp only at g0 gS g1 g3 g5
    subst g0
    subst gS
    subst g1
    by_cases ha0 : a = 0
    · subst ha0
      exact Or.inl ⟨(0, 0, zup S 0 0, N, LU, LL, HU, HL), by simp (disch := omega) only [st_X7_goesOn, gd_t, if_pos], Or.inl ⟨rfl, rfl, rfl, g5.symm⟩⟩
    · have hI := g3.1 (a - 1) (by omega)
      rw [show a - 1 + 1 = a by omega] at hI
      obtain ⟨v1, v2⟩ := g3.2 (by omega)
      have hN0 := tI_nth hI (show a - 1 < (pre N a).length by rw [pre_len]; omega)
      rw [pre_nth N a (a - 1) (by omega)] at hN0
      have ep : pre (zup N (a : Int) (N a + 1)) a = pre N a := pre_congr a (fun i hi => zup_n (by omega))
      have en : zup N (a : Int) (N a + 1) a = N a + 1 := zup_s (by omega)
      have en1 : zup N (a : Int) (N a + 1) (a - 1) = N (a - 1) := zup_n (by omega)
      have eb := e_beyond (N := zup N (a : Int) (N a + 1)) (LU := LU) (LL := LL) (HU := HU) (HL := HL) C hRow (by omega) g2 hI (by rw [en]; omega) (by rw [en]; omega)
      rw [en] at eb
      by_cases hlt : N a + 1 ≤ bG (bx LU LL HU HL (a - 1)) (t a - t 0) s
      · rw [if_pos hlt] at eb
        obtain ⟨r, LU2, LL2, HU2, HL2, ef, fo, hbx, fr⟩ := e_doesCut (nN := zup N (a : Int) (N a + 1)) (nLU := LU) (nLL := LL) (nHU := HU) (nHL := HL) (R := S) C hRow (by omega) g2 (by rw [ep]; exact hI) (by rw [en, en1]; omega) (by rw [en]; omega)
        rw [ep, en] at fr hbx
        obtain ⟨s1, -⟩ := cR_step (k := k) (N := N) (N2 := zup N (a : Int) (N a + 1)) (B := bx LU LL HU HL) (B2 := bx LU2 LL2 HU2 HL2) (t := t) (s := s) (a := a) (by omega) (by omega) en (fun i hi => zup_n (by omega)) (fun i hi => fo i (by omega))
        have s2 := cD_step (k := k) (N := N) (N2 := zup N (a : Int) (N a + 1)) (B := bx LU LL HU HL) (B2 := bx LU2 LL2 HU2 HL2) (t := t) (s := s) (a := a) (by omega) (by omega) en (fun i hi => zup_n (by omega)) (fun i hi => fo i (by omega))
        have hb320 := (tI_bd (n := N a + 1) C hI (by rw [pre_len]; exact g2) (by rw [pre_tN N (by omega)]; omega) (by rw [pre_len]; omega)).1
        have hvn : ∀ i : Nat, i < a → tI t s lo hi (pre (zup N (a : Int) (N a + 1)) (i + 1)) (bx LU2 LL2 HU2 HL2 i) := by
          intro i hi
          rw [fo i (by omega), pre_congr (N2 := N) (i + 1) (fun j hj => zup_n (by omega))]
          exact g3.1 i hi
        rcases fr with ⟨rfl, he⟩ | ⟨rfl, he⟩
        · have e1 : tF t s (k - (a + 1)) (pre N a) (bx LU LL HU HL (a - 1)) (N a + 1) = tE t s (k - (a + 1)) (pre N a ++ [N a + 1]) (tb t s (pre N a) (bx LU LL HU HL (a - 1)) (N a + 1)) := by
            unfold tF
            rw [if_neg (by rw [he]; exact Bool.false_ne_true)]
          have e2 : tH t s (k - (a + 1)) (pre N a) (bx LU LL HU HL (a - 1)) (N a + 1) = 1 + tD t s (k - (a + 1)) (pre N a ++ [N a + 1]) (tb t s (pre N a) (bx LU LL HU HL (a - 1)) (N a + 1)) := by
            unfold tH
            rw [if_neg (by rw [he]; exact Bool.false_ne_true)]
          have epa : pre (zup N (a : Int) (N a + 1)) (a + 1) = pre N a ++ [N a + 1] := by
            show pre _ a ++ [_] = _
            rw [ep, en]
          by_cases hl : a = k - 1
          · refine Or.inl ⟨(1, (a : Int), S, zup N (a : Int) (N a + 1), LU2, LL2, HU2, HL2), ?_, Or.inr ⟨rfl, by rw [← hl], rfl, (pre N a ++ [N a + 1], tb t s (pre N a) (bx LU LL HU HL (a - 1)) (N a + 1)), cR t s k (zup N (a : Int) (N a + 1)) (bx LU2 LL2 HU2 HL2) a, ?_, ?_, ?_, ?_, ?_⟩⟩
            · simp (disch := omega) only [st_X7_goesOn, gd_t, if_true, if_pos, if_neg, Int.toNat_natCast, eb, ef, Option.bind_some]
            · rw [← g5, s1, e1, show k - (a + 1) = 0 by omega]
              rfl
            · show pre _ k = _
              rw [show k = a + 1 by omega]
              exact epa
            · show bx _ _ _ _ (k - 1) = _
              rw [← hl]
              exact hbx
            · rw [← hl]
              exact ⟨hvn, fun _ => by show zup N (a : Int) (N a + 1) (a - 1) ≤ zup N (a : Int) (N a + 1) a ∧ zup N (a : Int) (N a + 1) a ≤ 320; rw [en, en1]; omega⟩
            · rw [← hl]
          · have hI2 : tI t s lo hi (pre (zup N (a : Int) (N a + 1)) (a + 1)) (bx LU2 LL2 HU2 HL2 a) := by
              rw [hbx, epa]
              exact (tI_step C hI (by rw [pre_len]; exact g2) (by rw [pre_tN N (by omega)]; omega) (by rw [pre_len]; omega)).2.2 he
            have etN : tN (pre (zup N (a : Int) (N a + 1)) (a + 1)) = N a + 1 := by rw [pre_tN _ (by omega), Nat.add_sub_cancel]; exact en
            have ew : zup N (a : Int) (N a + 1) (Int.toNat ((a : Int) + 1 - 1)) = N a + 1 := by rw [show Int.toNat ((a : Int) + 1 - 1) = a by omega]; exact en
            have ep2 : ∀ j : Nat, j ≤ a + 1 → pre (zup (zup N (a : Int) (N a + 1)) ((a : Int) + 1) (N a + 1)) j = pre (zup N (a : Int) (N a + 1)) j := fun j hj => pre_congr j (fun i hi => zup_n (by omega))
            have ew1 : zup (zup N (a : Int) (N a + 1)) ((a : Int) + 1) (N a + 1) (a + 1) = N a + 1 := zup_s (by omega)
            obtain ⟨cg1, -⟩ := cR_congr (t := t) (s := s) (k := k) (N := zup (zup N (a : Int) (N a + 1)) ((a : Int) + 1) (N a + 1)) (N2 := zup N (a : Int) (N a + 1)) (B := bx LU2 LL2 HU2 HL2) (B2 := bx LU2 LL2 HU2 HL2) a (fun i hi => zup_n (by omega)) (fun i hi => rfl)
            have cg2 := cD_congr (t := t) (s := s) (k := k) (N := zup (zup N (a : Int) (N a + 1)) ((a : Int) + 1) (N a + 1)) (N2 := zup N (a : Int) (N a + 1)) (B := bx LU2 LL2 HU2 HL2) (B2 := bx LU2 LL2 HU2 HL2) a (fun i hi => zup_n (by omega)) (fun i hi => rfl)
            refine Or.inr ⟨(((k - 1 : Nat) : Int), (a : Int) + 1, S, zup (zup N (a : Int) (N a + 1)) ((a : Int) + 1) (N a + 1), LU2, LL2, HU2, HL2), ?_, ⟨rfl, rfl, a + 1, by show (a : Int) + 1 = ((a + 1 : Nat) : Int); omega, by omega, ⟨fun i hia => ?_, fun _ => ?_⟩, ?_⟩, ?_⟩
            · simp (disch := omega) only [st_X7_goesOn, gd_t, if_true, if_pos, if_neg, Int.toNat_natCast, eb, ef, Option.bind_some, ew]
            · show tI t s lo hi (pre (zup (zup N (a : Int) (N a + 1)) ((a : Int) + 1) (N a + 1)) (i + 1)) (bx LU2 LL2 HU2 HL2 i)
              rw [ep2 (i + 1) (by omega)]
              by_cases ei : i = a
              · rw [ei]; exact hI2
              · exact hvn i (by omega)
            · show zup (zup N (a : Int) (N a + 1)) ((a : Int) + 1) (N a + 1) (a + 1 - 1) ≤ zup (zup N (a : Int) (N a + 1)) ((a : Int) + 1) (N a + 1) (a + 1) ∧ zup (zup N (a : Int) (N a + 1)) ((a : Int) + 1) (N a + 1) (a + 1) ≤ 320
              rw [ew1, Nat.add_sub_cancel, zup_n (by omega), en]
              omega
            · show cR t s k (zup (zup N (a : Int) (N a + 1)) ((a : Int) + 1) (N a + 1)) (bx LU2 LL2 HU2 HL2) (a + 1) = L0
              have ee : tE t s (k - (a + 2) + 1) (pre (zup N (a : Int) (N a + 1)) (a + 1)) (bx LU2 LL2 HU2 HL2 a) = (cands (bG (bx LU2 LL2 HU2 HL2 a) (t (a + 1) - t 0) s - (N a + 1)).toNat (N a + 1)).flatMap (tF t s (k - (a + 2)) (pre (zup N (a : Int) (N a + 1)) (a + 1)) (bx LU2 LL2 HU2 HL2 a)) := by
                simp only [tE]
                rw [pre_len, etN]
                rfl
              simp only [cR]
              rw [cg1, ew1, ep2 (a + 1) (Nat.le_refl _), ← g5, s1, e1, ← epa, ← hbx, show k - (a + 1) = k - (a + 2) + 1 by omega, ee]
            · show cD t s k (zup (zup N (a : Int) (N a + 1)) ((a : Int) + 1) (N a + 1)) (bx LU2 LL2 HU2 HL2) ((a : Int) + 1).toNat < cD t s k N (bx LU LL HU HL) (a : Int).toNat
              have ec : tD t s (k - (a + 2) + 1) (pre (zup N (a : Int) (N a + 1)) (a + 1)) (bx LU2 LL2 HU2 HL2 a) = ((cands (bG (bx LU2 LL2 HU2 HL2 a) (t (a + 1) - t 0) s - (N a + 1)).toNat (N a + 1)).map (tH t s (k - (a + 2)) (pre (zup N (a : Int) (N a + 1)) (a + 1)) (bx LU2 LL2 HU2 HL2 a))).sum + 1 := by
                simp only [tD]
                rw [pre_len, etN]
                rfl
              rw [show ((a : Int) + 1).toNat = a + 1 by omega, Int.toNat_natCast, s2, e2]
              simp only [cD]
              rw [cg2, ew1, ep2 (a + 1) (Nat.le_refl _), ← ec, epa, hbx, show k - (a + 2) + 1 = k - (a + 1) by omega]
              omega
        · have e1 : tF t s (k - (a + 1)) (pre N a) (bx LU LL HU HL (a - 1)) (N a + 1) = [] := by
            unfold tF
            rw [if_pos he]
          have e2 : tH t s (k - (a + 1)) (pre N a) (bx LU LL HU HL (a - 1)) (N a + 1) = 1 := by
            unfold tH
            rw [if_pos he]
          refine Or.inr ⟨(((k - 1 : Nat) : Int), (a : Int), S, zup N (a : Int) (N a + 1), LU2, LL2, HU2, HL2), ?_, ⟨rfl, rfl, a, rfl, g2, ⟨hvn, fun _ => ?_⟩, ?_⟩, ?_⟩
          · simp (disch := omega) only [st_X7_goesOn, gd_t, if_true, if_pos, if_neg, Int.toNat_natCast, eb, ef, Option.bind_some]
          · show zup N (a : Int) (N a + 1) (a - 1) ≤ zup N (a : Int) (N a + 1) a ∧ zup N (a : Int) (N a + 1) a ≤ 320
            rw [en, en1]
            omega
          · show cR t s k (zup N (a : Int) (N a + 1)) (bx LU2 LL2 HU2 HL2) a = L0
            rw [← g5, s1, e1, List.nil_append]
          · show cD t s k (zup N (a : Int) (N a + 1)) (bx LU2 LL2 HU2 HL2) (a : Int).toNat < cD t s k N (bx LU LL HU HL) (a : Int).toNat
            rw [Int.toNat_natCast, s2, e2]
            omega
      · rw [if_neg hlt] at eb
        have hcn : cR t s k N (bx LU LL HU HL) a = cR t s k N (bx LU LL HU HL) (a - 1) ∧ cD t s k N (bx LU LL HU HL) a = 1 + cD t s k N (bx LU LL HU HL) (a - 1) := by
          obtain ⟨c, rfl⟩ : ∃ c, a = c + 1 := ⟨a - 1, by omega⟩
          rw [Nat.add_sub_cancel] at hlt ⊢
          simp only [cR, cD]
          rw [cands_nil (by omega)]
          refine ⟨rfl, ?_⟩
          simp only [List.map_nil, List.sum_nil, Nat.zero_add]
        obtain ⟨cg1, -⟩ := cR_congr (t := t) (s := s) (k := k) (N := zup N (a : Int) (N a + 1)) (N2 := N) (B := bx LU LL HU HL) (B2 := bx LU LL HU HL) (a - 1) (fun i hi => zup_n (by omega)) (fun i hi => rfl)
        have cg2 := cD_congr (t := t) (s := s) (k := k) (N := zup N (a : Int) (N a + 1)) (N2 := N) (B := bx LU LL HU HL) (B2 := bx LU LL HU HL) (a - 1) (fun i hi => zup_n (by omega)) (fun i hi => rfl)
        refine Or.inr ⟨(((k - 1 : Nat) : Int), (a : Int) - 1, S, zup N (a : Int) (N a + 1), LU, LL, HU, HL), ?_, ⟨rfl, rfl, a - 1, by show (a : Int) - 1 = ((a - 1 : Nat) : Int); omega, by omega, ⟨fun i hia => ?_, fun h0 => ?_⟩, ?_⟩, ?_⟩
        · simp (disch := omega) only [st_X7_goesOn, gd_t, if_true, if_pos, if_neg, Int.toNat_natCast, eb, Option.bind_some]
        · show tI t s lo hi (pre (zup N (a : Int) (N a + 1)) (i + 1)) (bx LU LL HU HL i)
          rw [pre_congr (N2 := N) (i + 1) (fun j hj => zup_n (by omega))]
          exact g3.1 i (by omega)
        · show zup N (a : Int) (N a + 1) (a - 1 - 1) ≤ zup N (a : Int) (N a + 1) (a - 1) ∧ zup N (a : Int) (N a + 1) (a - 1) ≤ 320
          have hp := hI.2.2.1 (a - 1 - 1) (by rw [pre_len]; omega)
          rw [pre_nth N a _ (by omega), pre_nth N a _ (by omega), show a - 1 - 1 + 1 = a - 1 by omega] at hp
          rw [en1, zup_n (by omega)]
          omega
        · show cR t s k (zup N (a : Int) (N a + 1)) (bx LU LL HU HL) (a - 1) = L0
          rw [cg1, ← hcn.1]
          exact g5
        · show cD t s k (zup N (a : Int) (N a + 1)) (bx LU LL HU HL) ((a : Int) - 1).toNat < cD t s k N (bx LU LL HU HL) (a : Int).toNat
          rw [show ((a : Int) - 1).toNat = a - 1 by omega, Int.toNat_natCast, cg2, hcn.2]
          omega) (((k - 1 : Nat) : Int), (a : Int), R, nN, nLU, nLL, nHU, nHL) ⟨rfl, rfl, a, rfl, ha, hv, hR⟩
def mIt (k : Nat) (t : Nat → Int) (s lo hi : Int) (lev : Int) (R N LU LL HU HL : Nat → Int) (L : List (List Int × zB)) : Prop :=
  (R 0 = 0 ∧ 0 ≤ lev ∧ lev ≤ 7 ∧ L = []) ∨ (mRow k t s R ∧ R 0 = (k : Int) ∧ ((lev = 0 ∧ 0 < k ∧ N 0 = 0 ∧ bx LU LL HU HL 0 = (lo, 1, hi, 1) ∧ L = tE t s (k - 1) [0] (lo, 1, hi, 1)) ∨ (lev = 1 ∧ k = 1 ∧ L = []) ∨ (lev = ((k - 1 : Nat) : Int) ∧ 2 ≤ k ∧ mV t s lo hi N (bx LU LL HU HL) (k - 1) ∧ cR t s k N (bx LU LL HU HL) (k - 1) = L)))
def mNx (k : Nat) (t : Nat → Int) (s lo hi : Int) (L : List (List Int × zB)) (r : Int × Int × (Nat → Int) × (Nat → Int) × (Nat → Int) × (Nat → Int) × (Nat → Int) × (Nat → Int)) : Prop :=
  (r.1 = 0 ∧ L = [] ∧ mIt k t s lo hi r.2.1 r.2.2.1 r.2.2.2.1 r.2.2.2.2.1 r.2.2.2.2.2.1 r.2.2.2.2.2.2.1 r.2.2.2.2.2.2.2 []) ∨ (r.1 = 1 ∧ ∃ z rest, L = z :: rest ∧ pre r.2.2.2.1 k = z.1 ∧ bx r.2.2.2.2.1 r.2.2.2.2.2.1 r.2.2.2.2.2.2.1 r.2.2.2.2.2.2.2 (k - 1) = z.2 ∧ mIt k t s lo hi r.2.1 r.2.2.1 r.2.2.2.1 r.2.2.2.2.1 r.2.2.2.2.2.1 r.2.2.2.2.2.2.1 r.2.2.2.2.2.2.2 rest)
theorem e_goesOn {k : Nat} {t R N LU LL HU HL : Nat → Int} {s lo hi lev : Int} {L : List (List Int × zB)} (C : zCt k t s lo hi) (h : mIt k t s lo hi lev R N LU LL HU HL L) : ∃ r, f_X7_goesOn lev R N LU LL HU HL = some r ∧ mNx k t s lo hi L r := by
  have hk7 : k ≤ 7 := C.1
  rcases h with ⟨h0, h1, h2, rfl⟩ | ⟨hRow, hR0, h⟩
  · exact ⟨(0, 1, R, N, LU, LL, HU, HL), by simp (disch := omega) only [f_X7_goesOn, gd_t, zlt_t, if_pos, if_neg], Or.inl ⟨rfl, rfl, Or.inl ⟨h0, by show (0 : Int) ≤ 1; omega, by show (1 : Int) ≤ 7; omega, rfl⟩⟩⟩
  · have aux : ∀ (a : Nat) (N1 : Nat → Int), 2 ≤ k → a < k → mV t s lo hi N1 (bx LU LL HU HL) a → cR t s k N1 (bx LU LL HU HL) a = L → ∃ r, zev st_X7_goesOn (R 0 - 1, (a : Int), R, N1, LU, LL, HU, HL) = some r ∧ mNx k t s lo hi L r := by
      intro a N1 h2k ha hv hR
      obtain ⟨⟨r0, l2, R2, N2, LU2, LL2, HU2, HL2⟩, e, ho⟩ := e_goLoop C hRow h2k ha hv hR
      rw [show ((k - 1 : Nat) : Int) = R 0 - 1 by omega] at e
      refine ⟨_, e, ?_⟩
      rcases ho with ⟨q1, q2, q3, q4⟩ | ⟨q1, q2, q3, z, rest, p1, p2, p3, p4, p5⟩
      · dsimp only at q2 q3
        subst q2 q3
        exact Or.inl ⟨q1, q4, Or.inl ⟨rfl, by show (0 : Int) ≤ 0; omega, by show (0 : Int) ≤ 7; omega, rfl⟩⟩
      · dsimp only at q2 q3
        subst q2 q3
        exact Or.inr ⟨q1, z, rest, p1, p2, p3, Or.inr ⟨hRow, hR0, Or.inr (Or.inr ⟨rfl, h2k, p4, p5⟩)⟩⟩
    rcases h with ⟨rfl, hk, hN0, hB0, rfl⟩ | ⟨rfl, rfl, rfl⟩ | ⟨rfl, h2k, hv, hR⟩
    · by_cases h1 : k = 1
      · subst h1
        refine ⟨(1, 1, R, N, LU, LL, HU, HL), by simp (disch := omega) only [f_X7_goesOn, gd_t, zlt_t, if_true, if_pos], Or.inr ⟨rfl, ([0], (lo, 1, hi, 1)), [], rfl, ?_, hB0, Or.inr ⟨hRow, hR0, Or.inr (Or.inl ⟨rfl, rfl, rfl⟩)⟩⟩⟩
        show [] ++ [N 0] = [0]
        rw [hN0]
        rfl
      · have ep1 : pre (zup N 1 0) 1 = [0] := by
          show [] ++ [zup N 1 0 0] = [0]
          rw [zup_n (by decide), hN0]
          rfl
        have ew : zup N 1 0 1 = 0 := zup_s (by decide)
        obtain ⟨r, e, hn⟩ := aux 1 (zup N 1 0) (by omega) (by omega) ⟨fun i hi => by
          have : i = 0 := by omega
          subst this
          rw [show 0 + 1 = 1 by rfl, ep1, hB0]
          exact tI_root C, fun _ => by
          show zup N 1 0 0 ≤ zup N 1 0 1 ∧ zup N 1 0 1 ≤ 320
          rw [ew, zup_n (by decide), hN0]
          omega⟩ (by
          show (cands (bG (bx LU LL HU HL 0) (t 1 - t 0) s - zup N 1 0 1).toNat (zup N 1 0 1)).flatMap (tF t s (k - 2) (pre (zup N 1 0) 1) (bx LU LL HU HL 0)) ++ [] = _
          rw [ew, ep1, List.append_nil, hB0, show k - 1 = k - 2 + 1 by omega]
          rfl)
        refine ⟨r, ?_, hn⟩
        have e : zev st_X7_goesOn (R 0 - 1, 1, R, zup N 1 0, LU, LL, HU, HL) = some r := e
        simp (disch := omega) only [f_X7_goesOn, gd_t, zlt_t, if_true, if_pos, if_neg, e]
    · exact ⟨(0, 1, R, N, LU, LL, HU, HL), by simp (disch := omega) only [f_X7_goesOn, gd_t, zlt_t, if_pos, if_neg], Or.inl ⟨rfl, rfl, Or.inr ⟨hRow, hR0, Or.inr (Or.inl ⟨rfl, rfl, rfl⟩)⟩⟩⟩
    · obtain ⟨r, e, hn⟩ := aux (k - 1) N h2k (by omega) hv hR
      refine ⟨r, ?_, hn⟩
      simp (disch := omega) only [f_X7_goesOn, gd_t, zlt_t, if_neg, e]
