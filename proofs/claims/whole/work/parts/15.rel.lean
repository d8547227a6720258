/-! the relation between the class's state and the reference's -/
def zHear (z lo hi sl : Int) (T : Nat → Int) : Prop := 0 ≤ z ∧ z ≤ 7 ∧ 10 ≤ lo ∧ lo ≤ hi ∧ hi ≤ 999 ∧ 0 ≤ sl ∧ sl ≤ 99 ∧ 4 * sl < lo ∧ (∀ k : Nat, (k : Int) < z → 0 ≤ T k ∧ T k ≤ 2999) ∧ (∀ k : Nat, (k : Int) + 1 < z → T k < T (k + 1))
def zRow (R : Nat → Int) (o : Nat) (z lo hi sl : Int) (T : Nat → Int) : Prop := R o = z ∧ R (o + 1) = lo ∧ R (o + 2) = hi ∧ R (o + 3) = sl ∧ ∀ k : Nat, (k : Int) < z → R (o + 4 + k) = T k
def zBoth (R : Nat → Int) (o : Nat) (z lo hi sl : Int) (T : Nat → Int) : Prop := zHear z lo hi sl T ∧ zRow R o z lo hi sl T
def zRel (az alo ahi asl : Int) (aT : Nat → Int) (pn pz : Int) (pZ pLo pHi pSl : Nat → Int) (pT : Nat → Nat → Int) (jZ jLo jHi jSl : Nat → Int) (jT : Nat → Nat → Int) (kK : Nat → Int) (rn : Int) (rL : Nat → Int) (mmany : Int) (mText mNow mWas : Nat → Int) (macts : Int) (mIsK mKept : Nat → Int) : Prop :=
  zBoth mNow 0 az alo ahi asl aT ∧
  (0 ≤ pn ∧ pn ≤ 9 ∧ 0 ≤ pz ∧ pz ≤ 10 ∧ macts = pz ∧ ∀ i : Nat, (i : Int) < pz → zBoth mWas (11 * i) (pZ ((pn - pz + i) % 10).toNat) (pLo ((pn - pz + i) % 10).toNat) (pHi ((pn - pz + i) % 10).toNat) (pSl ((pn - pz + i) % 10).toNat) (pT ((pn - pz + i) % 10).toNat)) ∧
  (∀ i : Nat, i < 2 → mIsK i = kK i ∧ (kK i = 0 ∨ (kK i = 1 ∧ zBoth mKept (11 * i) (jZ i) (jLo i) (jHi i) (jSl i) (jT i)))) ∧
  (0 ≤ rn ∧ rn ≤ 100 ∧ mmany = rn ∧ ∀ k : Nat, (k : Int) < rn → mText k = rL k ∧ 0 ≤ rL k ∧ rL k ≤ 255)
