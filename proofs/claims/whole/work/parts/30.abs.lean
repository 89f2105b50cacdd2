/-! PURE: the abstract machine. Program rows are the class's own rows 1..51 of a memory Q; frame f's script is row 8 + 4 f -/
abbrev Ms : Type := (Nat → Nat) × (Nat → Int32) × (Nat → List Nat) × (Nat → Nat) × (Nat → Nat) × List Int32
def mSt (S : Ms) : Nat → Nat := S.1
def mS0 (S : Ms) : Nat → Int32 := S.2.1
def mSk (S : Ms) : Nat → List Nat := S.2.2.1
def mPr (S : Ms) : Nat → Nat := S.2.2.2.1
def mFl (S : Ms) : Nat → Nat := S.2.2.2.2.1
def mLg (S : Ms) : List Int32 := S.2.2.2.2.2
def msZ : Ms := (fun _ => 0, fun _ => 0, fun _ => [], fun _ => 0, fun _ => 0, [])
def mTopL (l : List Nat) (t : Nat) : Nat := match l with
  | [] => 8 + t
  | c :: _ => c
def mTop (S : Ms) (t : Nat) : Nat := mTopL (mSk S t) t
def mIncP (S : Ms) (f : Nat) : Ms := (mSt S, mS0 S, mSk S, va_up (mPr S) f (mPr S f + 1), mFl S, mLg S)
def mSetF (S : Ms) (t v : Nat) : Ms := (mSt S, mS0 S, mSk S, mPr S, va_up (mFl S) t v, mLg S)
def mSet0 (S : Ms) (c : Nat) (v : Int32) : Ms := (mSt S, va_up (mS0 S) c v, mSk S, mPr S, mFl S, mLg S)
def mLog (S : Ms) (x : Int32) : Ms := (mSt S, mS0 S, mSk S, mPr S, mFl S, mLg S ++ [x])
def mPop (S : Ms) (t v : Nat) : Ms := match mSk S t with
  | [] => S
  | c :: r => (va_up (mSt S) c v, mS0 S, va_up (mSk S) t r, mPr S, mFl S, mLg S)
def mPush (S : Ms) (t c : Nat) : Ms := (va_up (mSt S) c (4 + t), mS0 S, va_up (mSk S) t (c :: mSk S t), va_up (mPr S) c 0, mFl S, mLg S)
def pgN (Q : cs_Mem) : Nat := (Q 1 6).toNatClampNeg
def pgL (Q : cs_Mem) (f : Nat) : Nat := (Q (8 + 4 * f) 5).toNatClampNeg
def pgU (Q : cs_Mem) (f : Nat) : Nat := (Q (8 + 4 * f) 4).toNatClampNeg
def pgA (Q : cs_Mem) (f p : Nat) : Int32 := Q (8 + 4 * f + 1) p
def pgX (Q : cs_Mem) (f p : Nat) : Int32 := Q (8 + 4 * f + 2) p
def pgY (Q : cs_Mem) (f p : Nat) : Int32 := Q (8 + 4 * f + 3) p
def gdd (Q : cs_Mem) (f p : Nat) : Prop := 0 < p ∧ pgA Q f (p - 1) = 6
def fnum (v : Nat) : Int32 := if 31 ≤ v then nI (v + 69) else if v = 21 then -1 else if v = 22 then -2 else if v < 11 then nI (v - 1) else nI (v - 11)
def fout (v : Nat) : Nat := if 1 ≤ v ∧ v < 11 then 30 + v else v
def mCome (Q : cs_Mem) (S : Ms) (t v : Nat) : Ms :=
  if 0 < mPr S (mTop S t) ∧ pgA Q (mTop S t) (mPr S (mTop S t) - 1) = 6 then mIncP (mLog S (fnum v)) (mTop S t) else mSetF S t v
def mMade (Q : cs_Mem) (S : Ms) (t : Nat) : Ms :=
  if mPr S (mTop S t) < pgL Q (mTop S t) ∧ pgA Q (mTop S t) (mPr S (mTop S t)) = 2 then
    mIncP (mSet0 S (mTop S t) (if pgX Q (mTop S t) (mPr S (mTop S t)) = 0 then mS0 S (pgY Q (mTop S t) (mPr S (mTop S t))).toNatClampNeg else Q 4 (pgY Q (mTop S t) (mPr S (mTop S t))).toNatClampNeg)) (mTop S t)
  else mIncP S (mTop S t)
def us (Q : cs_Mem) (f p : Nat) : Option Nat :=
  if p < pgL Q f then
    if pgA Q f p = 0 then some (pgX Q f p).toNatClampNeg
    else if pgA Q f p = 2 then
      if pgX Q f p = 1 ∧ ¬ Q 3 (pgY Q f p).toNatClampNeg = 0 then none else some (pgY Q f p).toNatClampNeg
    else none
  else none
def mUse (Q : cs_Mem) (S : Ms) (t x : Nat) : Ms :=
  if x < pgN Q then
    if mSt S x = 0 then mPush S t x
    else if mSt S x = 2 then mCome Q S t 22
    else mMade Q S t
  else mCome Q S t 21
def mPerf (Q : cs_Mem) (S : Ms) (t : Nat) : Ms :=
  if pgA Q (mTop S t) (mPr S (mTop S t)) = 1 then mIncP (mSet0 S (mTop S t) (pgY Q (mTop S t) (mPr S (mTop S t)))) (mTop S t)
  else if pgA Q (mTop S t) (mPr S (mTop S t)) = 2 then mMade Q S t
  else if pgA Q (mTop S t) (mPr S (mTop S t)) = 3 then mCome Q S t (1 + (pgX Q (mTop S t) (mPr S (mTop S t))).toNatClampNeg)
  else if pgA Q (mTop S t) (mPr S (mTop S t)) = 4 then mCome Q S t (11 + (pgX Q (mTop S t) (mPr S (mTop S t))).toNatClampNeg)
  else if pgA Q (mTop S t) (mPr S (mTop S t)) = 5 then mIncP (mLog S (pgX Q (mTop S t) (mPr S (mTop S t)))) (mTop S t)
  else mIncP S (mTop S t)
def mStep (Q : cs_Mem) (S : Ms) (t : Nat) : Ms :=
  if mFl S t = 0 then
    if pgL Q (mTop S t) ≤ mPr S (mTop S t) then mMade Q (mPop S t 1) t
    else match us Q (mTop S t) (mPr S (mTop S t)) with
      | some x => mUse Q S t x
      | none => mPerf Q S t
  else mCome Q (mPop (mSetF S t 0) t 2) t (fout (mFl S t))
def mEnd (Q : cs_Mem) (S : Ms) (t : Nat) : Bool := match mSk S t with
  | [] => !(mFl S t == 0) || decide (pgL Q (8 + t) ≤ mPr S (8 + t))
  | _ :: _ => false
def mWt (Q : cs_Mem) (S : Ms) (t : Nat) : Option Nat :=
  if mFl S t = 0 then
    match us Q (mTop S t) (mPr S (mTop S t)) with
    | some x => if 4 ≤ mSt S x ∧ ¬ mSt S x = 4 + t then some x else none
    | none => none
  else none
def uI (o : Option Nat) : Int32 := match o with
  | some x => nI x
  | none => -1
def mAb (Q : cs_Mem) (S : Ms) (t : Nat) : Bool := !(mEnd Q S t) && (mWt Q S t).isNone
def mNx (Q : cs_Mem) (S : Ms) (g : Nat) : Nat :=
  if g ≤ 0 ∧ mAb Q S 0 = true then 0 else if g ≤ 1 ∧ mAb Q S 1 = true then 1 else if g ≤ 2 ∧ mAb Q S 2 = true then 2 else 3
/-- the program's rows are sound: what every call leaves behind -/
def WPf (Q : cs_Mem) (f : Nat) : Prop :=
  (∃ L U, Q (8 + 4 * f) 5 = nI L ∧ Q (8 + 4 * f) 4 = nI U ∧ U ≤ L ∧ U ≤ 3 ∧ L ≤ U + (if f < 8 then 5 else 3) ∧ L ≤ (if f < 8 then 8 else 3)) ∧
  Q (8 + 4 * f) 0 = nI (if f < 8 then 5 else 3) ∧
  ∀ p, p < pgL Q f → ∃ a, pgA Q f p = nI a ∧ a ≤ 6 ∧ (a = 0 → ∃ x, x < 8 ∧ pgX Q f p = nI x) ∧ (a = 2 → (pgX Q f p = 0 ∨ pgX Q f p = 1) ∧ ∃ y, y < 8 ∧ pgY Q f p = nI y) ∧ (a = 3 ∨ a = 4 → ∃ x, x < 10 ∧ pgX Q f p = nI x) ∧ (p < pgU Q f → a = 0) ∧ (8 ≤ f → a = 0 ∨ a = 5 ∨ a = 6)
def WP (Q : cs_Mem) : Prop := (∃ n, n ≤ 8 ∧ Q 1 6 = nI n) ∧ (∀ c, c < 8 → Q 3 c = 0 ∨ Q 3 c = 1) ∧ (∀ c, c < 8 → Q 2 c = 0 ∨ Q 2 c = 1) ∧ ∀ f, f < 11 → WPf Q f
/-- the class's machine: its row of cells -/
def EncC (S : Ms) (k : Nat) (r : Nat → Int32) : Prop :=
  (∀ c, c < 8 → r c = nI (mSt S c)) ∧ (∀ c, c < 8 → r (8 + c) = mS0 S c) ∧ (∀ f, f < 11 → r (24 + f) = nI (mPr S f)) ∧ (∀ t, t < 3 → r (35 + t) = nI (mTop S t)) ∧ (∀ t, t < 3 → r (38 + t) = nI (mFl S t)) ∧
  (∀ t, t < 3 → ∀ c l1 l2, c < 8 → mSk S t = l1 ++ c :: l2 → r (16 + c) = nI (mTopL l2 t)) ∧ r 41 = nI k ∧ r 42 = nI (mLg S).length
/-- what holds of every state that is reached -/
def InvS (Q : cs_Mem) (S : Ms) : Prop :=
  (∀ c, c < 8 → mSt S c = 0 ∨ mSt S c = 1 ∨ mSt S c = 2 ∨ mSt S c = 4 ∨ mSt S c = 5 ∨ mSt S c = 6) ∧
  (∀ t, t < 3 → (mSk S t).Nodup ∧ (∀ c, c ∈ mSk S t → c < 8 ∧ c < pgN Q)) ∧
  (∀ t c, t < 3 → c < 8 → (mSt S c = 4 + t ↔ c ∈ mSk S t)) ∧
  (∀ f, f < 11 → mPr S f ≤ pgL Q f) ∧
  (∀ t, t < 3 → ∀ c l1 l2, mSk S t = l1 ++ c :: l2 → mPr S (mTopL l2 t) < pgL Q (mTopL l2 t)) ∧
  (∀ t, t < 3 → mFl S t ≤ 40 ∧ (¬ mFl S t = 0 → mPr S (mTop S t) < pgL Q (mTop S t))) ∧
  (∀ c, c < 8 → mSt S c = 0 → mPr S c = 0)
