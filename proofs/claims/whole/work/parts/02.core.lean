/-! ===== a small machine over the cells of this system: values, layout, memory ===== -/
abbrev MV : Type := Int32 ⊕ (Int64 ⊕ ((Nat × Nat × Nat) ⊕ Unit))
abbrev mI (x : Int32) : MV := .inl x
abbrev mJ (x : Int64) : MV := .inr (.inl x)
abbrev mR (k t c : Nat) : MV := .inr (.inr (.inl (k, t, c)))
abbrev mO (t c : Nat) : MV := mR 0 t c
abbrev mA (n c : Nat) : MV := mR 1 n c
abbrev mZ (n c : Nat) : MV := mR 2 n c
abbrev mQ : MV := mR 3 0 0
abbrev mU : MV := .inr (.inr (.inr ()))
abbrev Mm : Type := Nat → Nat → Int32
def mS (μ : Mm) (c k : Nat) (x : Int32) : Mm := fun c' k' => if c' = c ∧ k' = k then x else μ c' k'
abbrev Sp : Type := List MV → Mm → (MV → Mm → Prop) → Prop
/-- the cells: (class, 0) an object, (20, n) a row of n ints, (21, n) of n booleans -/
def lyS : List (Nat × Nat) := [(7, 0), (20, 6), (20, 48), (20, 6), (20, 6), (20, 8), (6, 0), (20, 6), (20, 6), (20, 6)]
def lyL : List (Nat × Nat) := [(8, 0), (3, 0), (20, 48)] ++ lyS ++ lyS ++ [(2, 0)] ++ lyS ++ [(2, 0)] ++ lyS ++ [(4, 0), (20, 6), (5, 0), (20, 2048), (20, 8), (1, 0), (20, 100), (20, 100), (0, 0), (20, 8)] ++ [(9, 0), (20, 48), (20, 6), (20, 6), (20, 6), (20, 8), (20, 18), (20, 48), (20, 8), (20, 8), (20, 8), (20, 8), (20, 8), (20, 200), (20, 8), (20, 200), (21, 2)]
/-- the fields of a class: (0, ..) int, (1, ..) boolean, (2, off, t) an object of class t at the cell's number and off, (3, off, n) a row of ints, (4, off, n) of booleans -/
def foL : List (List (Nat × Nat × Nat)) := [
  [(3, 1, 8)],
  [(0, 0, 0), (0, 0, 0), (0, 0, 0), (0, 0, 0), (3, 1, 100), (3, 2, 100)],
  [(2, 1, 7), (1, 0, 0)],
  [(3, 1, 48), (0, 0, 0)],
  [(3, 1, 6)],
  [(3, 1, 2048), (3, 2, 8)],
  [(0, 0, 0), (3, 1, 6), (3, 2, 6), (3, 3, 6)],
  [(0, 0, 0), (0, 0, 0), (0, 0, 0), (0, 0, 0), (0, 0, 0), (0, 0, 0), (3, 1, 6), (3, 2, 48), (3, 3, 6), (3, 4, 6), (3, 5, 8), (2, 6, 6)],
  [(2, 1, 3), (2, 3, 7), (2, 13, 7), (2, 23, 2), (2, 34, 2), (2, 45, 4), (2, 47, 5), (2, 50, 1), (2, 53, 0)],
  [(0, 0, 0), (0, 0, 0), (0, 0, 0), (0, 0, 0), (0, 0, 0), (0, 0, 0), (3, 1, 48), (3, 2, 6), (3, 3, 6), (3, 4, 6), (3, 5, 8), (0, 0, 0), (3, 6, 18), (0, 0, 0), (3, 7, 48), (0, 0, 0), (3, 8, 8), (3, 9, 8), (3, 10, 8), (3, 11, 8), (3, 12, 8), (0, 0, 0), (0, 0, 0), (3, 13, 200), (3, 14, 8), (3, 15, 200), (4, 16, 2)]]
def fo (t k : Nat) : Nat × Nat × Nat := (foL.getD t []).getD k (9, 0, 0)
def mF (μ : Mm) (c k : Nat) (f : Nat × Nat × Nat) : MV := match f with
  | (0, _, _) => mI (μ c k)
  | (1, _, _) => mI (μ c k)
  | (2, off, t) => mO t (c + off)
  | (3, off, n) => mA n (c + off)
  | (_, off, n) => mZ n (c + off)
def tv (ad : Nat → Nat) (b : Nat) (v : MV) : Value := match v with
  | .inl x => .int x
  | .inr (.inl x) => .long x
  | .inr (.inr (.inl (k, _, c))) => if k = 3 then .ref b else .ref (ad c)
  | .inr (.inr (.inr _)) => .null
def wtv (sc : Bool) (v : MV) : Prop := match v with
  | .inl _ => True
  | .inr (.inl _) => True
  | .inr (.inr (.inl (k, t, c))) => if k = 3 then sc = true else if k = 0 then lyL[c]? = some (t, 0) ∧ t < 10 else if k = 1 then lyL[c]? = some (20, t) else k = 2 ∧ lyL[c]? = some (21, t)
  | .inr (.inr (.inr _)) => True
def cE (ad : Nat → Nat) (cI cB : Nat) (μ : Mm) (c : Nat) (q : Nat × Nat) : va_E :=
  if q.1 = 20 then .inl (cI, q.2, .inl (μ c)) else if q.1 = 21 then .inl (cB, q.2, .inl (μ c)) else .inr (q.1, (foL.getD q.1 []).mapIdx (fun k f => tv ad 0 (mF μ c k f)))
def wl (ad : Nat → Nat) (cI cB : Nat) (μ : Mm) : va_W := lyL.mapIdx (fun c q => (ad c, cE ad cI cB μ c q))
abbrev ty2 (cI cB : Nat) : List (ClassId × FieldType) := [(cI, .int), (cB, .boolean)]
def vI (v : MV) : Int32 := match v with
  | .inl x => x
  | _ => 0
def vJ (v : MV) : Int64 := match v with
  | .inr (.inl x) => x
  | _ => 0
def vC (v : MV) : Nat := match v with
  | .inr (.inr (.inl q)) => q.2.2
  | _ => 0
def zb (x : Int32) : Prop := x = 0 ∨ x = 1
def vi (i : Int32) (n : Nat) : Prop := 0 ≤ i.toInt ∧ i.toInt < n
def ctS : List MV → Nat
  | [] => 0
  | .inr (.inl _) :: S => 2 + ctS S
  | _ :: S => 1 + ctS S
/-- an instruction: what it is, a number, a long, three numbers (an index, a place or target ..), a table of targets -/
abbrev Ao : Type := Nat × Int32 × Int64 × Nat × Nat × Nat × List (Int32 × Nat)
/-- a call: how many values it takes, what it answers (0 nothing, 1 int, 2 long, 3 an object of the class behind), the receiver's class and 1 (0: static), what it does -/
abbrev Ce : Type := Nat × Nat × Nat × Nat × Sp
/-- a method: code, calls, what it answers (4: a boolean), of which class, has it longs; a script -/
abbrev Ev : Type := List (Nat × Ao) × List (Nat × Ce) × Nat × Nat × Bool × Nat × (Nat → Int32)
def lk {α : Type} : List (Nat × α) → Nat → Option α
  | [], _ => none
  | q :: r, k => bif Nat.beq q.1 k then some q.2 else lk r k
def clr (L : List MV) (a : Nat) : List MV := match a with
  | 0 => L
  | a' + 1 => match L[a']? with
    | some (.inr (.inl _)) => L.set a' mU
    | _ => L
def sto (lg : Bool) (L : List MV) (a : Nat) (v : MV) : List MV := bif lg then (clr L a).set a v else L.set a v
def bop (tag : Nat) (x y : Int32) : Int32 := match tag with
  | 19 => x + y
  | 20 => x - y
  | 21 => x * y
  | 25 => x &&& y
  | 26 => x ||| y
  | 27 => x ^^^ y
  | 28 => x <<< (y &&& 31)
  | 29 => x >>> (y &&& 31)
  | _ => (x.toUInt32 >>> (y.toUInt32 &&& Int32.toUInt32 31)).toInt32
def swt (J : List (Int32 × Nat)) (d : Nat) (x : Int32) (P : Nat → Prop) : Prop := match J with
  | [] => P d
  | q :: r => if x = q.1 then P q.2 else swt r d x P
def rck (rc : Nat) (As : List MV) : Bool := match rc with
  | 0 => true
  | t + 1 => match As with
    | .inr (.inr (.inl (0, t', _))) :: _ => Nat.beq t' t
    | _ => false
def cll (ce : Option Ce) (S : List MV) (μ : Mm) (k : List MV → Mm → Prop) : Prop := match ce with
  | some (n, kind, rt, rc, sp) => bif Nat.ble n S.length && (Nat.ble (ctS (S.drop n)) 8 && rck rc (S.take n).reverse) then sp (S.take n).reverse μ (fun v μ1 => match kind with
    | 0 => k (S.drop n) μ1
    | 1 => k (mI (vI v) :: S.drop n) μ1
    | 2 => k (mJ (vJ v) :: S.drop n) μ1
    | _ => k (mO rt (vC v) :: S.drop n) μ1) else False
  | none => False
section STP
variable (E : Ev) (K : MV → Mm → Prop) (P : Nat → List MV → List MV → Mm → Prop)
/-- what an instruction asks, so that P holds behind it -/
def opx (pc : Nat) (L S : List MV) (μ : Mm) (o : Ao) : Prop := match o with
  | (tag, v, w, a, b, _, J) => match tag with
    | 0 => P (pc + 1) L (mI v :: S) μ
    | 1 => P (pc + 2) L (mI v :: S) μ
    | 2 => P (pc + 3) L (mI v :: S) μ
    | 3 => P (pc + 2) L (mI v :: S) μ
    | 4 => P (pc + 3) L (mI v :: S) μ
    | 5 => P (pc + 1) L (mJ w :: S) μ
    | 6 => P (pc + 3) L (mJ w :: S) μ
    | 7 => match L[a]? with
      | some (.inl x) => P (pc + 1) L (mI x :: S) μ
      | _ => False
    | 8 => match L[a]? with
      | some (.inl x) => P (pc + 2) L (mI x :: S) μ
      | _ => False
    | 9 => match L[a]? with
      | some (.inr (.inr (.inl r))) => P (pc + 1) L (.inr (.inr (.inl r)) :: S) μ
      | _ => False
    | 10 => match L[a]? with
      | some (.inr (.inr (.inl r))) => P (pc + 2) L (.inr (.inr (.inl r)) :: S) μ
      | _ => False
    | 11 => match L[a]? with
      | some (.inr (.inl x)) => P (pc + 1) L (mJ x :: S) μ
      | _ => False
    | 12 => match L[a]? with
      | some (.inr (.inl x)) => P (pc + 2) L (mJ x :: S) μ
      | _ => False
    | 13 => match S with
      | .inl x :: S => P (pc + 1) (sto E.2.2.2.2.1 L a (mI x)) S μ
      | _ => False
    | 14 => match S with
      | .inl x :: S => P (pc + 2) (sto E.2.2.2.2.1 L a (mI x)) S μ
      | _ => False
    | 15 => match S with
      | .inr (.inr (.inl r)) :: S => P (pc + 1) (sto E.2.2.2.2.1 L a (.inr (.inr (.inl r)))) S μ
      | _ => False
    | 16 => match S with
      | .inr (.inr (.inl r)) :: S => P (pc + 2) (sto E.2.2.2.2.1 L a (.inr (.inr (.inl r)))) S μ
      | _ => False
    | 17 => match S with
      | .inr (.inl x) :: S => bif E.2.2.2.2.1 then P (pc + 1) ((sto true L a (mJ x)).set (a + 1) mU) S μ else False
      | _ => False
    | 18 => match S with
      | .inr (.inl x) :: S => bif E.2.2.2.2.1 then P (pc + 2) ((sto true L a (mJ x)).set (a + 1) mU) S μ else False
      | _ => False
    | 22 => match S with
      | .inl y :: .inl x :: S => ¬ y = 0 ∧ P (pc + 1) L (mI (x / y) :: S) μ
      | _ => False
    | 23 => match S with
      | .inl y :: .inl x :: S => ¬ y = 0 ∧ P (pc + 1) L (mI (x - x / y * y) :: S) μ
      | _ => False
    | 24 => match S with
      | .inl x :: S => P (pc + 1) L (mI (-x) :: S) μ
      | _ => False
    | 31 => match S with
      | .inr (.inl y) :: .inr (.inl x) :: S => P (pc + 1) L (mJ (x + y) :: S) μ
      | _ => False
    | 32 => match S with
      | .inr (.inl y) :: .inr (.inl x) :: S => P (pc + 1) L (mJ (x * y) :: S) μ
      | _ => False
    | 33 => match S with
      | .inr (.inl y) :: .inr (.inl x) :: S => ¬ y = 0 ∧ P (pc + 1) L (mJ (x / y) :: S) μ
      | _ => False
    | 34 => match S with
      | .inr (.inl y) :: .inr (.inl x) :: S => ¬ y = 0 ∧ P (pc + 1) L (mJ (x - x / y * y) :: S) μ
      | _ => False
    | 35 => match S with
      | .inr (.inl y) :: .inr (.inl x) :: S => P (pc + 1) L (mI (lg_cmp x y) :: S) μ
      | _ => False
    | 36 => match S with
      | .inl x :: S => P (pc + 1) L (mJ x.toInt64 :: S) μ
      | _ => False
    | 37 => match S with
      | .inl x :: S => P (pc + 1) L (.inl x :: .inl x :: S) μ
      | .inr (.inr (.inl r)) :: S => P (pc + 1) L (.inr (.inr (.inl r)) :: .inr (.inr (.inl r)) :: S) μ
      | _ => False
    | 38 => match S with
      | .inl x :: .inr (.inr (.inl r)) :: S => P (pc + 1) L (.inl x :: .inr (.inr (.inl r)) :: .inl x :: .inr (.inr (.inl r)) :: S) μ
      | _ => False
    | 39 => match L[a]? with
      | some (.inl x) => P (pc + 3) (sto E.2.2.2.2.1 L a (mI (x + v))) S μ
      | _ => False
    | 40 => P a L S μ
    | 41 => match S with
      | .inl x :: S => if x = 0 then P a L S μ else P (pc + 3) L S μ
      | _ => False
    | 42 => match S with
      | .inl x :: S => if x = 0 then P (pc + 3) L S μ else P a L S μ
      | _ => False
    | 43 => match S with
      | .inl x :: S => if x < 0 then P a L S μ else P (pc + 3) L S μ
      | _ => False
    | 44 => match S with
      | .inl x :: S => if 0 ≤ x then P a L S μ else P (pc + 3) L S μ
      | _ => False
    | 45 => match S with
      | .inl x :: S => if 0 < x then P a L S μ else P (pc + 3) L S μ
      | _ => False
    | 46 => match S with
      | .inl x :: S => if x ≤ 0 then P a L S μ else P (pc + 3) L S μ
      | _ => False
    | 47 => match S with
      | .inl y :: .inl x :: S => if x = y then P a L S μ else P (pc + 3) L S μ
      | _ => False
    | 48 => match S with
      | .inl y :: .inl x :: S => if x = y then P (pc + 3) L S μ else P a L S μ
      | _ => False
    | 49 => match S with
      | .inl y :: .inl x :: S => if x < y then P a L S μ else P (pc + 3) L S μ
      | _ => False
    | 50 => match S with
      | .inl y :: .inl x :: S => if y ≤ x then P a L S μ else P (pc + 3) L S μ
      | _ => False
    | 51 => match S with
      | .inl y :: .inl x :: S => if y < x then P a L S μ else P (pc + 3) L S μ
      | _ => False
    | 52 => match S with
      | .inl y :: .inl x :: S => if x ≤ y then P a L S μ else P (pc + 3) L S μ
      | _ => False
    | 53 => match S with
      | .inr (.inr (.inl _)) :: S => P (pc + 3) L S μ
      | _ => False
    | 54 => match S with
      | .inr (.inr (.inl _)) :: S => P a L S μ
      | _ => False
    | 55 => match S with
      | .inr (.inr (.inl (0, t, c))) :: S => bif Nat.beq t (b / 32) then P (pc + 3) L (mF μ c (b % 32) (fo (b / 32) (b % 32)) :: S) μ else False
      | _ => False
    | 56 => match S with
      | .inl x :: .inr (.inr (.inl (0, t, c))) :: S => bif Nat.beq t (b / 32) then (match fo (b / 32) (b % 32) with
        | (0, _, _) => P (pc + 3) L S (mS μ c (b % 32) x)
        | (1, _, _) => zb x ∧ P (pc + 3) L S (mS μ c (b % 32) x)
        | _ => False) else False
      | _ => False
    | 57 => match S with
      | .inl i :: .inr (.inr (.inl (1, n, c))) :: S => vi i n ∧ P (pc + 1) L (mI (μ c i.toNatClampNeg) :: S) μ
      | .inl i :: .inr (.inr (.inl (3, _, _))) :: S => vi i E.2.2.2.2.2.1 ∧ P (pc + 1) L (mI (E.2.2.2.2.2.2 i.toNatClampNeg) :: S) μ
      | _ => False
    | 58 => match S with
      | .inl x :: .inl i :: .inr (.inr (.inl (1, n, c))) :: S => vi i n ∧ P (pc + 1) L S (mS μ c i.toNatClampNeg x)
      | _ => False
    | 59 => match S with
      | .inl i :: .inr (.inr (.inl (2, n, c))) :: S => vi i n ∧ P (pc + 1) L (mI (μ c i.toNatClampNeg) :: S) μ
      | _ => False
    | 60 => match S with
      | .inl x :: .inl i :: .inr (.inr (.inl (2, n, c))) :: S => (zb x ∧ vi i n) ∧ P (pc + 1) L S (mS μ c i.toNatClampNeg x)
      | _ => False
    | 61 => match S with
      | .inr (.inr (.inl (1, n, _))) :: S => P (pc + 1) L (mI (nI n) :: S) μ
      | .inr (.inr (.inl (3, _, _))) :: S => P (pc + 1) L (mI (nI E.2.2.2.2.2.1) :: S) μ
      | _ => False
    | 62 => cll (lk E.2.1 a) S μ (fun S μ => P (pc + 3) L S μ)
    | 63 => cll (lk E.2.1 a) S μ (fun S μ => P (pc + 3) L S μ)
    | 64 => match S, E.2.2.1 with
      | [.inl x], 1 => K (mI x) μ
      | [.inl x], 4 => zb x ∧ K (mI x) μ
      | _, _ => False
    | 65 => match S, E.2.2.1 with
      | [.inr (.inl x)], 2 => K (mJ x) μ
      | _, _ => False
    | 66 => match S, E.2.2.1 with
      | [], 0 => K mU μ
      | _, _ => False
    | 67 => match S, E.2.2.1 with
      | [.inr (.inr (.inl (0, t, c)))], 3 => bif Nat.beq t E.2.2.2.1 then K (mO t c) μ else False
      | _, _ => False
    | 68 => match S with
      | .inl x :: S => swt J a x (fun t => P t L S μ)
      | _ => False
    | 69 => match S with
      | .inl x :: S => swt J a x (fun t => P t L S μ)
      | _ => False
    | _ => match S with
      | .inl y :: .inl x :: S => P (pc + 1) L (mI (bop tag x y) :: S) μ
      | _ => False
def stp (pc : Nat) (L S : List MV) (μ : Mm) : Prop := match lk E.1 pc with
  | some o => opx E K P pc L S μ o
  | none => False
end STP
/-- from here the method ends with K -/
def Tot (E : Ev) (K : MV → Mm → Prop) (pc : Nat) (L S : List MV) (μ : Mm) : Prop := ∀ P : Nat → List MV → List MV → Mm → Prop, (∀ pc L S μ, stp E K P pc L S μ → P pc L S μ) → P pc L S μ
def ex (E : Ev) (cuts : List Nat) (K : MV → Mm → Prop) (F : Nat → List MV → List MV → Mm → Prop) : Nat → Nat → List MV → List MV → Mm → Prop
  | 0, _, _, _, _ => False
  | n + 1, pc, L, S, μ => stp E K (fun pc L S μ => bif cuts.elem pc then F pc L S μ else ex E cuts K F n pc L S μ) pc L S μ
def mono (sp : Sp) : Prop := ∀ (As : List MV) (μ : Mm) (K K' : MV → Mm → Prop), (∀ v μ, K v μ → K' v μ) → sp As μ K → sp As μ K'
def monoE (E : Ev) : Prop := ∀ a ce, lk E.2.1 a = some ce → mono ce.2.2.2.2
theorem swt_mono {J : List (Int32 × Nat)} {d : Nat} {x : Int32} {P P' : Nat → Prop} (h : ∀ t, P t → P' t) : swt J d x P → swt J d x P' := by
  induction J with
  | nil => exact h d
  | cons q r ih =>
    intro g
    unfold swt at g ⊢
    split
    · rename_i e
      rw [if_pos e] at g
      exact h _ g
    · rename_i e
      rw [if_neg e] at g
      exact ih g
theorem cll_mono {ce : Option Ce} (hm : ∀ c, ce = some c → mono c.2.2.2.2) {S : List MV} {μ : Mm} {k k' : List MV → Mm → Prop} (h : ∀ S μ, k S μ → k' S μ) : cll ce S μ k → cll ce S μ k' := by
  intro g
  match ce, hm, g with
  | some (n, kind, rt, rc, sp), hm, g =>
    unfold cll at g ⊢
    simp only at g ⊢
    cases hb : (Nat.ble n S.length && (Nat.ble (ctS (S.drop n)) 8 && rck rc (S.take n).reverse)) with
    | false => rw [hb] at g; exact g.elim
    | true =>
      rw [hb] at g
      refine hm _ rfl _ _ _ _ ?_ g
      intro v μ1
      split <;> exact h _ _
  | none, _, g => exact g.elim
set_option maxHeartbeats 4000000 in
theorem opx_mono {E : Ev} (hm : monoE E) {K K' : MV → Mm → Prop} {P P' : Nat → List MV → List MV → Mm → Prop} (hK : ∀ v μ, K v μ → K' v μ) (hP : ∀ pc L S μ, P pc L S μ → P' pc L S μ) {pc : Nat} {L S : List MV} {μ : Mm} {o : Ao} : opx E K P pc L S μ o → opx E K' P' pc L S μ o := by
  obtain ⟨tag, v, w, a, b, c, J⟩ := o
  unfold opx
  simp only
  split
  all_goals first
    | exact hP _ _ _ _
    | exact cll_mono (hm a) (fun _ _ => hP _ _ _ _)
    | (split <;> first
        | exact hP _ _ _ _
        | exact hK _ _
        | exact fun g => g.elim
        | exact fun g => ⟨g.1, hP _ _ _ _ g.2⟩
        | exact fun g => ⟨g.1, hK _ _ g.2⟩
        | (split <;> exact hP _ _ _ _)
        | exact swt_mono (fun _ => hP _ _ _ _)
        | (cases (Nat.beq _ _ : Bool) <;> first | exact fun g => g.elim | exact hP _ _ _ _ | exact hK _ _ | (simp only [cond_true]; split <;> first | exact hP _ _ _ _ | exact fun g => ⟨g.1, hP _ _ _ _ g.2⟩ | exact fun g => g.elim))
        | (cases E.2.2.2.2.1 <;> first | exact fun g => g.elim | exact hP _ _ _ _))
theorem stp_mono {E : Ev} (hm : monoE E) {K K' : MV → Mm → Prop} {P P' : Nat → List MV → List MV → Mm → Prop} (hK : ∀ v μ, K v μ → K' v μ) (hP : ∀ pc L S μ, P pc L S μ → P' pc L S μ) {pc : Nat} {L S : List MV} {μ : Mm} : stp E K P pc L S μ → stp E K' P' pc L S μ := by
  unfold stp
  cases lk E.1 pc with
  | none => exact fun g => g
  | some o => exact opx_mono hm hK hP
theorem Tot.step {E : Ev} (hm : monoE E) {K : MV → Mm → Prop} {pc : Nat} {L S : List MV} {μ : Mm} (h : stp E K (Tot E K) pc L S μ) : Tot E K pc L S μ := fun P hP => hP _ _ _ _ (stp_mono hm (fun _ _ g => g) (fun pc L S μ g => g P hP) h)
theorem Tot.mono {E : Ev} (hm : monoE E) {K K' : MV → Mm → Prop} (hK : ∀ v μ, K v μ → K' v μ) {pc : Nat} {L S : List MV} {μ : Mm} (h : Tot E K pc L S μ) : Tot E K' pc L S μ := fun P hP => h P (fun _ _ _ _ g => hP _ _ _ _ (stp_mono hm hK (fun _ _ _ _ q => q) g))
/-- a stretch of code, up to the cuts -/
theorem seg {E : Ev} (hm : monoE E) {K : MV → Mm → Prop} (cuts : List Nat) (n : Nat) {pc : Nat} {L S : List MV} {μ : Mm} (h : ex E cuts K (Tot E K) n pc L S μ) : Tot E K pc L S μ := by
  induction n generalizing pc L S μ with
  | zero => exact h.elim
  | succ n ih =>
    refine Tot.step hm (stp_mono hm (fun _ _ g => g) ?_ h)
    intro pc L S μ g
    cases hc : cuts.elem pc with
    | true => rw [hc] at g; exact g
    | false => rw [hc] at g; exact ih g
def en : List MV → Nat → List MV
  | [], n => List.replicate n mU
  | .inr (.inl x) :: vs, n => mJ x :: mU :: en vs (n - 2)
  | v :: vs, n => v :: en vs (n - 1)
/-- what a method does: run it from its first instruction -/
def spc (E : Ev) (nL : Nat) : Sp := fun As μ K => Tot E K 0 (en As nL) [] μ
theorem spc_mono {E : Ev} (hm : monoE E) (nL : Nat) : mono (spc E nL) := fun _ _ _ _ hK h => Tot.mono hm hK h
