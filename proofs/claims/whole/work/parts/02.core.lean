/-! ===== a small machine over the cells of this system: values, layout, memory ===== -/
abbrev MV : Type := Int32 ⊕ (Int64 ⊕ ((Nat × Nat × Nat) ⊕ Unit))
abbrev mI (x : Int32) : MV := .inl x
abbrev mJ (x : Int64) : MV := .inr (.inl x)
abbrev mR (k t c : Nat) : MV := .inr (.inr (.inl (k, t, c)))
abbrev mO (t c : Nat) : MV := mR 0 t c
abbrev mA (n c : Nat) : MV := mR 1 n c
abbrev mZ (n c : Nat) : MV := mR 2 n c
abbrev mQ : MV := mR 3 0 0
abbrev mU : MV := .inr (.inr (.inr ()))
abbrev Mm : Type := Nat → Nat → Int32
def mS (μ : Mm) (c k : Nat) (x : Int32) : Mm := fun c' k' => if c' = c ∧ k' = k then x else μ c' k'
abbrev Sp : Type := List MV → Mm → (MV → Mm → Prop) → Prop
/-- the cells: (class, 0) an object, (20, n) a row of n ints, (21, n) of n booleans -/
def lyS : List (Nat × Nat) := [(7, 0), (20, 6), (20, 48), (20, 6), (20, 6), (20, 8), (6, 0), (20, 6), (20, 6), (20, 6)]
def lyL : List (Nat × Nat) := [(8, 0), (3, 0), (20, 48)] ++ lyS ++ lyS ++ [(2, 0)] ++ lyS ++ [(2, 0)] ++ lyS ++ [(4, 0), (20, 6), (5, 0), (20, 2048), (20, 8), (1, 0), (20, 100), (20, 100), (0, 0), (20, 8)] ++ [(9, 0), (20, 48), (20, 6), (20, 6), (20, 6), (20, 8), (20, 18), (20, 48), (20, 8), (20, 8), (20, 8), (20, 8), (20, 8), (20, 200), (20, 8), (20, 200), (21, 2)]
/-- the fields of a class: (0, ..) int, (1, ..) boolean, (2, off, t) an object of class t at the cell's number and off, (3, off, n) a row of ints, (4, off, n) of booleans -/
def foL : List (List (Nat × Nat × Nat)) := [
  [(3, 1, 8)],
  [(0, 0, 0), (0, 0, 0), (0, 0, 0), (0, 0, 0), (3, 1, 100), (3, 2, 100)],
  [(2, 1, 7), (1, 0, 0)],
  [(3, 1, 48), (0, 0, 0)],
  [(3, 1, 6)],
  [(3, 1, 2048), (3, 2, 8)],
  [(0, 0, 0), (3, 1, 6), (3, 2, 6), (3, 3, 6)],
  [(0, 0, 0), (0, 0, 0), (0, 0, 0), (0, 0, 0), (0, 0, 0), (0, 0, 0), (3, 1, 6), (3, 2, 48), (3, 3, 6), (3, 4, 6), (3, 5, 8), (2, 6, 6)],
  [(2, 1, 3), (2, 3, 7), (2, 13, 7), (2, 23, 2), (2, 34, 2), (2, 45, 4), (2, 47, 5), (2, 50, 1), (2, 53, 0)],
  [(0, 0, 0), (0, 0, 0), (0, 0, 0), (0, 0, 0), (0, 0, 0), (0, 0, 0), (3, 1, 48), (3, 2, 6), (3, 3, 6), (3, 4, 6), (3, 5, 8), (0, 0, 0), (3, 6, 18), (0, 0, 0), (3, 7, 48), (0, 0, 0), (3, 8, 8), (3, 9, 8), (3, 10, 8), (3, 11, 8), (3, 12, 8), (0, 0, 0), (0, 0, 0), (3, 13, 200), (3, 14, 8), (3, 15, 200), (4, 16, 2)]]
def fo (t k : Nat) : Nat × Nat × Nat := (foL.getD t []).getD k (9, 0, 0)
def mF (μ : Mm) (c k : Nat) (f : Nat × Nat × Nat) : MV := match f with
  | (0, _, _) => mI (μ c k)
  | (1, _, _) => mI (μ c k)
  | (2, off, t) => mO t (c + off)
  | (3, off, n) => mA n (c + off)
  | (_, off, n) => mZ n (c + off)
def tv (ad : Nat → Nat) (b : Nat) (v : MV) : Value := match v with
  | .inl x => .int x
  | .inr (.inl x) => .long x
  | .inr (.inr (.inl (k, _, c))) => if k = 3 then .ref b else .ref (ad c)
  | .inr (.inr (.inr _)) => .null
def wtv (sc : Bool) (v : MV) : Prop := match v with
  | .inl _ => True
  | .inr (.inl _) => True
  | .inr (.inr (.inl (k, t, c))) => if k = 3 then sc = true else if k = 0 then lyL[c]? = some (t, 0) ∧ t < 10 else if k = 1 then lyL[c]? = some (20, t) else k = 2 ∧ lyL[c]? = some (21, t)
  | .inr (.inr (.inr _)) => True
def cE (ad : Nat → Nat) (cI cB : Nat) (μ : Mm) (c : Nat) (q : Nat × Nat) : va_E :=
  if q.1 = 20 then .inl (cI, q.2, .inl (μ c)) else if q.1 = 21 then .inl (cB, q.2, .inl (μ c)) else .inr (q.1, (foL.getD q.1 []).mapIdx (fun k f => tv ad 0 (mF μ c k f)))
def wl (ad : Nat → Nat) (cI cB : Nat) (μ : Mm) : va_W := lyL.mapIdx (fun c q => (ad c, cE ad cI cB μ c q))
abbrev ty2 (cI cB : Nat) : List (ClassId × FieldType) := [(cI, .int), (cB, .boolean)]
def vI (v : MV) : Int32 := match v with
  | .inl x => x
  | _ => 0
def vJ (v : MV) : Int64 := match v with
  | .inr (.inl x) => x
  | _ => 0
def vC (v : MV) : Nat := match v with
  | .inr (.inr (.inl q)) => q.2.2
  | _ => 0
def zb (x : Int32) : Prop := x = 0 ∨ x = 1
def vi (i : Int32) (n : Nat) : Prop := 0 ≤ i.toInt ∧ i.toInt < n
def ctS : List MV → Nat
  | [] => 0
  | .inr (.inl _) :: S => 2 + ctS S
  | _ :: S => 1 + ctS S
/-- an instruction: what it is, a number, a long, three numbers (an index, a place or target ..), a table of targets -/
abbrev Ao : Type := Nat × Int32 × Int64 × Nat × Nat × Nat × List (Int32 × Nat)
/-- a call: how many values it takes, what it answers (0 nothing, 1 int, 2 long, 3 an object of the class behind), the receiver's class and 1 (0: static), what it does -/
abbrev Ce : Type := Nat × Nat × Nat × Nat × Sp
/-- a method: code, calls, what it answers (4: a boolean), of which class, has it longs; a script -/
abbrev Ev : Type := List (Nat × Ao) × List (Nat × Ce) × Nat × Nat × Bool × Nat × (Nat → Int32)
def lk {α : Type} : List (Nat × α) → Nat → Option α
  | [], _ => none
  | q :: r, k => bif Nat.beq q.1 k then some q.2 else lk r k
def clr (L : List MV) (a : Nat) : List MV := match a with
  | 0 => L
  | a' + 1 => match L[a']? with
    | some (.inr (.inl _)) => L.set a' mU
    | _ => L
def sto (lg : Bool) (L : List MV) (a : Nat) (v : MV) : List MV := bif lg then (clr L a).set a v else L.set a v
def swt (J : List (Int32 × Nat)) (d : Nat) (x : Int32) (P : Nat → Prop) : Prop := match J with
  | [] => P d
  | q :: r => if x = q.1 then P q.2 else swt r d x P
def rck (rc : Nat) (As : List MV) : Bool := match rc with
  | 0 => true
  | t + 1 => match As with
    | .inr (.inr (.inl (0, t', _))) :: _ => Nat.beq t' t
    | _ => false
def nq : List MV → Bool
  | [] => true
  | .inr (.inr (.inl (3, _, _))) :: _ => false
  | _ :: S => nq S
/-- behind a call: its answer on the stack -/
def knd (kind rt : Nat) (v : MV) (S : List MV) (k : List MV → Prop) : Prop := match kind with
  | 0 => k S
  | 1 => k (mI (vI v) :: S)
  | 2 => k (mJ (vJ v) :: S)
  | _ => k (mO rt (vC v) :: S)
def cll (ce : Option Ce) (S : List MV) (μ : Mm) (k : List MV → Mm → Prop) : Prop := match ce with
  | some (n, kind, rt, rc, sp) => bif Nat.ble n S.length && (Nat.ble (ctS (S.drop n)) 8 && (rck rc (S.take n).reverse && nq (S.take n))) then sp (S.take n).reverse μ (fun v μ1 => knd kind rt v (S.drop n) (fun S' => k S' μ1)) else False
  | none => False
/-! what is on the stack, or in a local: taken apart -/
def ldI (o : Option MV) (k : Int32 → Prop) : Prop := match o with
  | some (.inl x) => k x
  | _ => False
theorem ldI_ex {o : Option MV} {k : Int32 → Prop} (h : ldI o k) : ∃ x, o = some (.inl x) ∧ k x := by
  unfold ldI at h
  split at h
  · exact ⟨_, rfl, h⟩
  · exact h.elim
theorem ldI_mono {o : Option MV} {k k' : Int32 → Prop} (h : ∀ x, k x → k' x) : ldI o k → ldI o k' := by
  unfold ldI
  split
  · exact h _
  · exact fun g => g
def ldJ (o : Option MV) (k : Int64 → Prop) : Prop := match o with
  | some (.inr (.inl x)) => k x
  | _ => False
theorem ldJ_ex {o : Option MV} {k : Int64 → Prop} (h : ldJ o k) : ∃ x, o = some (.inr (.inl x)) ∧ k x := by
  unfold ldJ at h
  split at h
  · exact ⟨_, rfl, h⟩
  · exact h.elim
theorem ldJ_mono {o : Option MV} {k k' : Int64 → Prop} (h : ∀ x, k x → k' x) : ldJ o k → ldJ o k' := by
  unfold ldJ
  split
  · exact h _
  · exact fun g => g
def ldR (o : Option MV) (k : (Nat × Nat × Nat) → Prop) : Prop := match o with
  | some (.inr (.inr (.inl r))) => k r
  | _ => False
theorem ldR_ex {o : Option MV} {k : (Nat × Nat × Nat) → Prop} (h : ldR o k) : ∃ r, o = some (.inr (.inr (.inl r))) ∧ k r := by
  unfold ldR at h
  split at h
  · exact ⟨_, rfl, h⟩
  · exact h.elim
theorem ldR_mono {o : Option MV} {k k' : (Nat × Nat × Nat) → Prop} (h : ∀ r, k r → k' r) : ldR o k → ldR o k' := by
  unfold ldR
  split
  · exact h _
  · exact fun g => g
def pI (S : List MV) (k : Int32 → List MV → Prop) : Prop := match S with
  | .inl x :: S => k x S
  | _ => False
theorem pI_ex {S : List MV} {k : Int32 → List MV → Prop} (h : pI S k) : ∃ x S', S = .inl x :: S' ∧ k x S' := by
  unfold pI at h
  split at h
  · exact ⟨_, _, rfl, h⟩
  · exact h.elim
theorem pI_mono {S : List MV} {k k' : Int32 → List MV → Prop} (h : ∀ x S, k x S → k' x S) : pI S k → pI S k' := by
  unfold pI
  split
  · exact h _ _
  · exact fun g => g
def pJ (S : List MV) (k : Int64 → List MV → Prop) : Prop := match S with
  | .inr (.inl x) :: S => k x S
  | _ => False
theorem pJ_ex {S : List MV} {k : Int64 → List MV → Prop} (h : pJ S k) : ∃ x S', S = .inr (.inl x) :: S' ∧ k x S' := by
  unfold pJ at h
  split at h
  · exact ⟨_, _, rfl, h⟩
  · exact h.elim
theorem pJ_mono {S : List MV} {k k' : Int64 → List MV → Prop} (h : ∀ x S, k x S → k' x S) : pJ S k → pJ S k' := by
  unfold pJ
  split
  · exact h _ _
  · exact fun g => g
def pR (S : List MV) (k : (Nat × Nat × Nat) → List MV → Prop) : Prop := match S with
  | .inr (.inr (.inl r)) :: S => k r S
  | _ => False
theorem pR_ex {S : List MV} {k : (Nat × Nat × Nat) → List MV → Prop} (h : pR S k) : ∃ r S', S = .inr (.inr (.inl r)) :: S' ∧ k r S' := by
  unfold pR at h
  split at h
  · exact ⟨_, _, rfl, h⟩
  · exact h.elim
theorem pR_mono {S : List MV} {k k' : (Nat × Nat × Nat) → List MV → Prop} (h : ∀ r S, k r S → k' r S) : pR S k → pR S k' := by
  unfold pR
  split
  · exact h _ _
  · exact fun g => g
def pII (S : List MV) (k : Int32 → Int32 → List MV → Prop) : Prop := match S with
  | .inl y :: .inl x :: S => k y x S
  | _ => False
theorem pII_ex {S : List MV} {k : Int32 → Int32 → List MV → Prop} (h : pII S k) : ∃ y x S', S = .inl y :: .inl x :: S' ∧ k y x S' := by
  unfold pII at h
  split at h
  · exact ⟨_, _, _, rfl, h⟩
  · exact h.elim
theorem pII_mono {S : List MV} {k k' : Int32 → Int32 → List MV → Prop} (h : ∀ y x S, k y x S → k' y x S) : pII S k → pII S k' := by
  unfold pII
  split
  · exact h _ _ _
  · exact fun g => g
def pJJ (S : List MV) (k : Int64 → Int64 → List MV → Prop) : Prop := match S with
  | .inr (.inl y) :: .inr (.inl x) :: S => k y x S
  | _ => False
theorem pJJ_ex {S : List MV} {k : Int64 → Int64 → List MV → Prop} (h : pJJ S k) : ∃ y x S', S = .inr (.inl y) :: .inr (.inl x) :: S' ∧ k y x S' := by
  unfold pJJ at h
  split at h
  · exact ⟨_, _, _, rfl, h⟩
  · exact h.elim
theorem pJJ_mono {S : List MV} {k k' : Int64 → Int64 → List MV → Prop} (h : ∀ y x S, k y x S → k' y x S) : pJJ S k → pJJ S k' := by
  unfold pJJ
  split
  · exact h _ _ _
  · exact fun g => g
def pIR (S : List MV) (k : Int32 → (Nat × Nat × Nat) → List MV → Prop) : Prop := match S with
  | .inl x :: .inr (.inr (.inl r)) :: S => k x r S
  | _ => False
theorem pIR_ex {S : List MV} {k : Int32 → (Nat × Nat × Nat) → List MV → Prop} (h : pIR S k) : ∃ x r S', S = .inl x :: .inr (.inr (.inl r)) :: S' ∧ k x r S' := by
  unfold pIR at h
  split at h
  · exact ⟨_, _, _, rfl, h⟩
  · exact h.elim
theorem pIR_mono {S : List MV} {k k' : Int32 → (Nat × Nat × Nat) → List MV → Prop} (h : ∀ x r S, k x r S → k' x r S) : pIR S k → pIR S k' := by
  unfold pIR
  split
  · exact h _ _ _
  · exact fun g => g
def pO (S : List MV) (k : Nat → Nat → List MV → Prop) : Prop := match S with
  | .inr (.inr (.inl (0, t, c))) :: S => k t c S
  | _ => False
theorem pO_ex {S : List MV} {k : Nat → Nat → List MV → Prop} (h : pO S k) : ∃ t c S', S = .inr (.inr (.inl (0, t, c))) :: S' ∧ k t c S' := by
  unfold pO at h
  split at h
  · exact ⟨_, _, _, rfl, h⟩
  · exact h.elim
theorem pO_mono {S : List MV} {k k' : Nat → Nat → List MV → Prop} (h : ∀ t c S, k t c S → k' t c S) : pO S k → pO S k' := by
  unfold pO
  split
  · exact h _ _ _
  · exact fun g => g
def pIO (S : List MV) (k : Int32 → Nat → Nat → List MV → Prop) : Prop := match S with
  | .inl x :: .inr (.inr (.inl (0, t, c))) :: S => k x t c S
  | _ => False
theorem pIO_ex {S : List MV} {k : Int32 → Nat → Nat → List MV → Prop} (h : pIO S k) : ∃ x t c S', S = .inl x :: .inr (.inr (.inl (0, t, c))) :: S' ∧ k x t c S' := by
  unfold pIO at h
  split at h
  · exact ⟨_, _, _, _, rfl, h⟩
  · exact h.elim
theorem pIO_mono {S : List MV} {k k' : Int32 → Nat → Nat → List MV → Prop} (h : ∀ x t c S, k x t c S → k' x t c S) : pIO S k → pIO S k' := by
  unfold pIO
  split
  · exact h _ _ _ _
  · exact fun g => g
def pIIA (S : List MV) (k : Int32 → Int32 → Nat → Nat → List MV → Prop) : Prop := match S with
  | .inl x :: .inl i :: .inr (.inr (.inl (1, n, c))) :: S => k x i n c S
  | _ => False
theorem pIIA_ex {S : List MV} {k : Int32 → Int32 → Nat → Nat → List MV → Prop} (h : pIIA S k) : ∃ x i n c S', S = .inl x :: .inl i :: .inr (.inr (.inl (1, n, c))) :: S' ∧ k x i n c S' := by
  unfold pIIA at h
  split at h
  · exact ⟨_, _, _, _, _, rfl, h⟩
  · exact h.elim
theorem pIIA_mono {S : List MV} {k k' : Int32 → Int32 → Nat → Nat → List MV → Prop} (h : ∀ x i n c S, k x i n c S → k' x i n c S) : pIIA S k → pIIA S k' := by
  unfold pIIA
  split
  · exact h _ _ _ _ _
  · exact fun g => g
def pIZ (S : List MV) (k : Int32 → Nat → Nat → List MV → Prop) : Prop := match S with
  | .inl i :: .inr (.inr (.inl (2, n, c))) :: S => k i n c S
  | _ => False
theorem pIZ_ex {S : List MV} {k : Int32 → Nat → Nat → List MV → Prop} (h : pIZ S k) : ∃ i n c S', S = .inl i :: .inr (.inr (.inl (2, n, c))) :: S' ∧ k i n c S' := by
  unfold pIZ at h
  split at h
  · exact ⟨_, _, _, _, rfl, h⟩
  · exact h.elim
theorem pIZ_mono {S : List MV} {k k' : Int32 → Nat → Nat → List MV → Prop} (h : ∀ i n c S, k i n c S → k' i n c S) : pIZ S k → pIZ S k' := by
  unfold pIZ
  split
  · exact h _ _ _ _
  · exact fun g => g
def pIIZ (S : List MV) (k : Int32 → Int32 → Nat → Nat → List MV → Prop) : Prop := match S with
  | .inl x :: .inl i :: .inr (.inr (.inl (2, n, c))) :: S => k x i n c S
  | _ => False
theorem pIIZ_ex {S : List MV} {k : Int32 → Int32 → Nat → Nat → List MV → Prop} (h : pIIZ S k) : ∃ x i n c S', S = .inl x :: .inl i :: .inr (.inr (.inl (2, n, c))) :: S' ∧ k x i n c S' := by
  unfold pIIZ at h
  split at h
  · exact ⟨_, _, _, _, _, rfl, h⟩
  · exact h.elim
theorem pIIZ_mono {S : List MV} {k k' : Int32 → Int32 → Nat → Nat → List MV → Prop} (h : ∀ x i n c S, k x i n c S → k' x i n c S) : pIIZ S k → pIIZ S k' := by
  unfold pIIZ
  split
  · exact h _ _ _ _ _
  · exact fun g => g
def pV (S : List MV) (k : MV → List MV → Prop) : Prop := match S with
  | .inl x :: S => k (.inl x) S
  | .inr (.inr (.inl r)) :: S => k (.inr (.inr (.inl r))) S
  | _ => False
theorem pV_ex {S : List MV} {k : MV → List MV → Prop} (h : pV S k) : ∃ v S', S = v :: S' ∧ (∀ x, v ≠ mJ x) ∧ k v S' := by
  unfold pV at h
  split at h
  · exact ⟨_, _, rfl, fun x q => (by cases q), h⟩
  · exact ⟨_, _, rfl, fun x q => (by cases q), h⟩
  · exact h.elim
theorem pV_mono {S : List MV} {k k' : MV → List MV → Prop} (h : ∀ v S, k v S → k' v S) : pV S k → pV S k' := by
  unfold pV
  split
  · exact h _ _
  · exact h _ _
  · exact fun g => g
def pIA (S : List MV) (k : Int32 → Nat → Nat → List MV → Prop) (q : Int32 → List MV → Prop) : Prop := match S with
  | .inl i :: .inr (.inr (.inl (1, n, c))) :: S => k i n c S
  | .inl i :: .inr (.inr (.inl (3, _, _))) :: S => q i S
  | _ => False
theorem pIA_ex {S : List MV} {k : Int32 → Nat → Nat → List MV → Prop} {q : Int32 → List MV → Prop} (h : pIA S k q) : (∃ i n c S', S = .inl i :: .inr (.inr (.inl (1, n, c))) :: S' ∧ k i n c S') ∨ ∃ i z1 z2 S', S = .inl i :: .inr (.inr (.inl (3, z1, z2))) :: S' ∧ q i S' := by
  unfold pIA at h
  split at h
  · exact Or.inl ⟨_, _, _, _, rfl, h⟩
  · exact Or.inr ⟨_, _, _, _, rfl, h⟩
  · exact h.elim
theorem pIA_mono {S : List MV} {k k' : Int32 → Nat → Nat → List MV → Prop} {q q' : Int32 → List MV → Prop} (h : ∀ i n c S, k i n c S → k' i n c S) (hq : ∀ i S, q i S → q' i S) : pIA S k q → pIA S k' q' := by
  unfold pIA
  split
  · exact h _ _ _ _
  · exact hq _ _
  · exact fun g => g
def pA (S : List MV) (k : Nat → Nat → List MV → Prop) (q : List MV → Prop) : Prop := match S with
  | .inr (.inr (.inl (1, n, c))) :: S => k n c S
  | .inr (.inr (.inl (3, _, _))) :: S => q S
  | _ => False
theorem pA_ex {S : List MV} {k : Nat → Nat → List MV → Prop} {q : List MV → Prop} (h : pA S k q) : (∃ n c S', S = .inr (.inr (.inl (1, n, c))) :: S' ∧ k n c S') ∨ ∃  z1 z2 S', S = .inr (.inr (.inl (3, z1, z2))) :: S' ∧ q S' := by
  unfold pA at h
  split at h
  · exact Or.inl ⟨_, _, _, rfl, h⟩
  · exact Or.inr ⟨_, _, _, rfl, h⟩
  · exact h.elim
theorem pA_mono {S : List MV} {k k' : Nat → Nat → List MV → Prop} {q q' : List MV → Prop} (h : ∀ n c S, k n c S → k' n c S) (hq : ∀ S, q S → q' S) : pA S k q → pA S k' q' := by
  unfold pA
  split
  · exact h _ _ _
  · exact hq _
  · exact fun g => g
def rI (S : List MV) (rk : Nat) (k kz : Int32 → Prop) : Prop := match S with
  | [.inl x] => bif Nat.beq rk 1 then k x else bif Nat.beq rk 4 then kz x else False
  | _ => False
theorem rI_ex {S : List MV} {rk : Nat} {k kz : Int32 → Prop} (h : rI S rk k kz) : ∃ x, S = [mI x] ∧ ((rk = 1 ∧ k x) ∨ (rk = 4 ∧ kz x)) := by
  unfold rI at h
  split at h
  · rename_i x
    refine ⟨x, rfl, ?_⟩
    cases h1 : Nat.beq rk 1 with
    | true => rw [h1] at h; exact Or.inl ⟨Nat.eq_of_beq_eq_true h1, h⟩
    | false =>
      rw [h1] at h
      cases h4 : Nat.beq rk 4 with
      | true => rw [h4] at h; exact Or.inr ⟨Nat.eq_of_beq_eq_true h4, h⟩
      | false => rw [h4] at h; exact h.elim
  · exact h.elim
theorem rI_mono {S : List MV} {rk : Nat} {k kz k' kz' : Int32 → Prop} (h : ∀ x, k x → k' x) (hz : ∀ x, kz x → kz' x) : rI S rk k kz → rI S rk k' kz' := by
  intro g
  obtain ⟨x, rfl, g2⟩ := rI_ex g
  rcases g2 with ⟨rfl, g3⟩ | ⟨rfl, g3⟩
  · exact h x g3
  · exact hz x g3
def rJ (S : List MV) (rk : Nat) (k : Int64 → Prop) : Prop := match S with
  | [.inr (.inl x)] => bif Nat.beq rk 2 then k x else False
  | _ => False
theorem rJ_ex {S : List MV} {rk : Nat} {k : Int64 → Prop} (h : rJ S rk k) : ∃ x, S = [mJ x] ∧ rk = 2 ∧ k x := by
  unfold rJ at h
  split at h
  · rename_i x
    cases h1 : Nat.beq rk 2 with
    | true => rw [h1] at h; exact ⟨x, rfl, Nat.eq_of_beq_eq_true h1, h⟩
    | false => rw [h1] at h; exact h.elim
  · exact h.elim
def rV (S : List MV) (rk : Nat) (k : Prop) : Prop := match S with
  | [] => bif Nat.beq rk 0 then k else False
  | _ => False
theorem rV_ex {S : List MV} {rk : Nat} {k : Prop} (h : rV S rk k) : S = [] ∧ rk = 0 ∧ k := by
  unfold rV at h
  split at h
  · cases h1 : Nat.beq rk 0 with
    | true => rw [h1] at h; exact ⟨rfl, Nat.eq_of_beq_eq_true h1, h⟩
    | false => rw [h1] at h; exact h.elim
  · exact h.elim
def rO (S : List MV) (rk rt : Nat) (k : Nat → Prop) : Prop := match S with
  | [.inr (.inr (.inl (0, t, c)))] => bif Nat.beq rk 3 && Nat.beq t rt then k c else False
  | _ => False
theorem rO_ex {S : List MV} {rk rt : Nat} {k : Nat → Prop} (h : rO S rk rt k) : ∃ c, S = [mO rt c] ∧ rk = 3 ∧ k c := by
  unfold rO at h
  split at h
  · rename_i t c
    cases h1 : (Nat.beq rk 3 && Nat.beq t rt) with
    | true =>
      rw [h1] at h
      simp only [Bool.and_eq_true] at h1
      exact ⟨c, by rw [Nat.eq_of_beq_eq_true h1.2], Nat.eq_of_beq_eq_true h1.1, h⟩
    | false => rw [h1] at h; exact h.elim
  · exact h.elim
theorem rJ_mono {S : List MV} {rk : Nat} {k k' : Int64 → Prop} (h : ∀ x, k x → k' x) : rJ S rk k → rJ S rk k' := by
  intro g
  obtain ⟨x, rfl, rfl, g2⟩ := rJ_ex g
  exact h x g2
theorem rV_mono {S : List MV} {rk : Nat} {k k' : Prop} (h : k → k') : rV S rk k → rV S rk k' := by
  intro g
  obtain ⟨rfl, rfl, g2⟩ := rV_ex g
  exact h g2
theorem rO_mono {S : List MV} {rk rt : Nat} {k k' : Nat → Prop} (h : ∀ c, k c → k' c) : rO S rk rt k → rO S rk rt k' := by
  intro g
  obtain ⟨c, rfl, rfl, g2⟩ := rO_ex g
  unfold rO
  have e : (Nat.beq 3 3 && Nat.beq rt rt) = true := by simp
  simp only [e, cond_true]
  exact h c g2
/-- a stored field -/
def ptF (f : Nat × Nat × Nat) (x : Int32) (k : Prop) : Prop := match f with
  | (0, _, _) => k
  | (1, _, _) => zb x ∧ k
  | _ => False
theorem ptF_ex {f : Nat × Nat × Nat} {x : Int32} {k : Prop} (h : ptF f x k) : (f.1 = 0 ∧ k) ∨ (f.1 = 1 ∧ zb x ∧ k) := by
  unfold ptF at h
  split at h
  · exact Or.inl ⟨rfl, h⟩
  · exact Or.inr ⟨rfl, h⟩
  · exact h.elim
theorem ptF_mono {f : Nat × Nat × Nat} {x : Int32} {k k' : Prop} (h : k → k') : ptF f x k → ptF f x k' := by
  unfold ptF
  split
  · exact h
  · exact fun g => ⟨g.1, h g.2⟩
  · exact fun g => g
section STP
variable (E : Ev) (K : MV → Mm → Prop) (P : Nat → List MV → List MV → Mm → Prop)
/-- what an instruction asks, so that P holds behind it -/
def opx (pc : Nat) (L S : List MV) (μ : Mm) (o : Ao) : Prop := match o with
  | (tag, v, w, a, b, _, J) => match tag / 8 with
    | 0 => match tag % 8 with
      | 0 => P (pc + 1) L (mI v :: S) μ
      | 1 => P (pc + 2) L (mI v :: S) μ
      | 2 => P (pc + 3) L (mI v :: S) μ
      | 3 => P (pc + 2) L (mI v :: S) μ
      | 4 => P (pc + 3) L (mI v :: S) μ
      | 5 => P (pc + 1) L (mJ w :: S) μ
      | 6 => P (pc + 3) L (mJ w :: S) μ
      | 7 => ldI L[a]? (fun x => P (pc + 1) L (mI x :: S) μ)
      | _ => False
    | 1 => match tag % 8 with
      | 0 => ldI L[a]? (fun x => P (pc + 2) L (mI x :: S) μ)
      | 1 => ldR L[a]? (fun x => P (pc + 1) L (.inr (.inr (.inl x)) :: S) μ)
      | 2 => ldR L[a]? (fun x => P (pc + 2) L (.inr (.inr (.inl x)) :: S) μ)
      | 3 => ldJ L[a]? (fun x => P (pc + 1) L (mJ x :: S) μ)
      | 4 => ldJ L[a]? (fun x => P (pc + 2) L (mJ x :: S) μ)
      | 5 => pI S (fun x S => P (pc + 1) (sto E.2.2.2.2.1 L a (mI x)) S μ)
      | 6 => pI S (fun x S => P (pc + 2) (sto E.2.2.2.2.1 L a (mI x)) S μ)
      | 7 => pR S (fun x S => P (pc + 1) (sto E.2.2.2.2.1 L a (.inr (.inr (.inl x)))) S μ)
      | _ => False
    | 2 => match tag % 8 with
      | 0 => pR S (fun x S => P (pc + 2) (sto E.2.2.2.2.1 L a (.inr (.inr (.inl x)))) S μ)
      | 1 => pJ S (fun x S => bif E.2.2.2.2.1 then P (pc + 1) ((sto true L a (mJ x)).set (a + 1) mU) S μ else False)
      | 2 => pJ S (fun x S => bif E.2.2.2.2.1 then P (pc + 2) ((sto true L a (mJ x)).set (a + 1) mU) S μ else False)
      | 3 => pII S (fun y x S => P (pc + 1) L (mI (x + y) :: S) μ)
      | 4 => pII S (fun y x S => P (pc + 1) L (mI (x - y) :: S) μ)
      | 5 => pII S (fun y x S => P (pc + 1) L (mI (x * y) :: S) μ)
      | 6 => pII S (fun y x S => ¬ y = 0 ∧ P (pc + 1) L (mI (x / y) :: S) μ)
      | 7 => pII S (fun y x S => ¬ y = 0 ∧ P (pc + 1) L (mI (x - x / y * y) :: S) μ)
      | _ => False
    | 3 => match tag % 8 with
      | 0 => pI S (fun x S => P (pc + 1) L (mI (-x) :: S) μ)
      | 1 => pII S (fun y x S => P (pc + 1) L (mI (x &&& y) :: S) μ)
      | 2 => pII S (fun y x S => P (pc + 1) L (mI (x ||| y) :: S) μ)
      | 3 => pII S (fun y x S => P (pc + 1) L (mI (x ^^^ y) :: S) μ)
      | 4 => pII S (fun y x S => P (pc + 1) L (mI (x <<< (y &&& 31)) :: S) μ)
      | 5 => pII S (fun y x S => P (pc + 1) L (mI (x >>> (y &&& 31)) :: S) μ)
      | 6 => pII S (fun y x S => P (pc + 1) L (mI ((x.toUInt32 >>> (y.toUInt32 &&& Int32.toUInt32 31)).toInt32) :: S) μ)
      | 7 => pJJ S (fun y x S => P (pc + 1) L (mJ (x + y) :: S) μ)
      | _ => False
    | 4 => match tag % 8 with
      | 0 => pJJ S (fun y x S => P (pc + 1) L (mJ (x * y) :: S) μ)
      | 1 => pJJ S (fun y x S => ¬ y = 0 ∧ P (pc + 1) L (mJ (x / y) :: S) μ)
      | 2 => pJJ S (fun y x S => ¬ y = 0 ∧ P (pc + 1) L (mJ (x - x / y * y) :: S) μ)
      | 3 => pJJ S (fun y x S => P (pc + 1) L (mI (lg_cmp x y) :: S) μ)
      | 4 => pI S (fun x S => P (pc + 1) L (mJ x.toInt64 :: S) μ)
      | 5 => pV S (fun v S => P (pc + 1) L (v :: v :: S) μ)
      | 6 => pIR S (fun x r S => P (pc + 1) L (.inl x :: .inr (.inr (.inl r)) :: .inl x :: .inr (.inr (.inl r)) :: S) μ)
      | 7 => ldI L[a]? (fun x => P (pc + 3) (sto E.2.2.2.2.1 L a (mI (x + v))) S μ)
      | _ => False
    | 5 => match tag % 8 with
      | 0 => P a L S μ
      | 1 => pI S (fun x S => if x = 0 then P a L S μ else P (pc + 3) L S μ)
      | 2 => pI S (fun x S => if x = 0 then P (pc + 3) L S μ else P a L S μ)
      | 3 => pI S (fun x S => if x < 0 then P a L S μ else P (pc + 3) L S μ)
      | 4 => pI S (fun x S => if 0 ≤ x then P a L S μ else P (pc + 3) L S μ)
      | 5 => pI S (fun x S => if 0 < x then P a L S μ else P (pc + 3) L S μ)
      | 6 => pI S (fun x S => if x ≤ 0 then P a L S μ else P (pc + 3) L S μ)
      | 7 => pII S (fun y x S => if x = y then P a L S μ else P (pc + 3) L S μ)
      | _ => False
    | 6 => match tag % 8 with
      | 0 => pII S (fun y x S => if x = y then P (pc + 3) L S μ else P a L S μ)
      | 1 => pII S (fun y x S => if x < y then P a L S μ else P (pc + 3) L S μ)
      | 2 => pII S (fun y x S => if y ≤ x then P a L S μ else P (pc + 3) L S μ)
      | 3 => pII S (fun y x S => if y < x then P a L S μ else P (pc + 3) L S μ)
      | 4 => pII S (fun y x S => if x ≤ y then P a L S μ else P (pc + 3) L S μ)
      | 5 => pR S (fun _ S => P (pc + 3) L S μ)
      | 6 => pR S (fun _ S => P a L S μ)
      | 7 => pO S (fun t c S => bif Nat.beq t (b / 32) then P (pc + 3) L (mF μ c (b % 32) (fo (b / 32) (b % 32)) :: S) μ else False)
      | _ => False
    | 7 => match tag % 8 with
      | 0 => pIO S (fun x t c S => bif Nat.beq t (b / 32) then ptF (fo (b / 32) (b % 32)) x (P (pc + 3) L S (mS μ c (b % 32) x)) else False)
      | 1 => pIA S (fun i n c S => vi i n ∧ P (pc + 1) L (mI (μ c i.toNatClampNeg) :: S) μ) (fun i S => vi i E.2.2.2.2.2.1 ∧ P (pc + 1) L (mI (E.2.2.2.2.2.2 i.toNatClampNeg) :: S) μ)
      | 2 => pIIA S (fun x i n c S => vi i n ∧ P (pc + 1) L S (mS μ c i.toNatClampNeg x))
      | 3 => pIZ S (fun i n c S => vi i n ∧ P (pc + 1) L (mI (μ c i.toNatClampNeg) :: S) μ)
      | 4 => pIIZ S (fun x i n c S => (zb x ∧ vi i n) ∧ P (pc + 1) L S (mS μ c i.toNatClampNeg x))
      | 5 => pA S (fun n _ S => P (pc + 1) L (mI (nI n) :: S) μ) (fun S => P (pc + 1) L (mI (nI E.2.2.2.2.2.1) :: S) μ)
      | 6 => cll (lk E.2.1 a) S μ (fun S μ => P (pc + 3) L S μ)
      | 7 => cll (lk E.2.1 a) S μ (fun S μ => P (pc + 3) L S μ)
      | _ => False
    | 8 => match tag % 8 with
      | 0 => rI S E.2.2.1 (fun x => K (mI x) μ) (fun x => zb x ∧ K (mI x) μ)
      | 1 => rJ S E.2.2.1 (fun x => K (mJ x) μ)
      | 2 => rV S E.2.2.1 (K mU μ)
      | 3 => rO S E.2.2.1 E.2.2.2.1 (fun c => K (mO E.2.2.2.1 c) μ)
      | 4 => pI S (fun x S => swt J a x (fun t => P t L S μ))
      | 5 => pI S (fun x S => swt J a x (fun t => P t L S μ))
      | 6 => pII S (fun y x S => bif Nat.ble (ctS S) 8 then P (pc + 3) L (mI (if y < x then y else x) :: S) μ else False)
      | 7 => pII S (fun y x S => bif Nat.ble (ctS S) 8 then P (pc + 3) L (mI (if x < y then y else x) :: S) μ else False)
      | _ => False
    | _ => False
def stp (pc : Nat) (L S : List MV) (μ : Mm) : Prop := match lk E.1 pc with
  | some o => opx E K P pc L S μ o
  | none => False
end STP
/-- from here the method ends with K -/
def Tot (E : Ev) (K : MV → Mm → Prop) (pc : Nat) (L S : List MV) (μ : Mm) : Prop := ∀ P : Nat → List MV → List MV → Mm → Prop, (∀ pc L S μ, stp E K P pc L S μ → P pc L S μ) → P pc L S μ
def ex (E : Ev) (cuts : List Nat) (K : MV → Mm → Prop) (F : Nat → List MV → List MV → Mm → Prop) : Nat → Nat → List MV → List MV → Mm → Prop
  | 0, _, _, _, _ => False
  | n + 1, pc, L, S, μ => stp E K (fun pc L S μ => bif cuts.elem pc then F pc L S μ else ex E cuts K F n pc L S μ) pc L S μ
def mono (sp : Sp) : Prop := ∀ (As : List MV) (μ : Mm) (K K' : MV → Mm → Prop), (∀ v μ, K v μ → K' v μ) → sp As μ K → sp As μ K'
def monoE (E : Ev) : Prop := ∀ a ce, lk E.2.1 a = some ce → mono ce.2.2.2.2
theorem ite_mono {c A B A' B' : Prop} {d : Decidable c} (h : A → A') (g : B → B') : (if c then A else B) → if c then A' else B' := by
  intro q
  split
  · rename_i e
    rw [if_pos e] at q
    exact h q
  · rename_i e
    rw [if_neg e] at q
    exact g q
theorem cnd_mono {b : Bool} {A A' : Prop} (h : A → A') : (bif b then A else False) → bif b then A' else False := by
  cases b
  · exact fun g => g
  · exact h
theorem swt_mono {J : List (Int32 × Nat)} {d : Nat} {x : Int32} {P P' : Nat → Prop} (h : ∀ t, P t → P' t) : swt J d x P → swt J d x P' := by
  induction J with
  | nil => exact h d
  | cons q r ih =>
    intro g
    unfold swt at g ⊢
    split
    · rename_i e
      rw [if_pos e] at g
      exact h _ g
    · rename_i e
      rw [if_neg e] at g
      exact ih g
theorem cll_mono {ce : Option Ce} (hm : ∀ c, ce = some c → mono c.2.2.2.2) {S : List MV} {μ : Mm} {k k' : List MV → Mm → Prop} (h : ∀ S μ, k S μ → k' S μ) : cll ce S μ k → cll ce S μ k' := by
  intro g
  match ce, hm, g with
  | some (n, kind, rt, rc, sp), hm, g =>
    unfold cll at g ⊢
    simp only at g ⊢
    cases hb : (Nat.ble n S.length && (Nat.ble (ctS (S.drop n)) 8 && (rck rc (S.take n).reverse && nq (S.take n)))) with
    | false => rw [hb] at g; exact g.elim
    | true =>
      rw [hb] at g
      refine hm _ rfl _ _ _ _ ?_ g
      intro v μ1
      unfold knd
      split <;> exact h _ _
  | none, _, g => exact g.elim
set_option maxHeartbeats 4000000 in
theorem opx_mono {E : Ev} (hm : monoE E) {K K' : MV → Mm → Prop} {P P' : Nat → List MV → List MV → Mm → Prop} (hK : ∀ v μ, K v μ → K' v μ) (hP : ∀ pc L S μ, P pc L S μ → P' pc L S μ) {pc : Nat} {L S : List MV} {μ : Mm} {o : Ao} : opx E K P pc L S μ o → opx E K' P' pc L S μ o := by
  obtain ⟨tag, v, w, a, b, c, J⟩ := o
  unfold opx
  simp only
  split <;> (try exact fun g => g.elim) <;> split
  all_goals first
    | exact fun g => g.elim
    | exact hP _ _ _ _
    | exact cll_mono (hm a) (fun _ _ => hP _ _ _ _)
    | exact ldI_mono (fun _ => hP _ _ _ _)
    | exact ldR_mono (fun _ => hP _ _ _ _)
    | exact ldJ_mono (fun _ => hP _ _ _ _)
    | exact pI_mono (fun _ _ => hP _ _ _ _)
    | exact pR_mono (fun _ _ => hP _ _ _ _)
    | exact pII_mono (fun _ _ _ => hP _ _ _ _)
    | exact pII_mono (fun _ _ _ g => ⟨g.1, hP _ _ _ _ g.2⟩)
    | exact pJJ_mono (fun _ _ _ => hP _ _ _ _)
    | exact pJJ_mono (fun _ _ _ g => ⟨g.1, hP _ _ _ _ g.2⟩)
    | exact pV_mono (fun _ _ => hP _ _ _ _)
    | exact pIR_mono (fun _ _ _ => hP _ _ _ _)
    | exact pIIA_mono (fun _ _ _ _ _ g => ⟨g.1, hP _ _ _ _ g.2⟩)
    | exact pIZ_mono (fun _ _ _ _ g => ⟨g.1, hP _ _ _ _ g.2⟩)
    | exact pIIZ_mono (fun _ _ _ _ _ g => ⟨g.1, hP _ _ _ _ g.2⟩)
    | exact pIA_mono (fun _ _ _ _ g => ⟨g.1, hP _ _ _ _ g.2⟩) (fun _ _ g => ⟨g.1, hP _ _ _ _ g.2⟩)
    | exact pA_mono (fun _ _ _ => hP _ _ _ _) (fun _ => hP _ _ _ _)
    | exact rI_mono (fun _ => hK _ _) (fun _ g => ⟨g.1, hK _ _ g.2⟩)
    | exact rJ_mono (fun _ => hK _ _)
    | exact rV_mono (hK _ _)
    | exact rO_mono (fun _ => hK _ _)
    | exact pI_mono (fun _ _ => swt_mono (fun _ => hP _ _ _ _))
    | exact pI_mono (fun _ _ => ite_mono (hP _ _ _ _) (hP _ _ _ _))
    | exact pII_mono (fun _ _ _ => ite_mono (hP _ _ _ _) (hP _ _ _ _))
    | exact pJ_mono (fun _ _ => cnd_mono (hP _ _ _ _))
    | exact pII_mono (fun _ _ _ => cnd_mono (hP _ _ _ _))
    | exact pO_mono (fun _ _ _ => cnd_mono (hP _ _ _ _))
    | exact pIO_mono (fun _ _ _ _ => cnd_mono (ptF_mono (hP _ _ _ _)))
theorem stp_mono {E : Ev} (hm : monoE E) {K K' : MV → Mm → Prop} {P P' : Nat → List MV → List MV → Mm → Prop} (hK : ∀ v μ, K v μ → K' v μ) (hP : ∀ pc L S μ, P pc L S μ → P' pc L S μ) {pc : Nat} {L S : List MV} {μ : Mm} : stp E K P pc L S μ → stp E K' P' pc L S μ := by
  unfold stp
  cases lk E.1 pc with
  | none => exact fun g => g
  | some o => exact opx_mono hm hK hP
theorem Tot.step {E : Ev} (hm : monoE E) {K : MV → Mm → Prop} {pc : Nat} {L S : List MV} {μ : Mm} (h : stp E K (Tot E K) pc L S μ) : Tot E K pc L S μ := fun P hP => hP _ _ _ _ (stp_mono hm (fun _ _ g => g) (fun pc L S μ g => g P hP) h)
theorem Tot.mono {E : Ev} (hm : monoE E) {K K' : MV → Mm → Prop} (hK : ∀ v μ, K v μ → K' v μ) {pc : Nat} {L S : List MV} {μ : Mm} (h : Tot E K pc L S μ) : Tot E K' pc L S μ := fun P hP => h P (fun _ _ _ _ g => hP _ _ _ _ (stp_mono hm hK (fun _ _ _ _ q => q) g))
/-- a stretch of code, up to the cuts -/
theorem seg {E : Ev} (hm : monoE E) {K : MV → Mm → Prop} (cuts : List Nat) (n : Nat) {pc : Nat} {L S : List MV} {μ : Mm} (h : ex E cuts K (Tot E K) n pc L S μ) : Tot E K pc L S μ := by
  induction n generalizing pc L S μ with
  | zero => exact h.elim
  | succ n ih =>
    refine Tot.step hm (stp_mono hm (fun _ _ g => g) ?_ h)
    intro pc L S μ g
    cases hc : cuts.elem pc with
    | true => rw [hc] at g; exact g
    | false => rw [hc] at g; exact ih g
def en : List MV → Nat → List MV
  | [], n => List.replicate n mU
  | .inr (.inl x) :: vs, n => mJ x :: mU :: en vs (n - 2)
  | v :: vs, n => v :: en vs (n - 1)
def nJ : List MV → Bool
  | [] => true
  | .inr (.inl _) :: _ => false
  | _ :: S => nJ S
/-- what a method does: run it from its first instruction -/
def spc (E : Ev) (nL : Nat) : Sp := fun As μ K => bif Nat.ble (ctS As) nL && (E.2.2.2.2.1 || nJ As) then Tot E K 0 (en As nL) [] μ else False
theorem spc_mono {E : Ev} (hm : monoE E) (nL : Nat) : mono (spc E nL) := fun _ _ _ _ hK h => cnd_mono (Tot.mono hm hK) h
