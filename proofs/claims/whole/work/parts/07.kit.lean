/-! THE ABSTRACT HEAP. A side (the class, or the reference) has cells 0 .. n-1 at addresses that stay; S.1 i k is the int at slot k of cell i, S.2 i k the long there. -/
abbrev S2 : Type := (Nat → Nat → Int32) × (Nat → Nat → Int64)
def pI (S : S2) (i k : Nat) (v : Int32) : S2 := (fun a b => if a = i ∧ b = k then v else S.1 a b, S.2)
def pL (S : S2) (i k : Nat) (v : Int64) : S2 := (S.1, fun a b => if a = i ∧ b = k then v else S.2 a b)
def pC (S : S2) (i j : Nat) (sp dp n : Nat) : S2 := (fun a b => if a = j then va_cpy (S.1 i) (S.1 j) sp dp n b else S.1 a b, S.2)
/-- a cell's shape: an object (class, fields: 0 int, 1 long, 2 a reference to a cell), or an array (kind, length, elements) -/
abbrev Sh : Type := (Nat × List (Nat × Nat)) ⊕ (Nat × Nat × (Nat → Nat))
def fv (ad : Nat → Nat) (S : S2) (i k : Nat) (f : Nat × Nat) : Value := match f with
  | (0, _) => .int (S.1 i k)
  | (1, _) => .long (S.2 i k)
  | (_, j) => .ref (ad j)
def fvs (ad : Nat → Nat) (S : S2) (i : Nat) : Nat → List (Nat × Nat) → List Value
  | _, [] => []
  | k, f :: fs => fv ad S i k f :: fvs ad S i (k + 1) fs
def cel (cA : Nat → ClassId) (ad : Nat → Nat) (S : S2) (i : Nat) (sh : Sh) : va_E := match sh with
  | .inl (ci, fl) => .inr (ci, fvs ad S i 0 fl)
  | .inr (0, len, _) => .inl (cA 0, len, .inl (S.1 i))
  | .inr (1, len, _) => .inl (cA 1, len, .inl (S.1 i))
  | .inr (2, len, _) => .inl (cA 2, len, .inr (.inl (S.2 i)))
  | .inr (k + 3, len, el) => .inl (cA (k + 3), len, .inr (.inr (.inr (.inr (fun j => some (ad (el j)))))))
def wld (cA : Nat → ClassId) (ad : Nat → Nat) (sh : Nat → Sh) (n : Nat) (S : S2) : va_W := (List.range n).map (fun i => (ad i, cel cA ad S i (sh i)))
def tysA (cA : Nat → ClassId) : List (ClassId × FieldType) := [(cA 0, .int), (cA 1, .char), (cA 2, .long), (cA 3, .object "TracePeaks$Script"), (cA 4, .object "TracePeaks$Curve")]
theorem wld_get {cA : Nat → ClassId} {ad : Nat → Nat} {sh : Nat → Sh} {n : Nat} {S : S2} {i : Nat} (h : i < n) : (wld cA ad sh n S)[i]? = some (ad i, cel cA ad S i (sh i)) := by
  simp [wld, h]
theorem wld_len {cA : Nat → ClassId} {ad : Nat → Nat} {sh : Nat → Sh} {n : Nat} {S : S2} : (wld cA ad sh n S).length = n := by simp [wld]
theorem wld_set {cA : Nat → ClassId} {ad : Nat → Nat} {sh : Nat → Sh} {n : Nat} {S S' : S2} {i : Nat} {e : va_E} (he : cel cA ad S' i (sh i) = e) (ho : ∀ j, j ≠ i → cel cA ad S' j (sh j) = cel cA ad S j (sh j)) : (wld cA ad sh n S).set i (ad i, e) = wld cA ad sh n S' := by
  apply List.ext_getElem?
  intro j
  rw [List.getElem?_set]
  by_cases hj : i = j
  · subst hj
    by_cases hn : i < n
    · rw [if_pos rfl, if_pos (by rw [wld_len]; exact hn), wld_get (S := S') hn, he]
    · simp [wld_len, hn, wld]
  · simp only [hj, if_false]
    by_cases hn : j < n
    · rw [wld_get hn, wld_get hn, ho j (fun h => hj h.symm)]
    · simp [wld, hn]
theorem fvs_get {ad : Nat → Nat} {S : S2} {i : Nat} : ∀ (fl : List (Nat × Nat)) (k0 k : Nat) {f : Nat × Nat}, fl[k]? = some f → (fvs ad S i k0 fl)[k]? = some (fv ad S i (k0 + k) f)
  | [], _, k, f, h => by simp at h
  | g :: fl, k0, 0, f, h => by simp at h; subst h; simp [fvs]
  | g :: fl, k0, k + 1, f, h => by
    have h1 : fl[k]? = some f := by simpa using h
    have h2 := fvs_get (ad := ad) (S := S) (i := i) fl (k0 + 1) k h1
    simp only [fvs, List.getElem?_cons_succ, h2]
    rw [show k0 + 1 + k = k0 + (k + 1) by omega]
theorem fvs_len {ad : Nat → Nat} {S : S2} {i : Nat} : ∀ (fl : List (Nat × Nat)) (k0 : Nat), (fvs ad S i k0 fl).length = fl.length
  | [], _ => rfl
  | g :: fl, k0 => by simp [fvs, fvs_len fl (k0 + 1)]
theorem fv_pI_ne {ad : Nat → Nat} {S : S2} {i k a b : Nat} {v : Int32} {f : Nat × Nat} (h : ¬ (a = i ∧ b = k)) : fv ad (pI S i k v) a b f = fv ad S a b f := by
  unfold fv pI; split <;> simp [h]
theorem fvs_pI_lt {ad : Nat → Nat} {S : S2} {i k : Nat} {v : Int32} : ∀ (fl : List (Nat × Nat)) (k0 : Nat), k < k0 → fvs ad (pI S i k v) i k0 fl = fvs ad S i k0 fl
  | [], _, _ => rfl
  | g :: fl, k0, h => by
    simp only [fvs]
    rw [fvs_pI_lt fl (k0 + 1) (by omega), fv_pI_ne (by omega)]
theorem fvs_pI {ad : Nat → Nat} {S : S2} {i : Nat} {v : Int32} : ∀ (fl : List (Nat × Nat)) (k0 k : Nat) {z : Nat}, fl[k]? = some (0, z) → fvs ad (pI S i (k0 + k) v) i k0 fl = (fvs ad S i k0 fl).set k (.int v)
  | [], _, k, z, h => by simp at h
  | g :: fl, k0, 0, z, h => by
    simp at h; subst h
    simp only [fvs, List.set_cons_zero, Nat.add_zero]
    rw [fvs_pI_lt fl (k0 + 1) (by omega)]
    simp [fv, pI]
  | g :: fl, k0, k + 1, z, h => by
    have h1 : fl[k]? = some (0, z) := by simpa using h
    simp only [fvs, List.set_cons_succ]
    rw [fv_pI_ne (by omega), show k0 + (k + 1) = k0 + 1 + k by omega, fvs_pI fl (k0 + 1) k h1]
theorem fv_pL_ne {ad : Nat → Nat} {S : S2} {i k a b : Nat} {v : Int64} {f : Nat × Nat} (h : ¬ (a = i ∧ b = k)) : fv ad (pL S i k v) a b f = fv ad S a b f := by
  unfold fv pL; split <;> simp [h]
theorem fvs_pL_lt {ad : Nat → Nat} {S : S2} {i k : Nat} {v : Int64} : ∀ (fl : List (Nat × Nat)) (k0 : Nat), k < k0 → fvs ad (pL S i k v) i k0 fl = fvs ad S i k0 fl
  | [], _, _ => rfl
  | g :: fl, k0, h => by
    simp only [fvs]
    rw [fvs_pL_lt fl (k0 + 1) (by omega), fv_pL_ne (by omega)]
theorem fvs_pL {ad : Nat → Nat} {S : S2} {i : Nat} {v : Int64} : ∀ (fl : List (Nat × Nat)) (k0 k : Nat) {z : Nat}, fl[k]? = some (1, z) → fvs ad (pL S i (k0 + k) v) i k0 fl = (fvs ad S i k0 fl).set k (.long v)
  | [], _, k, z, h => by simp at h
  | g :: fl, k0, 0, z, h => by
    simp at h; subst h
    simp only [fvs, List.set_cons_zero, Nat.add_zero]
    rw [fvs_pL_lt fl (k0 + 1) (by omega)]
    simp [fv, pL]
  | g :: fl, k0, k + 1, z, h => by
    have h1 : fl[k]? = some (1, z) := by simpa using h
    simp only [fvs, List.set_cons_succ]
    rw [fv_pL_ne (by omega), show k0 + (k + 1) = k0 + 1 + k by omega, fvs_pL fl (k0 + 1) k h1]
theorem fvs_cong {ad : Nat → Nat} {S S' : S2} {i : Nat} (h1 : S'.1 i = S.1 i) (h2 : S'.2 i = S.2 i) : ∀ (fl : List (Nat × Nat)) (k0 : Nat), fvs ad S' i k0 fl = fvs ad S i k0 fl
  | [], _ => rfl
  | g :: fl, k0 => by
    simp only [fvs]
    rw [fvs_cong h1 h2 fl (k0 + 1)]
    congr 1
    unfold fv; split <;> simp [h1, h2]
theorem cel_cong {cA : Nat → ClassId} {ad : Nat → Nat} {S S' : S2} {i : Nat} {sh : Sh} (h1 : S'.1 i = S.1 i) (h2 : S'.2 i = S.2 i) : cel cA ad S' i sh = cel cA ad S i sh := by
  unfold cel; split <;> simp [fvs_cong h1 h2, h1, h2]
theorem pI_row {S : S2} {i k j : Nat} {v : Int32} (h : j ≠ i) : (pI S i k v).1 j = S.1 j := by funext b; simp [pI, h]
theorem pI_same {S : S2} {i k : Nat} {v : Int32} : (pI S i k v).1 i = upd (S.1 i) k v := by funext b; simp [pI, upd]
theorem pL_row {S : S2} {i k j : Nat} {v : Int64} (h : j ≠ i) : (pL S i k v).2 j = S.2 j := by funext b; simp [pL, h]
theorem pL_same {S : S2} {i k : Nat} {v : Int64} : (pL S i k v).2 i = vp_updL (S.2 i) k v := by funext b; simp [pL, vp_updL]
theorem pC_row {S : S2} {i d j sp dp n : Nat} (h : j ≠ d) : (pC S i d sp dp n).1 j = S.1 j := by funext b; simp [pC, h]
theorem pC_same {S : S2} {i d sp dp n : Nat} : (pC S i d sp dp n).1 d = va_cpy (S.1 i) (S.1 d) sp dp n := by funext b; simp [pC]
/-! THE SIDE, AND WHAT HOLDS ALL ALONG A METHOD -/
abbrev XT : Type := va_G × (Nat → ClassId) × (Nat → Nat)
abbrev ZT : Type := (Nat → Prop) → State → Heap → Prop
def XW (X : XT) (sh : Nat → Sh) (n : Nat) (S : S2) : va_W := wld X.2.1 X.2.2 sh n S
def XA (X : XT) (n sz : Nat) : Nat → Prop := fun q => (∃ i, i < n ∧ q = X.2.2 i) ∨ sz ≤ q
def XInj (X : XT) (n : Nat) : Prop := ∀ i j, i < n → j < n → X.2.2 i = X.2.2 j → i = j
def XK (X : XT) (U : State) : Prop := va_K X.1 vwCl (tysA X.2.1) U
def ZOK (Z : ZT) : Prop := (∀ (A : Nat → Prop) (s U : State) (H : Heap), s.WarmedH U.vm → Z A s H → Z A U H) ∧ (∀ (A : Nat → Prop) (U : State) (H H1 : Heap), (∀ a : Nat, a < H.size → ¬ A a → H1[a]? = H[a]?) → Z A U H → Z A U H1) ∧ (∀ (A B : Nat → Prop) (U : State) (H : Heap), (∀ q, B q → A q) → Z A U H → Z B U H) ∧ (∀ (A : Nat → Prop) (U : State) (H : Heap) (g : JFrame) (mk : MethodId) (a : Array Value), Z A U H → Z A (U.calling g mk a) H)
def Pre (X : XT) (sh : Nat → Sh) (n : Nat) (Z : ZT) (S : S2) (sz : Nat) : State → Prop := fun U => U.heap.size = sz ∧ va_P X.1 vwCl (XW X sh n S) U.heap ∧ XK X U ∧ Z (XA X n sz) U U.heap
abbrev Post (X : XT) (sh : Nat → Sh) (n : Nat) (S : S2) : Unit → State → Prop := fun _ t => va_P X.1 vwCl (XW X sh n S) t.heap
/-- a method that answers an int (or a boolean, a char): o = (the answer, the heap behind it) -/
def MI (l : Launch) (X : XT) (sh : Nat → Sh) (n : Nat) (Z : ZT) (y : MethodName) (cc : ByteArray) (maxL : Nat) (ret : Option FieldType) (rm : Room) (av : List Value) (S : S2) (o : Int32 × S2) : Prop :=
  ∀ sz, Met l y (.code y cc maxL ret :: UW) rm (va_Pc av (Pre X sh n Z S sz)) (va_Qi (fun r (_ : Unit) => r = o.1) (Post X sh n o.2) (XA X n sz)) 0 0 (XA X n sz)
def ML (l : Launch) (X : XT) (sh : Nat → Sh) (n : Nat) (Z : ZT) (y : MethodName) (cc : ByteArray) (maxL : Nat) (ret : Option FieldType) (rm : Room) (av : List Value) (S : S2) (o : Int64 × S2) : Prop :=
  ∀ sz, Met l y (.code y cc maxL ret :: UW) rm (va_Pc av (Pre X sh n Z S sz)) (va_Ql (fun r (_ : Unit) => r = o.1) (Post X sh n o.2) (XA X n sz)) 0 0 (XA X n sz)
def MV (l : Launch) (X : XT) (sh : Nat → Sh) (n : Nat) (Z : ZT) (y : MethodName) (cc : ByteArray) (maxL : Nat) (ret : Option FieldType) (rm : Room) (av : List Value) (S : S2) (o : S2) : Prop :=
  ∀ sz, Met l y (.code y cc maxL ret :: UW) rm (va_Pc av (Pre X sh n Z S sz)) (va_Qv (fun (_ : Unit) => True) (Post X sh n o) (XA X n sz)) 0 0 (XA X n sz)
/-- a method that answers a cell that stands, at ra -/
def MR (l : Launch) (X : XT) (sh : Nat → Sh) (n : Nat) (Z : ZT) (y : MethodName) (cc : ByteArray) (maxL : Nat) (ret : Option FieldType) (rm : Room) (av : List Value) (S : S2) (ra : Nat) (o : S2) : Prop :=
  ∀ sz, Met l y (.code y cc maxL ret :: UW) rm (va_Pc av (Pre X sh n Z S sz)) (va_Qr (fun (_ : Unit) => True) (fun _ a t => a = ra ∧ va_P X.1 vwCl (XW X sh n o) t.heap) (XA X n sz)) 0 0 (XA X n sz)
def CX (p : Program) (s : State) (m : MethodId) (args : Array Value) (meth : Method) (c : Code) (cc : ByteArray) (nL : Nat) (own : String) (ret : Option FieldType) (X : XT) (n : Nat) (Z : ZT) : Prop :=
  CallFix p m c cc nL s args UW own ∧ meth.locks = false ∧ meth.sig.returnType = ret ∧ XInj X n ∧ XK X s ∧ Z (XA X n s.heap.size) s s.heap ∧ ZOK Z
def WH (X : XT) (sh : Nat → Sh) (n : Nat) (s : State) (S : S2) (H : Heap) (locs : List Loc) : Prop := va_P X.1 vwCl (XW X sh n S) H ∧ va_S (XA X n s.heap.size) s.heap H locs
def ClsOK (ci : Nat) (C : String) (T : u_T) (N : Nat) (ty0 : Nat → FieldType) : Prop := vwCl[ci]? = some (C, T, N) ∧ (∀ w ∈ u_ws C T N, w ∈ UW) ∧ (∀ k, k < N → parseFieldDescriptor (T k).2.2.1 = some (ty0 k)) ∧ (∀ a, a < N → ∀ b, b < N → a ≠ b → (T a).2.1 ≠ (T b).2.1)
theorem X_D {X : XT} {sh : Nat → Sh} {n sz : Nat} {S : S2} (h : XInj X n) : va_D (XA X n sz) (XW X sh n S) := by
  refine ⟨fun i j p q hi hj e => ?_, fun k q hk => ?_⟩
  · have h1 : i < n := by
      have := (List.getElem?_eq_some_iff.mp hi).1; rwa [XW, wld_len] at this
    have h2 : j < n := by
      have := (List.getElem?_eq_some_iff.mp hj).1; rwa [XW, wld_len] at this
    rw [XW, wld_get h1] at hi; rw [XW, wld_get h2] at hj
    cases hi; cases hj
    exact h i j h1 h2 e
  · have h1 : k < n := by
      have := (List.getElem?_eq_some_iff.mp hk).1; rwa [XW, wld_len] at this
    rw [XW, wld_get h1] at hk
    cases hk
    exact Or.inl ⟨k, h1, rfl⟩
theorem X_A {X : XT} {n sz : Nat} : ∀ q : Nat, sz ≤ q → XA X n sz q := fun _ h => Or.inr h
/-! THE PROGRAM'S TEXT: what a step does to the heap; none: it isn't told -/
def gI {α : Type} (S : S2) (i k : Nat) (K : Int32 → Option α) : Option α := K (S.1 i k)
def gL {α : Type} (S : S2) (i k : Nat) (K : Int64 → Option α) : Option α := K (S.2 i k)
def uI {α : Type} (S : S2) (i k : Nat) (v : Int32) (K : S2 → Option α) : Option α := K (pI S i k v)
def uZ {α : Type} (S : S2) (i k : Nat) (v : Int32) (K : S2 → Option α) : Option α := if v = 0 ∨ v = 1 then K (pI S i k v) else none
def uL {α : Type} (S : S2) (i k : Nat) (v : Int64) (K : S2 → Option α) : Option α := K (pL S i k v)
def aI {α : Type} (S : S2) (i n : Nat) (x : Int32) (K : Int32 → Option α) : Option α := if ¬ (x < 0 ∨ n ≤ x.toNatClampNeg) then K (S.1 i x.toNatClampNeg) else none
def aL {α : Type} (S : S2) (i n : Nat) (x : Int32) (K : Int64 → Option α) : Option α := if ¬ (x < 0 ∨ n ≤ x.toNatClampNeg) then K (S.2 i x.toNatClampNeg) else none
def aR {α : Type} (n : Nat) (x : Int32) (K : Nat → Option α) : Option α := if ¬ (x < 0 ∨ n ≤ x.toNatClampNeg) then K x.toNatClampNeg else none
def sI {α : Type} (S : S2) (i n : Nat) (x v : Int32) (K : S2 → Option α) : Option α := if ¬ (x < 0 ∨ n ≤ x.toNatClampNeg) then K (pI S i x.toNatClampNeg v) else none
def sC {α : Type} (S : S2) (i n : Nat) (x v : Int32) (K : S2 → Option α) : Option α := if ¬ (x < 0 ∨ n ≤ x.toNatClampNeg) then K (pI S i x.toNatClampNeg (vp_nar .char v)) else none
def sL {α : Type} (S : S2) (i n : Nat) (x : Int32) (v : Int64) (K : S2 → Option α) : Option α := if ¬ (x < 0 ∨ n ≤ x.toNatClampNeg) then K (pL S i x.toNatClampNeg v) else none
/-- System.arraycopy of n places between two rows of len0, len1 -/
def cpI {α : Type} (S : S2) (i j n0 n1 : Nat) (sp dp n : Int32) (K : S2 → Option α) : Option α := if ¬ sp < 0 ∧ ¬ dp < 0 ∧ ¬ n < 0 ∧ sp.toNatClampNeg + n.toNatClampNeg ≤ n0 ∧ dp.toNatClampNeg + n.toNatClampNeg ≤ n1 then K (pC S i j sp.toNatClampNeg dp.toNatClampNeg n.toNatClampNeg) else none
def nz {α : Type} (y : Int32) (K : Option α) : Option α := if y = 0 then none else K
def nzL {α : Type} (y : Int64) (K : Option α) : Option α := if y = 0 then none else K
def mxI (x y : Int32) : Int32 := if x < y then y else x
def mnI (x y : Int32) : Int32 := if y < x then y else x
def abI (x : Int32) : Int32 := if 0 ≤ x then x else 0 - x
def bI {α β : Type} (x : Option (β × S2)) (K : β → S2 → Option α) : Option α := match x with
  | none => none
  | some (r, S) => K r S
def bV {α : Type} (x : Option S2) (K : S2 → Option α) : Option α := match x with
  | none => none
  | some S => K S
theorem ite_some {α : Type} {c : Prop} [Decidable c] {a b : Option α} {o : α} (h : (if c then a else b) = some o) : (c ∧ a = some o) ∨ (¬ c ∧ b = some o) := by
  by_cases hc : c
  · rw [if_pos hc] at h; exact Or.inl ⟨hc, h⟩
  · rw [if_neg hc] at h; exact Or.inr ⟨hc, h⟩
theorem ite_none {α : Type} {c : Prop} [Decidable c] {a : Option α} {o : α} (h : (if c then a else none) = some o) : c ∧ a = some o := by
  by_cases hc : c
  · rw [if_pos hc] at h; exact ⟨hc, h⟩
  · rw [if_neg hc] at h; cases h
theorem nz_some {α : Type} {y : Int32} {a : Option α} {o : α} (h : nz y a = some o) : ¬ y = 0 ∧ a = some o := by
  unfold nz at h
  by_cases hc : y = 0
  · rw [if_pos hc] at h; cases h
  · rw [if_neg hc] at h; exact ⟨hc, h⟩
theorem nzL_some {α : Type} {y : Int64} {a : Option α} {o : α} (h : nzL y a = some o) : ¬ y = 0 ∧ a = some o := by
  unfold nzL at h
  by_cases hc : y = 0
  · rw [if_pos hc] at h; cases h
  · rw [if_neg hc] at h; exact ⟨hc, h⟩
theorem bI_some {α β : Type} {x : Option (β × S2)} {K : β → S2 → Option α} {o : α} (h : bI x K = some o) : ∃ r S, x = some (r, S) ∧ K r S = some o := by
  cases x with
  | none => cases h
  | some q => exact ⟨q.1, q.2, rfl, h⟩
theorem bV_some {α : Type} {x : Option S2} {K : S2 → Option α} {o : α} (h : bV x K = some o) : ∃ S, x = some S ∧ K S = some o := by
  cases x with
  | none => cases h
  | some q => exact ⟨q, rfl, h⟩
