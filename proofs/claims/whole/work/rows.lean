section
/-! the pure state: a number for each place of each cell; the world that it stands for; a row an instruction over it -/
abbrev sf_St : Type := Nat → Nat → Int32
def sf_upc (σ : sf_St) (k : Nat) (f : Nat → Int32) : sf_St := fun j => if j = k then f else σ j
def sf_up (σ : sf_St) (k i : Nat) (v : Int32) : sf_St := sf_upc σ k (upd (σ k) i v)
def sf_ix (i : Int32) : Nat := i.toNatClampNeg
/-- a cell's kind: 0 int array, 1 boolean array, 2 char array (then its length), 3 array of arrays (length, the cells), 4 object (class, fields: a cell or a number) -/
abbrev sf_Kd : Type := Nat × Nat × List (Option Nat)
def sf_fv (q : Nat → Nat) (f : Nat → Int32) (j : Nat) (r : Option Nat) : Value := match r with
  | some k => .ref (q k)
  | none => .int (f j)
def sf_ce (q : Nat → Nat) (dA : Nat → ClassId) (f : Nat → Int32) (kd : sf_Kd) : va_E :=
  if kd.1 = 4 then .inr (kd.2.1, kd.2.2.mapIdx (sf_fv q f))
  else if kd.1 = 3 then .inl (dA 3, kd.2.1, .inr (.inr (.inr (.inr (fun i => (kd.2.2.getD i none).map q)))))
  else .inl (dA kd.1, kd.2.1, .inl f)
def sf_w (q : Nat → Nat) (dA : Nat → ClassId) (K : List sf_Kd) (σ : sf_St) : va_W := K.mapIdx (fun k kd => (q k, sf_ce q dA (σ k) kd))
def sf_tys (dA : Nat → ClassId) : List (ClassId × FieldType) := [(dA 0, .int), (dA 1, .boolean), (dA 2, .char), (dA 3, .array .int)]
def sf_A (q : Nat → Nat) (K : List sf_Kd) : Nat → Prop := fun a => ∃ k, k < K.length ∧ a = q k
def sf_inj (q : Nat → Nat) (K : List sf_Kd) : Prop := ∀ i j, i < K.length → j < K.length → q i = q j → i = j
theorem sf_w_at {q : Nat → Nat} {dA : Nat → ClassId} {K : List sf_Kd} {σ : sf_St} {k : Nat} {kd : sf_Kd} (h : K[k]? = some kd) : (sf_w q dA K σ)[k]? = some (q k, sf_ce q dA (σ k) kd) := by
  simp [sf_w, List.getElem?_mapIdx, h]
theorem sf_w_inv {q : Nat → Nat} {dA : Nat → ClassId} {K : List sf_Kd} {σ : sf_St} {k : Nat} {x : Nat × va_E} (h : (sf_w q dA K σ)[k]? = some x) : k < K.length ∧ x.1 = q k := by
  unfold sf_w at h
  rw [List.getElem?_mapIdx] at h
  cases hk : K[k]? with
  | none => rw [hk] at h; cases h
  | some kd =>
    rw [hk] at h
    cases h
    exact ⟨(List.getElem?_eq_some_iff.mp hk).1, rfl⟩
theorem sf_w_set {q : Nat → Nat} {dA : Nat → ClassId} {K : List sf_Kd} {σ : sf_St} {k : Nat} {kd : sf_Kd} (f : Nat → Int32) (h : K[k]? = some kd) : (sf_w q dA K σ).set k (q k, sf_ce q dA f kd) = sf_w q dA K (sf_upc σ k f) := by
  have hl : k < K.length := (List.getElem?_eq_some_iff.mp h).1
  apply List.ext_getElem?
  intro i
  rw [List.getElem?_set]
  by_cases hi : k = i
  · subst hi
    rw [if_pos rfl, sf_w_at h]
    simp [sf_w, hl, sf_upc]
  · rw [if_neg hi]
    have hi' : ¬ i = k := fun e => hi e.symm
    unfold sf_w
    rw [List.getElem?_mapIdx, List.getElem?_mapIdx]
    cases K[i]? with
    | none => rfl
    | some kd => simp [sf_upc, hi']
theorem sf_w_D {q : Nat → Nat} {dA : Nat → ClassId} {K : List sf_Kd} {σ : sf_St} (h : sf_inj q K) : va_D (sf_A q K) (sf_w q dA K σ) := by
  refine ⟨fun i j x y hx hy hxy => ?_, fun k x hx => ?_⟩
  · obtain ⟨h1, e1⟩ := sf_w_inv hx
    obtain ⟨h2, e2⟩ := sf_w_inv hy
    exact h i j h1 h2 (by rw [← e1, ← e2]; exact hxy)
  · obtain ⟨h1, e1⟩ := sf_w_inv hx
    exact ⟨k, h1, e1⟩
theorem sf_ce_a {q : Nat → Nat} {dA : Nat → ClassId} {f : Nat → Int32} {t n : Nat} {fs : List (Option Nat)} (ht : t < 3) : sf_ce q dA f (t, n, fs) = .inl (dA t, n, .inl f) := by
  have h4 : ¬ t = 4 := by omega
  have h3 : ¬ t = 3 := by omega
  simp [sf_ce, h4, h3]
theorem sf_ce_o {q : Nat → Nat} {dA : Nat → ClassId} {f : Nat → Int32} {ci : Nat} {fs : List (Option Nat)} : sf_ce q dA f (4, ci, fs) = .inr (ci, fs.mapIdx (sf_fv q f)) := rfl
theorem sf_fs_set {q : Nat → Nat} {f : Nat → Int32} {fs : List (Option Nat)} {j : Nat} {v : Int32} (h : fs[j]? = some none) : (fs.mapIdx (sf_fv q f)).set j (.int v) = fs.mapIdx (sf_fv q (upd f j v)) := by
  have hl : j < fs.length := (List.getElem?_eq_some_iff.mp h).1
  apply List.ext_getElem?
  intro i
  rw [List.getElem?_set, List.getElem?_mapIdx]
  by_cases hi : j = i
  · subst hi
    rw [if_pos rfl, List.getElem?_mapIdx, h]
    simp [hl, sf_fv, upd]
  · rw [if_neg hi, List.getElem?_mapIdx]
    have hi' : ¬ i = j := fun e => hi e.symm
    cases fs[i]? with
    | none => rfl
    | some r => cases r <;> simp [sf_fv, upd, hi']
def sf_Ek (q : Nat → Nat) (K : List sf_Kd) (E : State → Prop) : Prop := ∀ u U : State, u.WarmedH U.vm → (∀ a : Nat, a < u.heap.size → ¬ sf_A q K a → U.heap[a]? = u.heap[a]?) → u.heap.size ≤ U.heap.size → E u → E U
abbrev sf_I (D : va_G) (cl : List vw_C) (q : Nat → Nat) (dA : Nat → ClassId) (K : List sf_Kd) (E : State → Prop) (σ : sf_St) (U : State) : Prop := va_P D cl (sf_w q dA K σ) U.heap ∧ va_K D cl (sf_tys dA) U ∧ E U
/-- a contract: the answer is r, the state behind it τ -/
def sf_Mi (l : Launch) (y : MethodName) (ws : List Cond) (rm : Room) (D : va_G) (cl : List vw_C) (q : Nat → Nat) (dA : Nat → ClassId) (K : List sf_Kd) (E : State → Prop) (av : List Value) (σ : sf_St) (r : Int32) (τ : sf_St) : Prop :=
  Met l y ws rm (va_Pc av (sf_I D cl q dA K E σ)) (va_Qi (fun r' τ' => r' = r ∧ τ' = τ) (fun τ' t => sf_I D cl q dA K E τ' t) (sf_A q K)) 0 0 (sf_A q K)
def sf_Mv (l : Launch) (y : MethodName) (ws : List Cond) (rm : Room) (D : va_G) (cl : List vw_C) (q : Nat → Nat) (dA : Nat → ClassId) (K : List sf_Kd) (E : State → Prop) (av : List Value) (σ : sf_St) (τ : sf_St) : Prop :=
  Met l y ws rm (va_Pc av (sf_I D cl q dA K E σ)) (va_Qv (fun τ' => τ' = τ) (fun τ' t => sf_I D cl q dA K E τ' t) (sf_A q K)) 0 0 (sf_A q K)
def sf_Qi (D : va_G) (cl : List vw_C) (q : Nat → Nat) (dA : Nat → ClassId) (K : List sf_Kd) (E : State → Prop) (below : List Frame) (args : Array Value) (s : State) (r : Int32) (τ : sf_St) : State → Prop := MQ below (va_Qi (fun r' τ' => r' = r ∧ τ' = τ) (fun τ' t => sf_I D cl q dA K E τ' t) (sf_A q K)) args s 0 0 (sf_A q K)
def sf_Qv (D : va_G) (cl : List vw_C) (q : Nat → Nat) (dA : Nat → ClassId) (K : List sf_Kd) (E : State → Prop) (below : List Frame) (args : Array Value) (s : State) (τ : sf_St) : State → Prop := MQ below (va_Qv (fun τ' => τ' = τ) (fun τ' t => sf_I D cl q dA K E τ' t) (sf_A q K)) args s 0 0 (sf_A q K)
/-- what stays the same in a method's walk -/
def sf_Cx (p : Program) (s : State) (m : MethodId) (args : Array Value) (meth : Method) (c : Code) (cc : ByteArray) (nL : Nat) (own : String) (ret : Option FieldType) (Ts : List Cond) (D : va_G) (cl : List vw_C) (q : Nat → Nat) (dA : Nat → ClassId) (K : List sf_Kd) (E : State → Prop) : Prop :=
  CallFix p m c cc nL s args Ts own ∧ va_K D cl (sf_tys dA) s ∧ sf_inj q K ∧ E s ∧ sf_Ek q K E ∧ meth.sig.returnType = ret ∧ meth.locks = false
def sf_G (p : Program) (l : Launch) (e : Env) (R : Room) (s : State) (m : MethodId) (args : Array Value) (below : List Frame) (meth : Method) (c : Code) (Q : State → Prop) (nL : Nat) (D : va_G) (cl : List vw_C) (q : Nat → Nat) (dA : Nat → ClassId) (K : List sf_Kd) (σ : sf_St) (pc : Nat) (lv : List (Nat × Value)) (st : List Value) : Prop :=
  ∀ (H : Heap) (locs : List Loc) (ls : Array Slot), va_P D cl (sf_w q dA K σ) H → va_S (sf_A q K) s.heap H locs → lv_has ls nL lv → W p l e R s m args below meth c H locs 0 0 Q (F0 m pc ls st)
theorem sf_mif {c A B A' B' : Prop} {d : Decidable c} (hA : A → A') (hB : B → B') : (if c then A else B) → (if c then A' else B') := by
  intro h
  by_cases hc : c
  · rw [if_pos hc] at h ⊢; exact hA h
  · rw [if_neg hc] at h ⊢; exact hB h
theorem sf_ift {c A B : Prop} {d : Decidable c} (hc : c) (h : if c then A else B) : A := by rwa [if_pos hc] at h
theorem sf_iff {c A B : Prop} {d : Decidable c} (hc : ¬ c) (h : if c then A else B) : B := by rwa [if_neg hc] at h
section SFROWS
variable {p : Program} {l : Launch} {e : Env} {R : Room} {s : State} {m : MethodId} {args : Array Value} {below : List Frame} {meth : Method} {c : Code} {Q : State → Prop} {cc : ByteArray} {nL : Nat} {own : String} {ret : Option FieldType} {Ts : List Cond} {D : va_G} {cl : List vw_C} {q : Nat → Nat} {dA : Nat → ClassId} {K : List sf_Kd} {E : State → Prop} {σ : sf_St} {pc pc' : Nat} {lv : List (Nat × Value)} {st : List Value}
theorem sf_iconst (X : sf_Cx p s m args meth c cc nL own ret Ts D cl q dA K E) {n : Int} {v : Int32} (hdg : decode cc pc = .ok (.iconst n, 1)) (hv : Int32.ofInt n = v) (hp : pc + 1 = pc') (k : sf_G p l e R s m args below meth c Q nL D cl q dA K σ pc' lv (.int v :: st)) : sf_G p l e R s m args below meth c Q nL D cl q dA K σ pc lv st := by
  subst hp
  exact fun H locs ls hP hS hl => lv_iconst X.1.1 X.1.2.1 hdg hv (k H locs ls hP hS hl)
theorem sf_bipush (X : sf_Cx p s m args meth c cc nL own ret Ts D cl q dA K E) {n : Int} {v : Int32} (hdg : decode cc pc = .ok (.bipush n, 2)) (hv : (Int8.ofInt n).toInt32 = v) (hp : pc + 2 = pc') (k : sf_G p l e R s m args below meth c Q nL D cl q dA K σ pc' lv (.int v :: st)) : sf_G p l e R s m args below meth c Q nL D cl q dA K σ pc lv st := by
  subst hp
  exact fun H locs ls hP hS hl => lv_bipush X.1.1 X.1.2.1 hdg hv (k H locs ls hP hS hl)
theorem sf_sipush (X : sf_Cx p s m args meth c cc nL own ret Ts D cl q dA K E) {n : Int} {v : Int32} (hdg : decode cc pc = .ok (.sipush n, 3)) (hv : (Int16.ofInt n).toInt32 = v) (hp : pc + 3 = pc') (k : sf_G p l e R s m args below meth c Q nL D cl q dA K σ pc' lv (.int v :: st)) : sf_G p l e R s m args below meth c Q nL D cl q dA K σ pc lv st := by
  subst hp
  exact fun H locs ls hP hS hl => lv_sipush X.1.1 X.1.2.1 hdg hv (k H locs ls hP hS hl)
theorem sf_iload_n (X : sf_Cx p s m args meth c cc nL own ret Ts D cl q dA K E) {k : Fin 4} {i j : Nat} {x : Int32} (hdg : decode cc pc = .ok (.iload_n k, 1)) (hi : (k : Nat) = i) (hj : lv[j]? = some (i, .int x)) (hp : pc + 1 = pc') (k : sf_G p l e R s m args below meth c Q nL D cl q dA K σ pc' lv (.int x :: st)) : sf_G p l e R s m args below meth c Q nL D cl q dA K σ pc lv st := by
  subst hp
  exact fun H locs ls hP hS hl => lv_iload_n X.1.1 X.1.2.1 hdg hi (lv_at hl j hj) (k H locs ls hP hS hl)
theorem sf_iload (X : sf_Cx p s m args meth c cc nL own ret Ts D cl q dA K E) {i j : Nat} {x : Int32} (hdg : decode cc pc = .ok (.iload i, 2)) (hj : lv[j]? = some (i, .int x)) (hp : pc + 2 = pc') (k : sf_G p l e R s m args below meth c Q nL D cl q dA K σ pc' lv (.int x :: st)) : sf_G p l e R s m args below meth c Q nL D cl q dA K σ pc lv st := by
  subst hp
  exact fun H locs ls hP hS hl => lv_iload X.1.1 X.1.2.1 hdg (lv_at hl j hj) (k H locs ls hP hS hl)
theorem sf_aload_n (X : sf_Cx p s m args meth c cc nL own ret Ts D cl q dA K E) {k : Fin 4} {i j : Nat} {x : Nat} (hdg : decode cc pc = .ok (.aload_n k, 1)) (hi : (k : Nat) = i) (hj : lv[j]? = some (i, .ref x)) (hp : pc + 1 = pc') (k : sf_G p l e R s m args below meth c Q nL D cl q dA K σ pc' lv (.ref x :: st)) : sf_G p l e R s m args below meth c Q nL D cl q dA K σ pc lv st := by
  subst hp
  exact fun H locs ls hP hS hl => lv_aload_n X.1.1 X.1.2.1 hdg hi (lv_at hl j hj) (k H locs ls hP hS hl)
theorem sf_aload (X : sf_Cx p s m args meth c cc nL own ret Ts D cl q dA K E) {i j : Nat} {x : Nat} (hdg : decode cc pc = .ok (.aload i, 2)) (hj : lv[j]? = some (i, .ref x)) (hp : pc + 2 = pc') (k : sf_G p l e R s m args below meth c Q nL D cl q dA K σ pc' lv (.ref x :: st)) : sf_G p l e R s m args below meth c Q nL D cl q dA K σ pc lv st := by
  subst hp
  exact fun H locs ls hP hS hl => lv_aload X.1.1 X.1.2.1 hdg (lv_at hl j hj) (k H locs ls hP hS hl)
theorem sf_iadd (X : sf_Cx p s m args meth c cc nL own ret Ts D cl q dA K E) {x y : Int32} (hdg : decode cc pc = .ok (.iadd, 1))  (hp : pc + 1 = pc') (k : sf_G p l e R s m args below meth c Q nL D cl q dA K σ pc' lv (.int (x + y) :: st)) : sf_G p l e R s m args below meth c Q nL D cl q dA K σ pc lv (.int y :: .int x :: st) := by
  subst hp
  exact fun H locs ls hP hS hl => lv_iadd X.1.1 X.1.2.1 hdg  (k H locs ls hP hS hl)
theorem sf_isub (X : sf_Cx p s m args meth c cc nL own ret Ts D cl q dA K E) {x y : Int32} (hdg : decode cc pc = .ok (.isub, 1))  (hp : pc + 1 = pc') (k : sf_G p l e R s m args below meth c Q nL D cl q dA K σ pc' lv (.int (x - y) :: st)) : sf_G p l e R s m args below meth c Q nL D cl q dA K σ pc lv (.int y :: .int x :: st) := by
  subst hp
  exact fun H locs ls hP hS hl => lv_isub X.1.1 X.1.2.1 hdg  (k H locs ls hP hS hl)
theorem sf_imul (X : sf_Cx p s m args meth c cc nL own ret Ts D cl q dA K E) {x y : Int32} (hdg : decode cc pc = .ok (.imul, 1))  (hp : pc + 1 = pc') (k : sf_G p l e R s m args below meth c Q nL D cl q dA K σ pc' lv (.int (x * y) :: st)) : sf_G p l e R s m args below meth c Q nL D cl q dA K σ pc lv (.int y :: .int x :: st) := by
  subst hp
  exact fun H locs ls hP hS hl => lv_imul X.1.1 X.1.2.1 hdg  (k H locs ls hP hS hl)
theorem sf_iand (X : sf_Cx p s m args meth c cc nL own ret Ts D cl q dA K E) {x y : Int32} (hdg : decode cc pc = .ok (.iand, 1))  (hp : pc + 1 = pc') (k : sf_G p l e R s m args below meth c Q nL D cl q dA K σ pc' lv (.int (x &&& y) :: st)) : sf_G p l e R s m args below meth c Q nL D cl q dA K σ pc lv (.int y :: .int x :: st) := by
  subst hp
  exact fun H locs ls hP hS hl => lv_iand X.1.1 X.1.2.1 hdg  (k H locs ls hP hS hl)
theorem sf_ior (X : sf_Cx p s m args meth c cc nL own ret Ts D cl q dA K E) {x y : Int32} (hdg : decode cc pc = .ok (.ior, 1))  (hp : pc + 1 = pc') (k : sf_G p l e R s m args below meth c Q nL D cl q dA K σ pc' lv (.int (x ||| y) :: st)) : sf_G p l e R s m args below meth c Q nL D cl q dA K σ pc lv (.int y :: .int x :: st) := by
  subst hp
  exact fun H locs ls hP hS hl => lv_ior X.1.1 X.1.2.1 hdg  (k H locs ls hP hS hl)
theorem sf_ixor (X : sf_Cx p s m args meth c cc nL own ret Ts D cl q dA K E) {x y : Int32} (hdg : decode cc pc = .ok (.ixor, 1))  (hp : pc + 1 = pc') (k : sf_G p l e R s m args below meth c Q nL D cl q dA K σ pc' lv (.int (x ^^^ y) :: st)) : sf_G p l e R s m args below meth c Q nL D cl q dA K σ pc lv (.int y :: .int x :: st) := by
  subst hp
  exact fun H locs ls hP hS hl => lv_ixor X.1.1 X.1.2.1 hdg  (k H locs ls hP hS hl)
theorem sf_ishl (X : sf_Cx p s m args meth c cc nL own ret Ts D cl q dA K E) {x y : Int32} (hdg : decode cc pc = .ok (.ishl, 1))  (hp : pc + 1 = pc') (k : sf_G p l e R s m args below meth c Q nL D cl q dA K σ pc' lv (.int (x <<< (y &&& 31)) :: st)) : sf_G p l e R s m args below meth c Q nL D cl q dA K σ pc lv (.int y :: .int x :: st) := by
  subst hp
  exact fun H locs ls hP hS hl => lv_ishl X.1.1 X.1.2.1 hdg  (k H locs ls hP hS hl)
theorem sf_ishr (X : sf_Cx p s m args meth c cc nL own ret Ts D cl q dA K E) {x y : Int32} (hdg : decode cc pc = .ok (.ishr, 1))  (hp : pc + 1 = pc') (k : sf_G p l e R s m args below meth c Q nL D cl q dA K σ pc' lv (.int (x >>> (y &&& 31)) :: st)) : sf_G p l e R s m args below meth c Q nL D cl q dA K σ pc lv (.int y :: .int x :: st) := by
  subst hp
  exact fun H locs ls hP hS hl => lv_ishr X.1.1 X.1.2.1 hdg  (k H locs ls hP hS hl)
theorem sf_irem (X : sf_Cx p s m args meth c cc nL own ret Ts D cl q dA K E) {x y : Int32} (hdg : decode cc pc = .ok (.irem, 1)) (hne : ¬ y = 0) (hp : pc + 1 = pc') (k : sf_G p l e R s m args below meth c Q nL D cl q dA K σ pc' lv (.int (x - x / y * y) :: st)) : sf_G p l e R s m args below meth c Q nL D cl q dA K σ pc lv (.int y :: .int x :: st) := by
  subst hp
  exact fun H locs ls hP hS hl => lv_irem X.1.1 X.1.2.1 hdg hne (k H locs ls hP hS hl)
theorem sf_ineg (X : sf_Cx p s m args meth c cc nL own ret Ts D cl q dA K E) {x : Int32} (hdg : decode cc pc = .ok (.ineg, 1))  (hp : pc + 1 = pc') (k : sf_G p l e R s m args below meth c Q nL D cl q dA K σ pc' lv (.int (-x) :: st)) : sf_G p l e R s m args below meth c Q nL D cl q dA K σ pc lv (.int x :: st) := by
  subst hp
  exact fun H locs ls hP hS hl => lv_ineg X.1.1 X.1.2.1 hdg  (k H locs ls hP hS hl)
theorem sf_i2c (X : sf_Cx p s m args meth c cc nL own ret Ts D cl q dA K E) {x : Int32} (hdg : decode cc pc = .ok (.i2c, 1))  (hp : pc + 1 = pc') (k : sf_G p l e R s m args below meth c Q nL D cl q dA K σ pc' lv (.int (x.toUInt32 % 65536).toInt32 :: st)) : sf_G p l e R s m args below meth c Q nL D cl q dA K σ pc lv (.int x :: st) := by
  subst hp
  exact fun H locs ls hP hS hl => lv_i2c X.1.1 X.1.2.1 hdg rfl (k H locs ls hP hS hl)
theorem sf_dup (X : sf_Cx p s m args meth c cc nL own ret Ts D cl q dA K E) {va : Value} (hdg : decode cc pc = .ok (.dup, 1)) (hva : va.category = 1) (hp : pc + 1 = pc') (k : sf_G p l e R s m args below meth c Q nL D cl q dA K σ pc' lv (va :: va :: st)) : sf_G p l e R s m args below meth c Q nL D cl q dA K σ pc lv (va :: st) := by
  subst hp
  exact fun H locs ls hP hS hl => lv_dup X.1.1 X.1.2.1 hdg hva (k H locs ls hP hS hl)
theorem sf_pop (X : sf_Cx p s m args meth c cc nL own ret Ts D cl q dA K E) {va : Value} (hdg : decode cc pc = .ok (.pop, 1)) (hva : va.category = 1) (hp : pc + 1 = pc') (k : sf_G p l e R s m args below meth c Q nL D cl q dA K σ pc' lv st) : sf_G p l e R s m args below meth c Q nL D cl q dA K σ pc lv (va :: st) := by
  subst hp
  exact fun H locs ls hP hS hl => lv_pop X.1.1 X.1.2.1 hdg hva (k H locs ls hP hS hl)
theorem sf_dup_x1 (X : sf_Cx p s m args meth c cc nL own ret Ts D cl q dA K E) {va vb : Value} (hdg : decode cc pc = .ok (.dup_x1, 1)) (hva : va.category = 1) (hvb : vb.category = 1) (hp : pc + 1 = pc') (k : sf_G p l e R s m args below meth c Q nL D cl q dA K σ pc' lv (va :: vb :: va :: st)) : sf_G p l e R s m args below meth c Q nL D cl q dA K σ pc lv (va :: vb :: st) := by
  subst hp
  exact fun H locs ls hP hS hl => lv_dup_x1 X.1.1 X.1.2.1 hdg hva hvb (k H locs ls hP hS hl)
theorem sf_dup_x2 (X : sf_Cx p s m args meth c cc nL own ret Ts D cl q dA K E) {va vb vd : Value} (hdg : decode cc pc = .ok (.dup_x2, 1)) (hva : va.category = 1) (hvb : vb.category = 1) (hvd : vd.category = 1) (hp : pc + 1 = pc') (k : sf_G p l e R s m args below meth c Q nL D cl q dA K σ pc' lv (va :: vb :: vd :: va :: st)) : sf_G p l e R s m args below meth c Q nL D cl q dA K σ pc lv (va :: vb :: vd :: st) := by
  subst hp
  exact fun H locs ls hP hS hl => lv_dup_x2 X.1.1 X.1.2.1 hdg hva hvb hvd (k H locs ls hP hS hl)
theorem sf_dup2 (X : sf_Cx p s m args meth c cc nL own ret Ts D cl q dA K E) {va vb : Value} (hdg : decode cc pc = .ok (.dup2, 1)) (hva : va.category = 1) (hvb : vb.category = 1) (hp : pc + 1 = pc') (k : sf_G p l e R s m args below meth c Q nL D cl q dA K σ pc' lv (va :: vb :: va :: vb :: st)) : sf_G p l e R s m args below meth c Q nL D cl q dA K σ pc lv (va :: vb :: st) := by
  subst hp
  exact fun H locs ls hP hS hl => lv_dup2_11 X.1.1 X.1.2.1 hdg hva hvb (k H locs ls hP hS hl)
theorem sf_ldc (X : sf_Cx p s m args meth c cc nL own ret Ts D cl q dA K E) {index : Nat} {v : Int32} (hconst : (Jvm.Cond.constant own index v).before args s = true) (hdg : decode cc pc = .ok (.ldc index, 2)) (hp : pc + 2 = pc') (k : sf_G p l e R s m args below meth c Q nL D cl q dA K σ pc' lv (.int v :: st)) : sf_G p l e R s m args below meth c Q nL D cl q dA K σ pc lv st := by
  subst hp
  exact fun H locs ls hP hS hl => lv_ldc X.1.1 X.1.2.1 X.1.2.2.2.1 hconst hdg (k H locs ls hP hS hl)
theorem sf_istore_n (X : sf_Cx p s m args meth c cc nL own ret Ts D cl q dA K E) {k : Fin 4} {i : Nat} {x : Int32} {lv' : List (Nat × Value)} (hdg : decode cc pc = .ok (.istore_n k, 1)) (hi : (k : Nat) = i) (hn : i < nL) (hl' : (i, Value.int x) :: lv.filter (fun q => !(q.1 == i) && !(q.1 + 1 == i && q.2.category == 2)) = lv') (hp : pc + 1 = pc') (k : sf_G p l e R s m args below meth c Q nL D cl q dA K σ pc' lv' st) : sf_G p l e R s m args below meth c Q nL D cl q dA K σ pc lv (Value.int x :: st) := by
  subst hp
  exact fun H locs ls hP hS hl => lv_istore_n X.1.1 X.1.2.1 hdg hi hl hn hl' (fun ls' hls' => k H locs ls' hP hS hls')
theorem sf_istore (X : sf_Cx p s m args meth c cc nL own ret Ts D cl q dA K E) {i : Nat} {x : Int32} {lv' : List (Nat × Value)} (hdg : decode cc pc = .ok (.istore i, 2))  (hn : i < nL) (hl' : (i, Value.int x) :: lv.filter (fun q => !(q.1 == i) && !(q.1 + 1 == i && q.2.category == 2)) = lv') (hp : pc + 2 = pc') (k : sf_G p l e R s m args below meth c Q nL D cl q dA K σ pc' lv' st) : sf_G p l e R s m args below meth c Q nL D cl q dA K σ pc lv (Value.int x :: st) := by
  subst hp
  exact fun H locs ls hP hS hl => lv_istore X.1.1 X.1.2.1 hdg  hl hn hl' (fun ls' hls' => k H locs ls' hP hS hls')
theorem sf_astore_n (X : sf_Cx p s m args meth c cc nL own ret Ts D cl q dA K E) {k : Fin 4} {i : Nat} {x : Nat} {lv' : List (Nat × Value)} (hdg : decode cc pc = .ok (.astore_n k, 1)) (hi : (k : Nat) = i) (hn : i < nL) (hl' : (i, Value.ref x) :: lv.filter (fun q => !(q.1 == i) && !(q.1 + 1 == i && q.2.category == 2)) = lv') (hp : pc + 1 = pc') (k : sf_G p l e R s m args below meth c Q nL D cl q dA K σ pc' lv' st) : sf_G p l e R s m args below meth c Q nL D cl q dA K σ pc lv (Value.ref x :: st) := by
  subst hp
  exact fun H locs ls hP hS hl => lv_astore_n X.1.1 X.1.2.1 hdg hi hl hn hl' (fun ls' hls' => k H locs ls' hP hS hls')
theorem sf_astore (X : sf_Cx p s m args meth c cc nL own ret Ts D cl q dA K E) {i : Nat} {x : Nat} {lv' : List (Nat × Value)} (hdg : decode cc pc = .ok (.astore i, 2))  (hn : i < nL) (hl' : (i, Value.ref x) :: lv.filter (fun q => !(q.1 == i) && !(q.1 + 1 == i && q.2.category == 2)) = lv') (hp : pc + 2 = pc') (k : sf_G p l e R s m args below meth c Q nL D cl q dA K σ pc' lv' st) : sf_G p l e R s m args below meth c Q nL D cl q dA K σ pc lv (Value.ref x :: st) := by
  subst hp
  exact fun H locs ls hP hS hl => lv_astore X.1.1 X.1.2.1 hdg  hl hn hl' (fun ls' hls' => k H locs ls' hP hS hls')
theorem sf_iinc (X : sf_Cx p s m args meth c cc nL own ret Ts D cl q dA K E) {i j : Nat} {n : Int} {x d : Int32} {lv' : Int32 → List (Nat × Value)} (hdg : decode cc pc = .ok (.iinc i n, 3)) (hj : lv[j]? = some (i, .int x)) (hd : Int32.ofInt n = d) (hn : i < nL) (hl' : ∀ y : Int32, (i, Value.int y) :: lv.filter (fun q => !(q.1 == i) && !(q.1 + 1 == i && q.2.category == 2)) = lv' y) (hp : pc + 3 = pc') (k : ∀ y : Int32, y = x + d → sf_G p l e R s m args below meth c Q nL D cl q dA K σ pc' (lv' y) st) : sf_G p l e R s m args below meth c Q nL D cl q dA K σ pc lv st := by
  subst hp
  exact fun H locs ls hP hS hl => lv_iinc X.1.1 X.1.2.1 hdg hl hj (v := x + d) (by rw [hd]) hn (hl' _) (fun ls' hls' => k _ rfl H locs ls' hP hS hls')
theorem sf_top {x : Int32} (k : ∀ y : Int32, y = x → sf_G p l e R s m args below meth c Q nL D cl q dA K σ pc lv (.int y :: st)) : sf_G p l e R s m args below meth c Q nL D cl q dA K σ pc lv (.int x :: st) := k x rfl
theorem sf_loc {lv' : List (Nat × Value)} (ks : List Nat) (h : lv_pick lv ks = lv') (k : sf_G p l e R s m args below meth c Q nL D cl q dA K σ pc lv' st) : sf_G p l e R s m args below meth c Q nL D cl q dA K σ pc lv st := fun H locs ls hP hS hl => k H locs ls hP hS (lv_sub hl ks h)
theorem sf_if_eq (X : sf_Cx p s m args meth c cc nL own ret Ts D cl q dA K E) {x : Int32} {off : Int} {tgt : Nat} (hdg : decode cc pc = .ok (.ifCond .eq off, 3)) (ht : (pc : Int) + off = (tgt : Int)) (hp : pc + 3 = pc') (kt : x = 0 → sf_G p l e R s m args below meth c Q nL D cl q dA K σ tgt lv st) (kf : ¬ x = 0 → sf_G p l e R s m args below meth c Q nL D cl q dA K σ pc' lv st) : sf_G p l e R s m args below meth c Q nL D cl q dA K σ pc lv (.int x :: st) := by
  subst hp
  exact fun H locs ls hP hS hl => lv_if_eq X.1.1 X.1.2.1 hdg ht (fun h => kt h H locs ls hP hS hl) (fun h => kf h H locs ls hP hS hl)
theorem sf_icmp_eq (X : sf_Cx p s m args meth c cc nL own ret Ts D cl q dA K E) {x y : Int32} {off : Int} {tgt : Nat} (hdg : decode cc pc = .ok (.if_icmp .eq off, 3)) (ht : (pc : Int) + off = (tgt : Int)) (hp : pc + 3 = pc') (kt : x = y → sf_G p l e R s m args below meth c Q nL D cl q dA K σ tgt lv st) (kf : ¬ x = y → sf_G p l e R s m args below meth c Q nL D cl q dA K σ pc' lv st) : sf_G p l e R s m args below meth c Q nL D cl q dA K σ pc lv (.int y :: .int x :: st) := by
  subst hp
  exact fun H locs ls hP hS hl => lv_icmp_eq X.1.1 X.1.2.1 hdg ht (fun h => kt h H locs ls hP hS hl) (fun h => kf h H locs ls hP hS hl)
theorem sf_if_ne (X : sf_Cx p s m args meth c cc nL own ret Ts D cl q dA K E) {x : Int32} {off : Int} {tgt : Nat} (hdg : decode cc pc = .ok (.ifCond .ne off, 3)) (ht : (pc : Int) + off = (tgt : Int)) (hp : pc + 3 = pc') (kt : ¬ x = 0 → sf_G p l e R s m args below meth c Q nL D cl q dA K σ tgt lv st) (kf : x = 0 → sf_G p l e R s m args below meth c Q nL D cl q dA K σ pc' lv st) : sf_G p l e R s m args below meth c Q nL D cl q dA K σ pc lv (.int x :: st) := by
  subst hp
  exact fun H locs ls hP hS hl => lv_if_ne X.1.1 X.1.2.1 hdg ht (fun h => kt h H locs ls hP hS hl) (fun h => kf h H locs ls hP hS hl)
theorem sf_icmp_ne (X : sf_Cx p s m args meth c cc nL own ret Ts D cl q dA K E) {x y : Int32} {off : Int} {tgt : Nat} (hdg : decode cc pc = .ok (.if_icmp .ne off, 3)) (ht : (pc : Int) + off = (tgt : Int)) (hp : pc + 3 = pc') (kt : ¬ x = y → sf_G p l e R s m args below meth c Q nL D cl q dA K σ tgt lv st) (kf : x = y → sf_G p l e R s m args below meth c Q nL D cl q dA K σ pc' lv st) : sf_G p l e R s m args below meth c Q nL D cl q dA K σ pc lv (.int y :: .int x :: st) := by
  subst hp
  exact fun H locs ls hP hS hl => lv_icmp_ne X.1.1 X.1.2.1 hdg ht (fun h => kt h H locs ls hP hS hl) (fun h => kf h H locs ls hP hS hl)
theorem sf_if_lt (X : sf_Cx p s m args meth c cc nL own ret Ts D cl q dA K E) {x : Int32} {off : Int} {tgt : Nat} (hdg : decode cc pc = .ok (.ifCond .lt off, 3)) (ht : (pc : Int) + off = (tgt : Int)) (hp : pc + 3 = pc') (kt : x < 0 → sf_G p l e R s m args below meth c Q nL D cl q dA K σ tgt lv st) (kf : ¬ x < 0 → sf_G p l e R s m args below meth c Q nL D cl q dA K σ pc' lv st) : sf_G p l e R s m args below meth c Q nL D cl q dA K σ pc lv (.int x :: st) := by
  subst hp
  exact fun H locs ls hP hS hl => lv_if_lt X.1.1 X.1.2.1 hdg ht (fun h => kt h H locs ls hP hS hl) (fun h => kf h H locs ls hP hS hl)
theorem sf_icmp_lt (X : sf_Cx p s m args meth c cc nL own ret Ts D cl q dA K E) {x y : Int32} {off : Int} {tgt : Nat} (hdg : decode cc pc = .ok (.if_icmp .lt off, 3)) (ht : (pc : Int) + off = (tgt : Int)) (hp : pc + 3 = pc') (kt : x < y → sf_G p l e R s m args below meth c Q nL D cl q dA K σ tgt lv st) (kf : ¬ x < y → sf_G p l e R s m args below meth c Q nL D cl q dA K σ pc' lv st) : sf_G p l e R s m args below meth c Q nL D cl q dA K σ pc lv (.int y :: .int x :: st) := by
  subst hp
  exact fun H locs ls hP hS hl => lv_icmp_lt X.1.1 X.1.2.1 hdg ht (fun h => kt h H locs ls hP hS hl) (fun h => kf h H locs ls hP hS hl)
theorem sf_if_ge (X : sf_Cx p s m args meth c cc nL own ret Ts D cl q dA K E) {x : Int32} {off : Int} {tgt : Nat} (hdg : decode cc pc = .ok (.ifCond .ge off, 3)) (ht : (pc : Int) + off = (tgt : Int)) (hp : pc + 3 = pc') (kt : 0 ≤ x → sf_G p l e R s m args below meth c Q nL D cl q dA K σ tgt lv st) (kf : ¬ 0 ≤ x → sf_G p l e R s m args below meth c Q nL D cl q dA K σ pc' lv st) : sf_G p l e R s m args below meth c Q nL D cl q dA K σ pc lv (.int x :: st) := by
  subst hp
  exact fun H locs ls hP hS hl => lv_if_ge X.1.1 X.1.2.1 hdg ht (fun h => kt h H locs ls hP hS hl) (fun h => kf h H locs ls hP hS hl)
theorem sf_icmp_ge (X : sf_Cx p s m args meth c cc nL own ret Ts D cl q dA K E) {x y : Int32} {off : Int} {tgt : Nat} (hdg : decode cc pc = .ok (.if_icmp .ge off, 3)) (ht : (pc : Int) + off = (tgt : Int)) (hp : pc + 3 = pc') (kt : y ≤ x → sf_G p l e R s m args below meth c Q nL D cl q dA K σ tgt lv st) (kf : ¬ y ≤ x → sf_G p l e R s m args below meth c Q nL D cl q dA K σ pc' lv st) : sf_G p l e R s m args below meth c Q nL D cl q dA K σ pc lv (.int y :: .int x :: st) := by
  subst hp
  exact fun H locs ls hP hS hl => lv_icmp_ge X.1.1 X.1.2.1 hdg ht (fun h => kt h H locs ls hP hS hl) (fun h => kf h H locs ls hP hS hl)
theorem sf_if_gt (X : sf_Cx p s m args meth c cc nL own ret Ts D cl q dA K E) {x : Int32} {off : Int} {tgt : Nat} (hdg : decode cc pc = .ok (.ifCond .gt off, 3)) (ht : (pc : Int) + off = (tgt : Int)) (hp : pc + 3 = pc') (kt : 0 < x → sf_G p l e R s m args below meth c Q nL D cl q dA K σ tgt lv st) (kf : ¬ 0 < x → sf_G p l e R s m args below meth c Q nL D cl q dA K σ pc' lv st) : sf_G p l e R s m args below meth c Q nL D cl q dA K σ pc lv (.int x :: st) := by
  subst hp
  exact fun H locs ls hP hS hl => lv_if_gt X.1.1 X.1.2.1 hdg ht (fun h => kt h H locs ls hP hS hl) (fun h => kf h H locs ls hP hS hl)
theorem sf_icmp_gt (X : sf_Cx p s m args meth c cc nL own ret Ts D cl q dA K E) {x y : Int32} {off : Int} {tgt : Nat} (hdg : decode cc pc = .ok (.if_icmp .gt off, 3)) (ht : (pc : Int) + off = (tgt : Int)) (hp : pc + 3 = pc') (kt : y < x → sf_G p l e R s m args below meth c Q nL D cl q dA K σ tgt lv st) (kf : ¬ y < x → sf_G p l e R s m args below meth c Q nL D cl q dA K σ pc' lv st) : sf_G p l e R s m args below meth c Q nL D cl q dA K σ pc lv (.int y :: .int x :: st) := by
  subst hp
  exact fun H locs ls hP hS hl => lv_icmp_gt X.1.1 X.1.2.1 hdg ht (fun h => kt h H locs ls hP hS hl) (fun h => kf h H locs ls hP hS hl)
theorem sf_if_le (X : sf_Cx p s m args meth c cc nL own ret Ts D cl q dA K E) {x : Int32} {off : Int} {tgt : Nat} (hdg : decode cc pc = .ok (.ifCond .le off, 3)) (ht : (pc : Int) + off = (tgt : Int)) (hp : pc + 3 = pc') (kt : x ≤ 0 → sf_G p l e R s m args below meth c Q nL D cl q dA K σ tgt lv st) (kf : ¬ x ≤ 0 → sf_G p l e R s m args below meth c Q nL D cl q dA K σ pc' lv st) : sf_G p l e R s m args below meth c Q nL D cl q dA K σ pc lv (.int x :: st) := by
  subst hp
  exact fun H locs ls hP hS hl => lv_if_le X.1.1 X.1.2.1 hdg ht (fun h => kt h H locs ls hP hS hl) (fun h => kf h H locs ls hP hS hl)
theorem sf_icmp_le (X : sf_Cx p s m args meth c cc nL own ret Ts D cl q dA K E) {x y : Int32} {off : Int} {tgt : Nat} (hdg : decode cc pc = .ok (.if_icmp .le off, 3)) (ht : (pc : Int) + off = (tgt : Int)) (hp : pc + 3 = pc') (kt : x ≤ y → sf_G p l e R s m args below meth c Q nL D cl q dA K σ tgt lv st) (kf : ¬ x ≤ y → sf_G p l e R s m args below meth c Q nL D cl q dA K σ pc' lv st) : sf_G p l e R s m args below meth c Q nL D cl q dA K σ pc lv (.int y :: .int x :: st) := by
  subst hp
  exact fun H locs ls hP hS hl => lv_icmp_le X.1.1 X.1.2.1 hdg ht (fun h => kt h H locs ls hP hS hl) (fun h => kf h H locs ls hP hS hl)
theorem sf_goto (X : sf_Cx p s m args meth c cc nL own ret Ts D cl q dA K E) {off : Int} {tgt : Nat} (hdg : decode cc pc = .ok (.goto off, 3)) (ht : (pc : Int) + off = (tgt : Int)) (k : sf_G p l e R s m args below meth c Q nL D cl q dA K σ tgt lv st) : sf_G p l e R s m args below meth c Q nL D cl q dA K σ pc lv st := fun H locs ls hP hS hl => lv_goto X.1.1 X.1.2.1 hdg ht (k H locs ls hP hS hl)
theorem sf_getR (X : sf_Cx p s m args meth c cc nL own ret Ts D cl q dA K E) {ref C : String} {T : u_T} {N ci index k j : Nat} {fs : List (Option Nat)} {k' : Nat} (hin : ∀ w ∈ u_ws C T N, w ∈ Ts) (hc : cl[ci]? = some (C, T, N)) (hk : K[k]? = some (4, ci, fs)) (hj : j < N) (hlink : (Cond.fieldLink own index ref (T j).2.1 (T j).2.2.1).before args s = true) (hsame : ∀ x, s.fieldFound? (T j).1 (T j).2.1 (T j).2.2.1 = some x → s.fieldFound? ref (T j).2.1 (T j).2.2.1 = some x) (hv : fs[j]? = some (some k')) (hdg : decode cc pc = .ok (.getfield index, 3)) (hp : pc + 3 = pc') (kk : sf_G p l e R s m args below meth c Q nL D cl q dA K σ pc' lv (.ref (q k') :: st)) : sf_G p l e R s m args below meth c Q nL D cl q dA K σ pc lv (.ref (q k) :: st) := by
  subst hp
  exact fun H locs ls hP hS hl => va_get X.1.1 X.1.2.1 X.1.2.2.2.2 hin X.1.2.2.2.1 X.2.1 hP k (sf_w_at hk) hc j hj hlink hsame (v := .ref (q k')) (by rw [List.getElem?_mapIdx, hv]; rfl) hdg (kk H locs ls hP hS hl)
theorem sf_getI (X : sf_Cx p s m args meth c cc nL own ret Ts D cl q dA K E) {ref C : String} {T : u_T} {N ci index k j : Nat} {fs : List (Option Nat)} (hin : ∀ w ∈ u_ws C T N, w ∈ Ts) (hc : cl[ci]? = some (C, T, N)) (hk : K[k]? = some (4, ci, fs)) (hj : j < N) (hlink : (Cond.fieldLink own index ref (T j).2.1 (T j).2.2.1).before args s = true) (hsame : ∀ x, s.fieldFound? (T j).1 (T j).2.1 (T j).2.2.1 = some x → s.fieldFound? ref (T j).2.1 (T j).2.2.1 = some x) (hv : fs[j]? = some none) (hdg : decode cc pc = .ok (.getfield index, 3)) (hp : pc + 3 = pc') (kk : sf_G p l e R s m args below meth c Q nL D cl q dA K σ pc' lv (.int (σ k j) :: st)) : sf_G p l e R s m args below meth c Q nL D cl q dA K σ pc lv (.ref (q k) :: st) := by
  subst hp
  exact fun H locs ls hP hS hl => va_get X.1.1 X.1.2.1 X.1.2.2.2.2 hin X.1.2.2.2.1 X.2.1 hP k (sf_w_at hk) hc j hj hlink hsame (v := .int (σ k j)) (by rw [List.getElem?_mapIdx, hv]; rfl) hdg (kk H locs ls hP hS hl)
theorem sf_putI (X : sf_Cx p s m args meth c cc nL own ret Ts D cl q dA K E) {ref C : String} {T : u_T} {N ci index k j : Nat} {fs : List (Option Nat)} (hin : ∀ w ∈ u_ws C T N, w ∈ Ts) (hc : cl[ci]? = some (C, T, N)) (hk : K[k]? = some (4, ci, fs)) (hj : j < N) (hlink : (Cond.fieldLink own index ref (T j).2.1 (T j).2.2.1).before args s = true) (hsame : ∀ x, s.fieldFound? (T j).1 (T j).2.1 (T j).2.2.1 = some x → s.fieldFound? ref (T j).2.1 (T j).2.2.1 = some x) (ty0 : Nat → FieldType) (hty : ∀ k, k < N → parseFieldDescriptor (T k).2.2.1 = some (ty0 k)) (hnm : ∀ a, a < N → ∀ b, b < N → a ≠ b → (T a).2.1 ≠ (T b).2.1) (hfin : (T j).2.2.2 = false) {ty : FieldType} {v : Int32} (hd : parseFieldDescriptor (T j).2.2.1 = some ty) (hn : narrow ty (.int v) = .int v) (hfit : fits ty (.int v) = true) (hv : fs[j]? = some none) (hdg : decode cc pc = .ok (.putfield index, 3)) (hp : pc + 3 = pc') (kk : ∀ τ : sf_St, τ = sf_up σ k j v → sf_G p l e R s m args below meth c Q nL D cl q dA K τ pc' lv st) : sf_G p l e R s m args below meth c Q nL D cl q dA K σ pc lv (.int v :: .ref (q k) :: st) := by
  subst hp
  intro H locs ls hP hS hl
  refine va_put X.1.1 X.1.2.1 X.1.2.2.2.2 hin ty0 hty hnm X.1.2.2.2.1 X.2.1 hP (sf_w_D X.2.2.1) hS k (sf_w_at hk) hc j hj hlink hsame hfin hd hn hfit (by rw [List.length_mapIdx]; exact (List.getElem?_eq_some_iff.mp hv).1) hdg (fun H1 locs1 hP1 hD1 hS1 => ?_)
  rw [sf_fs_set hv] at hP1
  have hs := sf_w_set (q := q) (dA := dA) (σ := σ) (upd (σ k) j v) hk
  rw [sf_ce_o] at hs
  rw [hs] at hP1
  exact kk _ rfl H1 locs1 ls hP1 hS1 hl
theorem sf_getRN (X : sf_Cx p s m args meth c cc nL own ret Ts D cl q dA K E) {host : String} {ref C : String} {T : u_T} {N ci index k j : Nat} {fs : List (Option Nat)} {k' : Nat} (hin : ∀ w ∈ u_ws C T N, w ∈ Ts) (hc : cl[ci]? = some (C, T, N)) (hk : K[k]? = some (4, ci, fs)) (hj : j < N) (hlink : (Cond.fieldLinkNest own index ref (T j).2.1 (T j).2.2.1 host).before args s = true) (hsame : ∀ x, s.fieldFound? (T j).1 (T j).2.1 (T j).2.2.1 = some x → s.fieldFound? ref (T j).2.1 (T j).2.2.1 = some x) (hv : fs[j]? = some (some k')) (hdg : decode cc pc = .ok (.getfield index, 3)) (hp : pc + 3 = pc') (kk : sf_G p l e R s m args below meth c Q nL D cl q dA K σ pc' lv (.ref (q k') :: st)) : sf_G p l e R s m args below meth c Q nL D cl q dA K σ pc lv (.ref (q k) :: st) := by
  subst hp
  exact fun H locs ls hP hS hl => va_getN X.1.1 X.1.2.1 X.1.2.2.2.2 hin X.1.2.2.2.1 X.2.1 hP k (sf_w_at hk) hc j hj hlink hsame (v := .ref (q k')) (by rw [List.getElem?_mapIdx, hv]; rfl) hdg (kk H locs ls hP hS hl)
theorem sf_getIN (X : sf_Cx p s m args meth c cc nL own ret Ts D cl q dA K E) {host : String} {ref C : String} {T : u_T} {N ci index k j : Nat} {fs : List (Option Nat)} (hin : ∀ w ∈ u_ws C T N, w ∈ Ts) (hc : cl[ci]? = some (C, T, N)) (hk : K[k]? = some (4, ci, fs)) (hj : j < N) (hlink : (Cond.fieldLinkNest own index ref (T j).2.1 (T j).2.2.1 host).before args s = true) (hsame : ∀ x, s.fieldFound? (T j).1 (T j).2.1 (T j).2.2.1 = some x → s.fieldFound? ref (T j).2.1 (T j).2.2.1 = some x) (hv : fs[j]? = some none) (hdg : decode cc pc = .ok (.getfield index, 3)) (hp : pc + 3 = pc') (kk : sf_G p l e R s m args below meth c Q nL D cl q dA K σ pc' lv (.int (σ k j) :: st)) : sf_G p l e R s m args below meth c Q nL D cl q dA K σ pc lv (.ref (q k) :: st) := by
  subst hp
  exact fun H locs ls hP hS hl => va_getN X.1.1 X.1.2.1 X.1.2.2.2.2 hin X.1.2.2.2.1 X.2.1 hP k (sf_w_at hk) hc j hj hlink hsame (v := .int (σ k j)) (by rw [List.getElem?_mapIdx, hv]; rfl) hdg (kk H locs ls hP hS hl)
theorem sf_putIN (X : sf_Cx p s m args meth c cc nL own ret Ts D cl q dA K E) {host : String} {ref C : String} {T : u_T} {N ci index k j : Nat} {fs : List (Option Nat)} (hin : ∀ w ∈ u_ws C T N, w ∈ Ts) (hc : cl[ci]? = some (C, T, N)) (hk : K[k]? = some (4, ci, fs)) (hj : j < N) (hlink : (Cond.fieldLinkNest own index ref (T j).2.1 (T j).2.2.1 host).before args s = true) (hsame : ∀ x, s.fieldFound? (T j).1 (T j).2.1 (T j).2.2.1 = some x → s.fieldFound? ref (T j).2.1 (T j).2.2.1 = some x) (ty0 : Nat → FieldType) (hty : ∀ k, k < N → parseFieldDescriptor (T k).2.2.1 = some (ty0 k)) (hnm : ∀ a, a < N → ∀ b, b < N → a ≠ b → (T a).2.1 ≠ (T b).2.1) (hfin : (T j).2.2.2 = false) {ty : FieldType} {v : Int32} (hd : parseFieldDescriptor (T j).2.2.1 = some ty) (hn : narrow ty (.int v) = .int v) (hfit : fits ty (.int v) = true) (hv : fs[j]? = some none) (hdg : decode cc pc = .ok (.putfield index, 3)) (hp : pc + 3 = pc') (kk : ∀ τ : sf_St, τ = sf_up σ k j v → sf_G p l e R s m args below meth c Q nL D cl q dA K τ pc' lv st) : sf_G p l e R s m args below meth c Q nL D cl q dA K σ pc lv (.int v :: .ref (q k) :: st) := by
  subst hp
  intro H locs ls hP hS hl
  refine va_putN X.1.1 X.1.2.1 X.1.2.2.2.2 hin ty0 hty hnm X.1.2.2.2.1 X.2.1 hP (sf_w_D X.2.2.1) hS k (sf_w_at hk) hc j hj hlink hsame hfin hd hn hfit (by rw [List.length_mapIdx]; exact (List.getElem?_eq_some_iff.mp hv).1) hdg (fun H1 locs1 hP1 hD1 hS1 => ?_)
  rw [sf_fs_set hv] at hP1
  have hs := sf_w_set (q := q) (dA := dA) (σ := σ) (upd (σ k) j v) hk
  rw [sf_ce_o] at hs
  rw [hs] at hP1
  exact kk _ rfl H1 locs1 ls hP1 hS1 hl
theorem sf_iald (X : sf_Cx p s m args meth c cc nL own ret Ts D cl q dA K E) {k n : Nat} {i : Int32} (hk : K[k]? = some (0, n, [])) (hin : vp_in i n) (hdg : decode cc pc = .ok (.iaload, 1)) (hp : pc + 1 = pc') (kk : sf_G p l e R s m args below meth c Q nL D cl q dA K σ pc' lv (.int (σ k (sf_ix i)) :: st)) : sf_G p l e R s m args below meth c Q nL D cl q dA K σ pc lv (.int i :: .ref (q k) :: st) := by
  subst hp
  exact fun H locs ls hP hS hl => va_iald X.1.1 X.1.2.1 X.2.1 hP k 0 (sf_w_at hk) (rfl : (sf_tys dA)[0]? = some (dA 0, .int)) hin hdg (kk H locs ls hP hS hl)
theorem sf_zald (X : sf_Cx p s m args meth c cc nL own ret Ts D cl q dA K E) {k n : Nat} {i : Int32} (hk : K[k]? = some (1, n, [])) (hin : vp_in i n) (hdg : decode cc pc = .ok (.baload, 1)) (hp : pc + 1 = pc') (kk : sf_G p l e R s m args below meth c Q nL D cl q dA K σ pc' lv (.int (σ k (sf_ix i)) :: st)) : sf_G p l e R s m args below meth c Q nL D cl q dA K σ pc lv (.int i :: .ref (q k) :: st) := by
  subst hp
  exact fun H locs ls hP hS hl => va_zald X.1.1 X.1.2.1 X.2.1 hP k 1 (sf_w_at hk) (rfl : (sf_tys dA)[1]? = some (dA 1, .boolean)) hin hdg (kk H locs ls hP hS hl)
theorem sf_cald (X : sf_Cx p s m args meth c cc nL own ret Ts D cl q dA K E) {k n : Nat} {i : Int32} (hk : K[k]? = some (2, n, [])) (hin : vp_in i n) (hdg : decode cc pc = .ok (.caload, 1)) (hp : pc + 1 = pc') (kk : sf_G p l e R s m args below meth c Q nL D cl q dA K σ pc' lv (.int (σ k (sf_ix i)) :: st)) : sf_G p l e R s m args below meth c Q nL D cl q dA K σ pc lv (.int i :: .ref (q k) :: st) := by
  subst hp
  exact fun H locs ls hP hS hl => va_cald X.1.1 X.1.2.1 X.2.1 hP k 2 (sf_w_at hk) (rfl : (sf_tys dA)[2]? = some (dA 2, .char)) hin hdg (kk H locs ls hP hS hl)
theorem sf_iast (X : sf_Cx p s m args meth c cc nL own ret Ts D cl q dA K E) {k n : Nat} {i x : Int32} (hk : K[k]? = some (0, n, [])) (hin : vp_in i n) (hdg : decode cc pc = .ok (.iastore, 1)) (hp : pc + 1 = pc') (kk : ∀ τ : sf_St, τ = sf_up σ k (sf_ix i) x → sf_G p l e R s m args below meth c Q nL D cl q dA K τ pc' lv st) : sf_G p l e R s m args below meth c Q nL D cl q dA K σ pc lv (.int x :: .int i :: .ref (q k) :: st) := by
  subst hp
  intro H locs ls hP hS hl
  refine va_iast X.1.1 X.1.2.1 X.2.1 hP (sf_w_D X.2.2.1) hS k 0 (sf_w_at hk) (rfl : (sf_tys dA)[0]? = some (dA 0, .int)) hin hdg (fun H1 locs1 hP1 hD1 hS1 => ?_)
  have hs := sf_w_set (q := q) (dA := dA) (σ := σ) (upd (σ k) i.toNatClampNeg x) hk
  rw [sf_ce_a (by decide)] at hs
  rw [hs] at hP1
  exact kk _ rfl H1 locs1 ls hP1 hS1 hl
theorem sf_zast (X : sf_Cx p s m args meth c cc nL own ret Ts D cl q dA K E) {k n : Nat} {i x : Int32} (hk : K[k]? = some (1, n, [])) (hin : vp_in i n) (hdg : decode cc pc = .ok (.bastore, 1)) (hp : pc + 1 = pc') (kk : ∀ τ : sf_St, τ = sf_up σ k (sf_ix i) (vp_nar .boolean x) → sf_G p l e R s m args below meth c Q nL D cl q dA K τ pc' lv st) : sf_G p l e R s m args below meth c Q nL D cl q dA K σ pc lv (.int x :: .int i :: .ref (q k) :: st) := by
  subst hp
  intro H locs ls hP hS hl
  refine va_zast X.1.1 X.1.2.1 X.2.1 hP (sf_w_D X.2.2.1) hS k 1 (sf_w_at hk) (rfl : (sf_tys dA)[1]? = some (dA 1, .boolean)) hin hdg (fun H1 locs1 hP1 hD1 hS1 => ?_)
  have hs := sf_w_set (q := q) (dA := dA) (σ := σ) (upd (σ k) i.toNatClampNeg (vp_nar .boolean x)) hk
  rw [sf_ce_a (by decide)] at hs
  rw [hs] at hP1
  exact kk _ rfl H1 locs1 ls hP1 hS1 hl
theorem sf_cast (X : sf_Cx p s m args meth c cc nL own ret Ts D cl q dA K E) {k n : Nat} {i x : Int32} (hk : K[k]? = some (2, n, [])) (hin : vp_in i n) (hdg : decode cc pc = .ok (.castore, 1)) (hp : pc + 1 = pc') (kk : ∀ τ : sf_St, τ = sf_up σ k (sf_ix i) (vp_nar .char x) → sf_G p l e R s m args below meth c Q nL D cl q dA K τ pc' lv st) : sf_G p l e R s m args below meth c Q nL D cl q dA K σ pc lv (.int x :: .int i :: .ref (q k) :: st) := by
  subst hp
  intro H locs ls hP hS hl
  refine va_cast X.1.1 X.1.2.1 X.2.1 hP (sf_w_D X.2.2.1) hS k 2 (sf_w_at hk) (rfl : (sf_tys dA)[2]? = some (dA 2, .char)) hin hdg (fun H1 locs1 hP1 hD1 hS1 => ?_)
  have hs := sf_w_set (q := q) (dA := dA) (σ := σ) (upd (σ k) i.toNatClampNeg (vp_nar .char x)) hk
  rw [sf_ce_a (by decide)] at hs
  rw [hs] at hP1
  exact kk _ rfl H1 locs1 ls hP1 hS1 hl
theorem sf_alen (X : sf_Cx p s m args meth c cc nL own ret Ts D cl q dA K E) {k n t : Nat} {v : Int32} {ty : FieldType} (hk : K[k]? = some (t, n, [])) (ht : t < 3) (hty : (sf_tys dA)[t]? = some (dA t, ty)) (hv : Int32.ofNat n = v) (hdg : decode cc pc = .ok (.arraylength, 1)) (hp : pc + 1 = pc') (kk : sf_G p l e R s m args below meth c Q nL D cl q dA K σ pc' lv (.int v :: st)) : sf_G p l e R s m args below meth c Q nL D cl q dA K σ pc lv (.ref (q k) :: st) := by
  subst hp
  intro H locs ls hP hS hl
  have ha := sf_w_at (q := q) (dA := dA) (σ := σ) hk
  rw [sf_ce_a ht] at ha
  exact va_alen X.1.1 X.1.2.1 X.2.1 hP k t ha hty hv hdg (kk H locs ls hP hS hl)
theorem sf_aald (X : sf_Cx p s m args meth c cc nL own ret Ts D cl q dA K E) {k n k' : Nat} {i : Int32} {rs : List (Option Nat)} (hk : K[k]? = some (3, n, rs)) (hin : vp_in i n) (hr : rs[sf_ix i]? = some (some k')) (hdg : decode cc pc = .ok (.aaload, 1)) (hp : pc + 1 = pc') (kk : sf_G p l e R s m args below meth c Q nL D cl q dA K σ pc' lv (.ref (q k') :: st)) : sf_G p l e R s m args below meth c Q nL D cl q dA K σ pc lv (.int i :: .ref (q k) :: st) := by
  subst hp
  intro H locs ls hP hS hl
  have hlt : i.toNatClampNeg < n := Nat.not_le.mp fun z => hin (Or.inr z)
  refine W.aald (v := .ref (q k')) (ty := .array .int) X.1.1 X.1.2.1 (hP k _ (sf_w_at hk)) ((X.2.1.2 3 _ (rfl : (sf_tys dA)[3]? = some (dA 3, .array .int))).1 n (fun j => va_rf ((rs.getD j none).map q))) rfl (fun z => by cases z) (by show ¬ (i < 0 ∨ (arrV _ _ _).slots.size ≤ _); rw [arrV_size]; exact hin) (by show (arrV _ _ _).slots[_]? = _; rw [arrV_read _ _ hlt]; show some (va_rf ((rs.getD (sf_ix i) none).map q)) = _; rw [List.getD_eq_getElem?_getD, hr]; rfl) rfl rfl hdg (kk H locs ls hP hS hl)
theorem sf_end (X : sf_Cx p s m args meth c cc nL own ret Ts D cl q dA K E) {H : Heap} {locs : List Loc} {t : State} (hP : va_P D cl (sf_w q dA K σ) H) (hS : va_S (sf_A q K) s.heap H locs) (ht : t.heap = H) (hvm : s.WarmedH t.vm) : sf_I D cl q dA K E σ t :=
  ⟨by rw [ht]; exact hP, va_K.moved hvm.alike X.2.1, X.2.2.2.2.1 s t hvm (fun a h1 h2 => by rw [ht]; exact hS.2.1 a h1 h2) (by rw [ht]; exact hS.1) X.2.2.2.1⟩
theorem sf_reti (X : sf_Cx p s m args meth c cc nL own (some .int) Ts D cl q dA K E) {r v : Int32} {τ : sf_St} (h : r = v ∧ τ = σ) (hdg : decode cc pc = .ok (.ireturn, 1)) : sf_G p l e R s m args below meth c (sf_Qi D cl q dA K E below args s r τ) nL D cl q dA K σ pc lv [.int v] := by
  obtain ⟨rfl, rfl⟩ := h
  exact fun H locs ls hP hS hl => W.iret X.1.1 X.1.2.1 X.2.2.2.2.2.1 (fun t ht hW => ⟨⟨r, τ, rfl, ⟨rfl, rfl⟩, sf_end X hP hS ht hW⟩, hS.F ht⟩) hS.2.2 hdg X.2.2.2.2.2.2
theorem sf_retz {ty : FieldType} (X : sf_Cx p s m args meth c cc nL own (some ty) Ts D cl q dA K E) {r v : Int32} {τ : sf_St} (h : r = v ∧ τ = σ) (hn : narrow ty (.int v) = .int v) (hdg : decode cc pc = .ok (.ireturn, 1)) : sf_G p l e R s m args below meth c (sf_Qi D cl q dA K E below args s r τ) nL D cl q dA K σ pc lv [.int v] := by
  obtain ⟨rfl, rfl⟩ := h
  exact fun H locs ls hP hS hl => W.zret X.1.1 X.1.2.1 X.2.2.2.2.2.1 hn (fun t ht hW => ⟨⟨r, τ, rfl, ⟨rfl, rfl⟩, sf_end X hP hS ht hW⟩, hS.F ht⟩) hS.2.2 hdg X.2.2.2.2.2.2
theorem sf_retv (X : sf_Cx p s m args meth c cc nL own none Ts D cl q dA K E) {τ : sf_St} (h : τ = σ) (hdg : decode cc pc = .ok (.return_, 1)) : sf_G p l e R s m args below meth c (sf_Qv D cl q dA K E below args s τ) nL D cl q dA K σ pc lv [] := by
  subst h
  exact fun H locs ls hP hS hl => W.vret X.1.1 X.1.2.1 X.2.2.2.2.2.1 (fun t ht hW => ⟨⟨τ, rfl, rfl, sf_end X hP hS ht hW⟩, hS.F ht⟩) hS.2.2 hdg X.2.2.2.2.2.2
theorem sf_blind (hEk : sf_Ek q K E) (av : List Value) : FrameBlind (va_Pc av (sf_I D cl q dA K E σ)) := fun a U g mk h =>
  ⟨h.1, h.2.1, va_K.moved (u := U) (U := U.calling g mk a) (Vm.Alike.refl U.vm) h.2.2.1, hEk U (U.calling g mk a) (State.WarmedH.refl U) (fun _ _ _ => rfl) (Nat.le_refl _) h.2.2.2⟩
theorem sf_preS (X : sf_Cx p s m args meth c cc nL own ret Ts D cl q dA K E) {H : Heap} {locs : List Loc} (hP : va_P D cl (sf_w q dA K σ) H) (hS : va_S (sf_A q K) s.heap H locs) (av : List Value) : PreS s H (va_Pc av (sf_I D cl q dA K E σ)) av :=
  ⟨sf_blind X.2.2.2.2.1 av, fun U hU hW => ⟨rfl, sf_end X hP hS hU hW⟩⟩
theorem sf_preV (X : sf_Cx p s m args meth c cc nL own ret Ts D cl q dA K E) {H : Heap} {locs : List Loc} {k ci : Nat} {fs : List (Option Nat)} {cv : vw_C} (hP : va_P D cl (sf_w q dA K σ) H) (hS : va_S (sf_A q K) s.heap H locs) (hk : K[k]? = some (4, ci, fs)) (hc : cl[ci]? = some cv) (As : List Value) : PreV s H cv.1 (q k) (va_Pc (.ref (q k) :: As) (sf_I D cl q dA K E σ)) As :=
  ⟨sf_blind X.2.2.2.2.1 _, va_recv X.2.1 hP hc (sf_w_at hk), fun U hU hW => ⟨rfl, sf_end X hP hS hU hW⟩⟩
theorem sf_callVi (X : sf_Cx p s m args meth c cc nL own ret Ts D cl q dA K E) {y : MethodName} {ws' : List Cond} {rm' : Room} {bytes : ByteArray} {maxL n index : Nat} {ret' : Option FieldType} {As rest : List Value} {r : Int32} {τ : sf_St} {k ci : Nat} {fs : List (Option Nat)} {cv : vw_C} (hk : K[k]? = some (4, ci, fs)) (hc : cl[ci]? = some cv) (hM : sf_Mi l y ws' rm' D cl q dA K E (.ref (q k) :: As) σ r τ) (cw : CallW R s args own cv.1 index y bytes maxL ret' ws' rm' 0 0 n) (hn : As.length = n) (hst : st = As.reverse ++ .ref (q k) :: rest) (hW : (rest.map fun v => v.category).sum ≤ 8) (hdg : decode cc pc = .ok (.invokevirtual index, 3)) (hp : pc + 3 = pc') (kk : sf_G p l e R s m args below meth c Q nL D cl q dA K τ pc' lv (.int r :: rest)) : sf_G p l e R s m args below meth c Q nL D cl q dA K σ pc lv st := by
  subst hst; subst hp
  intro H locs ls hP hS hl
  refine va_calli (va_runV (As := As) (rest := rest) X.1 hM cw (sf_preV X hP hS hk hc As) rfl hn hl.1 rfl (lv_room hW) hdg ⟨Nat.zero_le _, Nat.zero_le _⟩) hS (fun _ _ h => h) (fun _ h => h) (fun r' u t H1 locs1 ht hvm hpo hB hz hk1 hS1 => ?_)
  obtain ⟨rfl, rfl⟩ := hpo
  exact kk H1 locs1 ls (by rw [← ht]; exact hB.1) hS1 hl
theorem sf_callSi (X : sf_Cx p s m args meth c cc nL own ret Ts D cl q dA K E) {y : MethodName} {ws' : List Cond} {rm' : Room} {bytes : ByteArray} {maxL n index : Nat} {ret' : Option FieldType} {As rest : List Value} {r : Int32} {τ : sf_St}  (hM : sf_Mi l y ws' rm' D cl q dA K E As σ r τ) (cw : CallB R s args own index y bytes maxL ret' ws' rm' 0 0 n ∧ (Cond.static y).before args s = true) (hn : As.length = n) (hst : st = As.reverse ++ rest) (hW : (rest.map fun v => v.category).sum ≤ 8) (hdg : decode cc pc = .ok (.invokestatic index, 3)) (hp : pc + 3 = pc') (kk : sf_G p l e R s m args below meth c Q nL D cl q dA K τ pc' lv (.int r :: rest)) : sf_G p l e R s m args below meth c Q nL D cl q dA K σ pc lv st := by
  subst hst; subst hp
  intro H locs ls hP hS hl
  refine va_calli (va_runS (As := As) (rest := rest) X.1 hM cw (sf_preS X hP hS As) rfl hn hl.1 rfl (lv_room hW) hdg ⟨Nat.zero_le _, Nat.zero_le _⟩) hS (fun _ _ h => h) (fun _ h => h) (fun r' u t H1 locs1 ht hvm hpo hB hz hk1 hS1 => ?_)
  obtain ⟨rfl, rfl⟩ := hpo
  exact kk H1 locs1 ls (by rw [← ht]; exact hB.1) hS1 hl
theorem sf_callVNi (X : sf_Cx p s m args meth c cc nL own ret Ts D cl q dA K E) {host : String} {y : MethodName} {ws' : List Cond} {rm' : Room} {bytes : ByteArray} {maxL n index : Nat} {ret' : Option FieldType} {As rest : List Value} {r : Int32} {τ : sf_St} {k ci : Nat} {fs : List (Option Nat)} {cv : vw_C} (hk : K[k]? = some (4, ci, fs)) (hc : cl[ci]? = some cv) (hM : sf_Mi l y ws' rm' D cl q dA K E (.ref (q k) :: As) σ r τ) (cw : va_CN R s args own index y host bytes maxL ret' ws' rm' 0 0 n ∧ (Cond.instanceMethod y).before args s = true ∧ (Cond.selects cv.1 y y).before args s = true) (hn : As.length = n) (hst : st = As.reverse ++ .ref (q k) :: rest) (hW : (rest.map fun v => v.category).sum ≤ 8) (hdg : decode cc pc = .ok (.invokevirtual index, 3)) (hp : pc + 3 = pc') (kk : sf_G p l e R s m args below meth c Q nL D cl q dA K τ pc' lv (.int r :: rest)) : sf_G p l e R s m args below meth c Q nL D cl q dA K σ pc lv st := by
  subst hst; subst hp
  intro H locs ls hP hS hl
  refine va_calli (va_runVN (As := As) (rest := rest) X.1 hM cw (sf_preV X hP hS hk hc As) rfl hn hl.1 rfl (lv_room hW) hdg ⟨Nat.zero_le _, Nat.zero_le _⟩) hS (fun _ _ h => h) (fun _ h => h) (fun r' u t H1 locs1 ht hvm hpo hB hz hk1 hS1 => ?_)
  obtain ⟨rfl, rfl⟩ := hpo
  exact kk H1 locs1 ls (by rw [← ht]; exact hB.1) hS1 hl
theorem sf_callSNi (X : sf_Cx p s m args meth c cc nL own ret Ts D cl q dA K E) {host : String} {y : MethodName} {ws' : List Cond} {rm' : Room} {bytes : ByteArray} {maxL n index : Nat} {ret' : Option FieldType} {As rest : List Value} {r : Int32} {τ : sf_St}  (hM : sf_Mi l y ws' rm' D cl q dA K E As σ r τ) (cw : va_CN R s args own index y host bytes maxL ret' ws' rm' 0 0 n ∧ (Cond.static y).before args s = true ∧ True) (hn : As.length = n) (hst : st = As.reverse ++ rest) (hW : (rest.map fun v => v.category).sum ≤ 8) (hdg : decode cc pc = .ok (.invokestatic index, 3)) (hp : pc + 3 = pc') (kk : sf_G p l e R s m args below meth c Q nL D cl q dA K τ pc' lv (.int r :: rest)) : sf_G p l e R s m args below meth c Q nL D cl q dA K σ pc lv st := by
  subst hst; subst hp
  intro H locs ls hP hS hl
  refine va_calli (va_runSN (As := As) (rest := rest) X.1 hM cw (sf_preS X hP hS As) rfl hn hl.1 rfl (lv_room hW) hdg ⟨Nat.zero_le _, Nat.zero_le _⟩) hS (fun _ _ h => h) (fun _ h => h) (fun r' u t H1 locs1 ht hvm hpo hB hz hk1 hS1 => ?_)
  obtain ⟨rfl, rfl⟩ := hpo
  exact kk H1 locs1 ls (by rw [← ht]; exact hB.1) hS1 hl
theorem sf_callVv (X : sf_Cx p s m args meth c cc nL own ret Ts D cl q dA K E) {y : MethodName} {ws' : List Cond} {rm' : Room} {bytes : ByteArray} {maxL n index : Nat} {ret' : Option FieldType} {As rest : List Value} {τ : sf_St} {k ci : Nat} {fs : List (Option Nat)} {cv : vw_C} (hk : K[k]? = some (4, ci, fs)) (hc : cl[ci]? = some cv) (hM : sf_Mv l y ws' rm' D cl q dA K E (.ref (q k) :: As) σ τ) (cw : CallW R s args own cv.1 index y bytes maxL ret' ws' rm' 0 0 n) (hn : As.length = n) (hst : st = As.reverse ++ .ref (q k) :: rest) (hW : (rest.map fun v => v.category).sum ≤ 8) (hdg : decode cc pc = .ok (.invokevirtual index, 3)) (hp : pc + 3 = pc') (kk : sf_G p l e R s m args below meth c Q nL D cl q dA K τ pc' lv rest) : sf_G p l e R s m args below meth c Q nL D cl q dA K σ pc lv st := by
  subst hst; subst hp
  intro H locs ls hP hS hl
  refine va_callv (va_runV (As := As) (rest := rest) X.1 hM cw (sf_preV X hP hS hk hc As) rfl hn hl.1 rfl (lv_room hW) hdg ⟨Nat.zero_le _, Nat.zero_le _⟩) hS (fun _ _ h => h) (fun _ h => h) (fun u t H1 locs1 ht hvm hpo hB hz hk1 hS1 => ?_)
  subst hpo
  exact kk H1 locs1 ls (by rw [← ht]; exact hB.1) hS1 hl
theorem sf_callSv (X : sf_Cx p s m args meth c cc nL own ret Ts D cl q dA K E) {y : MethodName} {ws' : List Cond} {rm' : Room} {bytes : ByteArray} {maxL n index : Nat} {ret' : Option FieldType} {As rest : List Value} {τ : sf_St}  (hM : sf_Mv l y ws' rm' D cl q dA K E As σ τ) (cw : CallB R s args own index y bytes maxL ret' ws' rm' 0 0 n ∧ (Cond.static y).before args s = true) (hn : As.length = n) (hst : st = As.reverse ++ rest) (hW : (rest.map fun v => v.category).sum ≤ 8) (hdg : decode cc pc = .ok (.invokestatic index, 3)) (hp : pc + 3 = pc') (kk : sf_G p l e R s m args below meth c Q nL D cl q dA K τ pc' lv rest) : sf_G p l e R s m args below meth c Q nL D cl q dA K σ pc lv st := by
  subst hst; subst hp
  intro H locs ls hP hS hl
  refine va_callv (va_runS (As := As) (rest := rest) X.1 hM cw (sf_preS X hP hS As) rfl hn hl.1 rfl (lv_room hW) hdg ⟨Nat.zero_le _, Nat.zero_le _⟩) hS (fun _ _ h => h) (fun _ h => h) (fun u t H1 locs1 ht hvm hpo hB hz hk1 hS1 => ?_)
  subst hpo
  exact kk H1 locs1 ls (by rw [← ht]; exact hB.1) hS1 hl
theorem sf_callVNv (X : sf_Cx p s m args meth c cc nL own ret Ts D cl q dA K E) {host : String} {y : MethodName} {ws' : List Cond} {rm' : Room} {bytes : ByteArray} {maxL n index : Nat} {ret' : Option FieldType} {As rest : List Value} {τ : sf_St} {k ci : Nat} {fs : List (Option Nat)} {cv : vw_C} (hk : K[k]? = some (4, ci, fs)) (hc : cl[ci]? = some cv) (hM : sf_Mv l y ws' rm' D cl q dA K E (.ref (q k) :: As) σ τ) (cw : va_CN R s args own index y host bytes maxL ret' ws' rm' 0 0 n ∧ (Cond.instanceMethod y).before args s = true ∧ (Cond.selects cv.1 y y).before args s = true) (hn : As.length = n) (hst : st = As.reverse ++ .ref (q k) :: rest) (hW : (rest.map fun v => v.category).sum ≤ 8) (hdg : decode cc pc = .ok (.invokevirtual index, 3)) (hp : pc + 3 = pc') (kk : sf_G p l e R s m args below meth c Q nL D cl q dA K τ pc' lv rest) : sf_G p l e R s m args below meth c Q nL D cl q dA K σ pc lv st := by
  subst hst; subst hp
  intro H locs ls hP hS hl
  refine va_callv (va_runVN (As := As) (rest := rest) X.1 hM cw (sf_preV X hP hS hk hc As) rfl hn hl.1 rfl (lv_room hW) hdg ⟨Nat.zero_le _, Nat.zero_le _⟩) hS (fun _ _ h => h) (fun _ h => h) (fun u t H1 locs1 ht hvm hpo hB hz hk1 hS1 => ?_)
  subst hpo
  exact kk H1 locs1 ls (by rw [← ht]; exact hB.1) hS1 hl
theorem sf_callSNv (X : sf_Cx p s m args meth c cc nL own ret Ts D cl q dA K E) {host : String} {y : MethodName} {ws' : List Cond} {rm' : Room} {bytes : ByteArray} {maxL n index : Nat} {ret' : Option FieldType} {As rest : List Value} {τ : sf_St}  (hM : sf_Mv l y ws' rm' D cl q dA K E As σ τ) (cw : va_CN R s args own index y host bytes maxL ret' ws' rm' 0 0 n ∧ (Cond.static y).before args s = true ∧ True) (hn : As.length = n) (hst : st = As.reverse ++ rest) (hW : (rest.map fun v => v.category).sum ≤ 8) (hdg : decode cc pc = .ok (.invokestatic index, 3)) (hp : pc + 3 = pc') (kk : sf_G p l e R s m args below meth c Q nL D cl q dA K τ pc' lv rest) : sf_G p l e R s m args below meth c Q nL D cl q dA K σ pc lv st := by
  subst hst; subst hp
  intro H locs ls hP hS hl
  refine va_callv (va_runSN (As := As) (rest := rest) X.1 hM cw (sf_preS X hP hS As) rfl hn hl.1 rfl (lv_room hW) hdg ⟨Nat.zero_le _, Nat.zero_le _⟩) hS (fun _ _ h => h) (fun _ h => h) (fun u t H1 locs1 ht hvm hpo hB hz hk1 hS1 => ?_)
  subst hpo
  exact kk H1 locs1 ls (by rw [← ht]; exact hB.1) hS1 hl
theorem sf_copy (X : sf_Cx p s m args meth c cc nL own ret Ts D cl q dA K E) {index k0 k1 t n0 n1 : Nat} {ty : FieldType} {sp dp n : Int32} (hlink : (Cond.methodLink own index arraycopyName).before args s = true) (hnat : (Cond.native arraycopyName).before args s = true) (hstat : (Cond.static arraycopyName).before args s = true) (hini : (Cond.initialized "java/lang/System").before args s = true) (hk0 : K[k0]? = some (t, n0, [])) (hk1 : K[k1]? = some (t, n1, [])) (ht : t < 3) (hty : (sf_tys dA)[t]? = some (dA t, ty)) (hprim : refKind ty = false) (h1 : ¬ sp < 0) (h2 : ¬ dp < 0) (h3 : ¬ n < 0) (h4 : sf_ix sp + sf_ix n ≤ n0) (h5 : sf_ix dp + sf_ix n ≤ n1) (hfit : ∀ i, i < sf_ix n → fits ty (.int (σ k0 (sf_ix sp + i))) = true) (hfr : 1 ≤ R.frames) (hlo : (st.map fun v => v.category).sum + (nativeFrameWords "java/lang/System" "arraycopy" 5 + 11) ≤ R.locals) (hdg : decode cc pc = .ok (.invokestatic index, 3)) (hp : pc + 3 = pc') (kk : ∀ τ : sf_St, τ = sf_upc σ k1 (va_cpy (σ k0) (σ k1) (sf_ix sp) (sf_ix dp) (sf_ix n)) → sf_G p l e R s m args below meth c Q nL D cl q dA K τ pc' lv st) : sf_G p l e R s m args below meth c Q nL D cl q dA K σ pc lv (.int n :: .int dp :: .ref (q k1) :: .int sp :: .ref (q k0) :: st) := by
  subst hp
  intro H locs ls hP hS hl
  have a0 := sf_w_at (q := q) (dA := dA) (σ := σ) hk0
  have a1 := sf_w_at (q := q) (dA := dA) (σ := σ) hk1
  rw [sf_ce_a ht] at a0 a1
  refine va_copyi X.1.1 X.1.2.1 (X.1.2.2.1.trans hl.1.symm) X.1.2.2.2.1 hlink hnat hstat hini X.2.1 hP (sf_w_D X.2.2.1) hS k0 k1 t t a0 a1 hty hty hprim h1 h2 h3 h4 h5 hfit hfr hlo hdg (fun H1 locs1 hP1 hD1 hS1 => ?_)
  have hs := sf_w_set (q := q) (dA := dA) (σ := σ) (va_cpy (σ k0) (σ k1) (sf_ix sp) (sf_ix dp) (sf_ix n)) hk1
  rw [sf_ce_a ht] at hs
  exact kk _ rfl H1 locs1 ls (by rw [← hs]; exact hP1) hS1 hl
theorem sf_mmax (X : sf_Cx p s m args meth c cc nL own ret Ts D cl q dA K E) {index : Nat} {x y : Int32} (hlink : (Cond.methodLink own index Lib.Math.max.name).before args s = true) (hstat : (Cond.static Lib.Math.max.name).before args s = true) (hini : (Cond.initialized "java/lang/Math").before args s = true) (hcode : (Cond.code Lib.Math.max.name Lib.Math.max.code 2 (some .int)).before args s = true) (hfr : 1 ≤ R.frames) (hlo : (st.map fun v => v.category).sum + 13 ≤ R.locals) (hdg : decode cc pc = .ok (.invokestatic index, 3)) (hp : pc + 3 = pc') (kk : sf_G p l e R s m args below meth c Q nL D cl q dA K σ pc' lv (.int (if x < y then y else x) :: st)) : sf_G p l e R s m args below meth c Q nL D cl q dA K σ pc lv (.int y :: .int x :: st) := by
  subst hp
  exact fun H locs ls hP hS hl => va_mmax X.1.1 X.1.2.1 (X.1.2.2.1.trans hl.1.symm) X.1.2.2.2.1 hlink hstat hini hcode hfr hlo (Nat.zero_le _) (Nat.zero_le _) hdg (kk H locs ls hP hS hl)
theorem sf_mmin (X : sf_Cx p s m args meth c cc nL own ret Ts D cl q dA K E) {index : Nat} {x y : Int32} (hlink : (Cond.methodLink own index Lib.Math.min.name).before args s = true) (hstat : (Cond.static Lib.Math.min.name).before args s = true) (hini : (Cond.initialized "java/lang/Math").before args s = true) (hcode : (Cond.code Lib.Math.min.name Lib.Math.min.code 2 (some .int)).before args s = true) (hfr : 1 ≤ R.frames) (hlo : (st.map fun v => v.category).sum + 13 ≤ R.locals) (hdg : decode cc pc = .ok (.invokestatic index, 3)) (hp : pc + 3 = pc') (kk : sf_G p l e R s m args below meth c Q nL D cl q dA K σ pc' lv (.int (if y < x then y else x) :: st)) : sf_G p l e R s m args below meth c Q nL D cl q dA K σ pc lv (.int y :: .int x :: st) := by
  subst hp
  exact fun H locs ls hP hS hl => va_mmin X.1.1 X.1.2.1 (X.1.2.2.1.trans hl.1.symm) X.1.2.2.2.1 hlink hstat hini hcode hfr hlo (Nat.zero_le _) (Nat.zero_le _) hdg (kk H locs ls hP hS hl)
theorem sf_gets (X : sf_Cx p s m args meth c cc nL own ret Ts D cl q dA K E) {C n d ref : String} {v : Value} {index : Nat} (hZ : va_Z C n d v (sf_A q K) s s.heap) (hlink : (Cond.fieldLink own index ref n d).before args s = true) (hsame : ∀ x, s.fieldFound? C n d = some x → s.fieldFound? ref n d = some x) (hdg : decode cc pc = .ok (.getstatic index, 3)) (hp : pc + 3 = pc') (kk : sf_G p l e R s m args below meth c Q nL D cl q dA K σ pc' lv (v :: st)) : sf_G p l e R s m args below meth c Q nL D cl q dA K σ pc lv st := by
  subst hp
  exact fun H locs ls hP hS hl => va_gets X.1.1 X.1.2.1 hZ hS X.1.2.2.2.1 hlink hsame hdg (kk H locs ls hP hS hl)
theorem sf_getsN (X : sf_Cx p s m args meth c cc nL own ret Ts D cl q dA K E) {host : String} {C n d ref : String} {v : Value} {index : Nat} (hZ : va_Z C n d v (sf_A q K) s s.heap) (hlink : (Cond.fieldLinkNest own index ref n d host).before args s = true) (hsame : ∀ x, s.fieldFound? C n d = some x → s.fieldFound? ref n d = some x) (hdg : decode cc pc = .ok (.getstatic index, 3)) (hp : pc + 3 = pc') (kk : sf_G p l e R s m args below meth c Q nL D cl q dA K σ pc' lv (v :: st)) : sf_G p l e R s m args below meth c Q nL D cl q dA K σ pc lv st := by
  subst hp
  exact fun H locs ls hP hS hl => va_getsN X.1.1 X.1.2.1 hZ hS X.1.2.2.2.1 hlink hsame hdg (kk H locs ls hP hS hl)
theorem sf_ti (X : sf_Cx p s m args meth c cc nL own ret Ts D cl q dA K E) {t N : Nat} {f : Nat → Value} {i v : Int32} (hT : va_T .int t N f (sf_A q K) s s.heap) (hin : vp_in i N) (hv : f (sf_ix i) = .int v) (hdg : decode cc pc = .ok (.iaload, 1)) (hp : pc + 1 = pc') (kk : sf_G p l e R s m args below meth c Q nL D cl q dA K σ pc' lv (.int v :: st)) : sf_G p l e R s m args below meth c Q nL D cl q dA K σ pc lv (.int i :: .ref t :: st) := by
  subst hp
  exact fun H locs ls hP hS hl => va_ti X.1.1 X.1.2.1 hT hS hin hv hdg (kk H locs ls hP hS hl)
theorem sf_tlen (X : sf_Cx p s m args meth c cc nL own ret Ts D cl q dA K E) {t N : Nat} {f : Nat → Value} {v : Int32} {ty : FieldType} (hT : va_T ty t N f (sf_A q K) s s.heap) (hv : Int32.ofNat N = v) (hdg : decode cc pc = .ok (.arraylength, 1)) (hp : pc + 1 = pc') (kk : sf_G p l e R s m args below meth c Q nL D cl q dA K σ pc' lv (.int v :: st)) : sf_G p l e R s m args below meth c Q nL D cl q dA K σ pc lv (.ref t :: st) := by
  subst hp
  exact fun H locs ls hP hS hl => va_tlen X.1.1 X.1.2.1 hT hS hv hdg (kk H locs ls hP hS hl)
end SFROWS
theorem sf_meti {l : Launch} {y : MethodName} {ws ws' : List Cond} {rm : Room} {cc : ByteArray} {maxL : Nat} {ret : Option FieldType} {D : va_G} {cl : List vw_C} {q : Nat → Nat} {dA : Nat → ClassId} {K : List sf_Kd} {E : State → Prop} {av : List Value} {σ : sf_St} {r : Int32} {τ : sf_St} {own : String} (hy : plainName y.cls = true) (ho : y.cls = own) (hw : ws = Cond.code y cc maxL ret :: ws') (hq : sf_inj q K) (hEk : sf_Ek q K E) (hav : (lg_sl av).length ≤ maxL)
    (body : ∀ (p : Program) (e : Env) (s : State) (m : MethodId) (args : Array Value) (below : List Frame) (meth : Method) (c : Code), sf_Cx p s m args meth c cc maxL own ret ws D cl q dA K E → sf_G p l e (headSpec ws rm).room s m args below meth c (sf_Qi D cl q dA K E below args s r τ) maxL D cl q dA K σ 0 (lv_args 0 av) []) : sf_Mi l y ws rm D cl q dA K E av σ r τ := by
  subst ho
  refine Met.ofW (cc := cc) (maxL := maxL) (ret := ret) hy hw ?_
  intro p e s m args below meth c s₁ B hml hv
  obtain ⟨rfl, hP, hK, hE⟩ := hv
  have hl := lv_entry av hav
  rw [lg_entry_eq]
  exact body p e s m _ below meth c ⟨⟨B.exec, B.bytes, hml, findClass_of_methodNamed B.named, atoms_spec (ws := ws) B.pre⟩, hK, hq, hE, hEk, B.returns, B.notSynchronized⟩ s.heap [] _ hP va_S.rf hl
theorem sf_metv {l : Launch} {y : MethodName} {ws ws' : List Cond} {rm : Room} {cc : ByteArray} {maxL : Nat} {ret : Option FieldType} {D : va_G} {cl : List vw_C} {q : Nat → Nat} {dA : Nat → ClassId} {K : List sf_Kd} {E : State → Prop} {av : List Value} {σ : sf_St} {τ : sf_St} {own : String} (hy : plainName y.cls = true) (ho : y.cls = own) (hw : ws = Cond.code y cc maxL ret :: ws') (hq : sf_inj q K) (hEk : sf_Ek q K E) (hav : (lg_sl av).length ≤ maxL)
    (body : ∀ (p : Program) (e : Env) (s : State) (m : MethodId) (args : Array Value) (below : List Frame) (meth : Method) (c : Code), sf_Cx p s m args meth c cc maxL own ret ws D cl q dA K E → sf_G p l e (headSpec ws rm).room s m args below meth c (sf_Qv D cl q dA K E below args s τ) maxL D cl q dA K σ 0 (lv_args 0 av) []) : sf_Mv l y ws rm D cl q dA K E av σ τ := by
  subst ho
  refine Met.ofW (cc := cc) (maxL := maxL) (ret := ret) hy hw ?_
  intro p e s m args below meth c s₁ B hml hv
  obtain ⟨rfl, hP, hK, hE⟩ := hv
  have hl := lv_entry av hav
  rw [lg_entry_eq]
  exact body p e s m _ below meth c ⟨⟨B.exec, B.bytes, hml, findClass_of_methodNamed B.named, atoms_spec (ws := ws) B.pre⟩, hK, hq, hE, hEk, B.returns, B.notSynchronized⟩ s.heap [] _ hP va_S.rf hl
theorem sf_ic_m1 : Int32.ofInt (-1) = (-1) := by decide
theorem sf_ic_0 : Int32.ofInt 0 = 0 := by decide
theorem sf_ic_1 : Int32.ofInt 1 = 1 := by decide
theorem sf_ic_2 : Int32.ofInt 2 = 2 := by decide
theorem sf_ic_3 : Int32.ofInt 3 = 3 := by decide
theorem sf_ic_4 : Int32.ofInt 4 = 4 := by decide
theorem sf_ic_5 : Int32.ofInt 5 = 5 := by decide
theorem sf_bc_6 : (Int8.ofInt 6).toInt32 = 6 := by decide
theorem sf_bc_7 : (Int8.ofInt 7).toInt32 = 7 := by decide
theorem sf_bc_8 : (Int8.ofInt 8).toInt32 = 8 := by decide
theorem sf_bc_9 : (Int8.ofInt 9).toInt32 = 9 := by decide
theorem sf_bc_10 : (Int8.ofInt 10).toInt32 = 10 := by decide
theorem sf_bc_11 : (Int8.ofInt 11).toInt32 = 11 := by decide
theorem sf_bc_12 : (Int8.ofInt 12).toInt32 = 12 := by decide
theorem sf_bc_13 : (Int8.ofInt 13).toInt32 = 13 := by decide
theorem sf_bc_14 : (Int8.ofInt 14).toInt32 = 14 := by decide
theorem sf_bc_15 : (Int8.ofInt 15).toInt32 = 15 := by decide
theorem sf_bc_16 : (Int8.ofInt 16).toInt32 = 16 := by decide
theorem sf_bc_m1 : (Int8.ofInt (-1)).toInt32 = (-1) := by decide
theorem sf_bc_31 : (Int8.ofInt 31).toInt32 = 31 := by decide
theorem sf_bc_35 : (Int8.ofInt 35).toInt32 = 35 := by decide
theorem sf_bc_40 : (Int8.ofInt 40).toInt32 = 40 := by decide
theorem sf_bc_41 : (Int8.ofInt 41).toInt32 = 41 := by decide
theorem sf_bc_48 : (Int8.ofInt 48).toInt32 = 48 := by decide
theorem sf_bc_59 : (Int8.ofInt 59).toInt32 = 59 := by decide
theorem sf_bc_61 : (Int8.ofInt 61).toInt32 = 61 := by decide
theorem sf_bc_64 : (Int8.ofInt 64).toInt32 = 64 := by decide
theorem sf_bc_67 : (Int8.ofInt 67).toInt32 = 67 := by decide
theorem sf_bc_70 : (Int8.ofInt 70).toInt32 = 70 := by decide
theorem sf_bc_78 : (Int8.ofInt 78).toInt32 = 78 := by decide
theorem sf_bc_79 : (Int8.ofInt 79).toInt32 = 79 := by decide
theorem sf_bc_83 : (Int8.ofInt 83).toInt32 = 83 := by decide
theorem sf_bc_99 : (Int8.ofInt 99).toInt32 = 99 := by decide
theorem sf_bc_108 : (Int8.ofInt 108).toInt32 = 108 := by decide
theorem sf_bc_116 : (Int8.ofInt 116).toInt32 = 116 := by decide
theorem sf_bc_127 : (Int8.ofInt 127).toInt32 = 127 := by decide
theorem sf_sc_1000 : (Int16.ofInt 1000).toInt32 = 1000 := by decide
theorem sf_sc_m1000 : (Int16.ofInt (-1000)).toInt32 = (-1000) := by decide
theorem sf_sc_128 : (Int16.ofInt 128).toInt32 = 128 := by decide
theorem sf_sc_5040 : (Int16.ofInt 5040).toInt32 = 5040 := by decide
theorem sf_inD {i : Int32} {n : Nat} (h : decide (¬ (i < 0 ∨ n ≤ i.toNatClampNeg)) = true) : vp_in i n := show ¬ (i < 0 ∨ n ≤ i.toNatClampNeg) from of_decide_eq_true h
end
section
/-! the search over numberings: what the least rows, the least code and the first numbering of these are -/
def pm_OP : Nat := 2147483647
def pm_lt : List Nat → List Nat → Bool
  | [], _ => false
  | _ :: _, [] => false
  | a :: s, b :: t => decide (a < b) || (decide (a = b) && pm_lt s t)
def pm_ext (n : Nat) : Nat → List Nat → List (List Nat)
  | 0, pre => [pre]
  | k + 1, pre => ((List.range n).filter (fun a => !pre.contains a)).flatMap (fun a => pm_ext n k (pre ++ [a]))
def pm_rows (row : List Nat → Nat → Nat) : List Nat → List Nat → List Nat
  | _, [] => []
  | pre, a :: t => row pre a :: pm_rows row (pre ++ [a]) t
abbrev pm_S : Type := List Nat × Nat × List Nat
def pm_step (row : List Nat → Nat → Nat) (code : List Nat → Nat) (S : pm_S) (π : List Nat) : pm_S :=
  if pm_lt (pm_rows row [] π) S.1 = true then (pm_rows row [] π, code π, π)
  else if pm_rows row [] π = S.1 then (if code π < S.2.1 then (S.1, code π, π) else S) else S
theorem pm_rows_app (row : List Nat → Nat → Nat) : ∀ (s pre t : List Nat), pm_rows row pre (s ++ t) = pm_rows row pre s ++ pm_rows row (pre ++ s) t := by
  intro s
  induction s with
  | nil => intro pre t; simp [pm_rows]
  | cons a s ih => intro pre t; simp [pm_rows, ih]
theorem pm_rows_len (row : List Nat → Nat → Nat) : ∀ (s pre : List Nat), (pm_rows row pre s).length = s.length := by
  intro s
  induction s with
  | nil => intro pre; rfl
  | cons a s ih => intro pre; simp [pm_rows, ih]
theorem pm_lt_irr : ∀ s : List Nat, pm_lt s s = false := by
  intro s
  induction s with
  | nil => rfl
  | cons a s ih => simp [pm_lt, ih]
theorem pm_lt_app : ∀ (p s t : List Nat), pm_lt (p ++ s) (p ++ t) = pm_lt s t := by
  intro p
  induction p with
  | nil => intro s t; rfl
  | cons a p ih => intro s t; simp [pm_lt, ih]
theorem pm_lt_trans : ∀ (s t u : List Nat), pm_lt s t = true → pm_lt t u = true → pm_lt s u = true := by
  intro s
  induction s with
  | nil => intro t u h; simp [pm_lt] at h
  | cons a s ih =>
    intro t u h1 h2
    cases t with
    | nil => simp [pm_lt] at h1
    | cons b t =>
      cases u with
      | nil => simp [pm_lt] at h2
      | cons c u =>
        simp only [pm_lt, Bool.or_eq_true, Bool.and_eq_true, decide_eq_true_eq] at h1 h2 ⊢
        rcases h1 with h1 | ⟨h1, h1'⟩ <;> rcases h2 with h2 | ⟨h2, h2'⟩
        · left; omega
        · left; omega
        · left; omega
        · right; exact ⟨by omega, ih t u h1' h2'⟩
theorem pm_lt_tri : ∀ (s t : List Nat), s.length = t.length → pm_lt s t = false → s ≠ t → pm_lt t s = true := by
  intro s
  induction s with
  | nil => intro t h; cases t with
    | nil => intro _ h2; exact absurd rfl h2
    | cons b t => simp at h
  | cons a s ih =>
    intro t h h1 h2
    cases t with
    | nil => simp at h
    | cons b t =>
      simp only [pm_lt, Bool.or_eq_false_iff, Bool.and_eq_false_iff, decide_eq_false_iff_not] at h1
      simp only [pm_lt, Bool.or_eq_true, Bool.and_eq_true, decide_eq_true_eq]
      by_cases hab : a = b
      · subst hab
        right
        refine ⟨rfl, ih t (by simpa using h) ?_ (fun e => h2 (by rw [e]))⟩
        rcases h1.2 with h3 | h3
        · exact absurd rfl h3
        · exact h3
      · left
        have := h1.1
        omega
theorem pm_lt_asym {s t : List Nat} (h : pm_lt s t = true) : pm_lt t s = false := by
  cases h2 : pm_lt t s with
  | false => rfl
  | true =>
    have := pm_lt_trans s t s h h2
    rw [pm_lt_irr] at this
    cases this
theorem pm_lt_ne {s t : List Nat} (h : pm_lt s t = true) : s ≠ t := by
  intro e
  subst e
  rw [pm_lt_irr] at h
  cases h
/-- a key is seen: nothing changes when it comes again -/
def pm_seen (S : pm_S) (r : List Nat) (c : Nat) : Prop := pm_lt S.1 r = true ∨ (S.1 = r ∧ S.2.1 ≤ c)
theorem pm_seen_noop {row : List Nat → Nat → Nat} {code : List Nat → Nat} {S : pm_S} {π : List Nat} (h : pm_seen S (pm_rows row [] π) (code π)) : pm_step row code S π = S := by
  unfold pm_step
  rcases h with h | ⟨h1, h2⟩
  · rw [if_neg (by rw [pm_lt_asym h]; decide), if_neg (fun e => pm_lt_ne h e.symm)]
  · rw [← h1, if_neg (by rw [pm_lt_irr]; decide), if_pos rfl, if_neg (by omega)]
theorem pm_seen_self {row : List Nat → Nat → Nat} {code : List Nat → Nat} {S : pm_S} {π : List Nat} (hl : S.1.length = π.length) : pm_seen (pm_step row code S π) (pm_rows row [] π) (code π) := by
  unfold pm_step
  split
  · exact Or.inr ⟨rfl, Nat.le_refl _⟩
  · rename_i h
    split
    · rename_i h2
      split
      · exact Or.inr ⟨h2.symm, Nat.le_refl _⟩
      · rename_i h3
        exact Or.inr ⟨h2.symm, by omega⟩
    · rename_i h2
      exact Or.inl (pm_lt_tri _ _ (by rw [pm_rows_len]; exact hl.symm) (by simpa using h) h2)
theorem pm_seen_keep {row : List Nat → Nat → Nat} {code : List Nat → Nat} {S : pm_S} {π : List Nat} {r : List Nat} {c : Nat} (h : pm_seen S r c) : pm_seen (pm_step row code S π) r c := by
  unfold pm_step
  split
  · rename_i h1
    rcases h with h | ⟨h2, h3⟩
    · exact Or.inl (pm_lt_trans _ _ _ h1 h)
    · exact Or.inl (by rw [← h2]; exact h1)
  · split
    · split
      · rename_i h4
        rcases h with h | ⟨h2, h3⟩
        · exact Or.inl h
        · exact Or.inr ⟨h2, by show code π ≤ c; omega⟩
      · exact h
    · exact h
theorem pm_step_len {row : List Nat → Nat → Nat} {code : List Nat → Nat} {S : pm_S} {π : List Nat} {n : Nat} (h : S.1.length = n) (hp : π.length = n) : (pm_step row code S π).1.length = n := by
  unfold pm_step
  split
  · show (pm_rows row [] π).length = n
    rw [pm_rows_len]; exact hp
  · split
    · split
      · exact h
      · exact h
    · exact h
theorem pm_fold_len {row : List Nat → Nat → Nat} {code : List Nat → Nat} {n : Nat} : ∀ (C : List (List Nat)) (S : pm_S), S.1.length = n → (∀ π ∈ C, π.length = n) → (C.foldl (pm_step row code) S).1.length = n := by
  intro C
  induction C with
  | nil => intro S h _; exact h
  | cons π C ih =>
    intro S h hC
    exact ih _ (pm_step_len h (hC π (List.mem_cons_self))) (fun x hx => hC x (List.mem_cons_of_mem _ hx))
theorem pm_fold_seenK {row : List Nat → Nat → Nat} {code : List Nat → Nat} {r : List Nat} {c : Nat} : ∀ (C : List (List Nat)) (S : pm_S), pm_seen S r c → pm_seen (C.foldl (pm_step row code) S) r c := by
  intro C
  induction C with
  | nil => intro S h; exact h
  | cons π C ih => intro S h; exact ih _ (pm_seen_keep h)
theorem pm_fold_seen {row : List Nat → Nat → Nat} {code : List Nat → Nat} {n : Nat} : ∀ (C : List (List Nat)) (S : pm_S), S.1.length = n → (∀ π ∈ C, π.length = n) → ∀ π ∈ C, pm_seen (C.foldl (pm_step row code) S) (pm_rows row [] π) (code π) := by
  intro C
  induction C with
  | nil => intro S _ _ π hp; cases hp
  | cons x C ih =>
    intro S h hC π hp
    have hx := hC x List.mem_cons_self
    rcases List.mem_cons.mp hp with e | hp
    · subst e
      exact pm_fold_seenK C _ (pm_seen_self (by rw [h, hx]))
    · exact ih _ (pm_step_len h hx) (fun y hy => hC y (List.mem_cons_of_mem _ hy)) π hp
theorem pm_fold_noop {row : List Nat → Nat → Nat} {code : List Nat → Nat} : ∀ (C : List (List Nat)) (S : pm_S), (∀ π ∈ C, pm_seen S (pm_rows row [] π) (code π)) → C.foldl (pm_step row code) S = S := by
  intro C
  induction C with
  | nil => intro S _; rfl
  | cons x C ih =>
    intro S h
    rw [List.foldl_cons, pm_seen_noop (h x List.mem_cons_self)]
    exact ih S (fun y hy => h y (List.mem_cons_of_mem _ hy))
end
section
def pm_ok (n : Nat) (pre : List Nat) : Prop := pre.Nodup ∧ ∀ a ∈ pre, a < n
theorem pm_ok_snoc {n : Nat} {pre : List Nat} {a : Nat} (h : pm_ok n pre) (ha : a < n) (hn : a ∉ pre) : pm_ok n (pre ++ [a]) := by
  refine ⟨?_, ?_⟩
  · rw [List.nodup_append]
    refine ⟨h.1, by simp, ?_⟩
    intro x hx y hy e
    have : y = a := by simpa using hy
    subst this
    subst e
    exact hn hx
  · intro x hx
    rcases List.mem_append.mp hx with hx | hx
    · exact h.2 x hx
    · have : x = a := by simpa using hx
      subst this
      exact ha
theorem pm_ok_left {n : Nat} {pre suf : List Nat} (h : pm_ok n (pre ++ suf)) : pm_ok n pre :=
  ⟨(List.nodup_append.mp h.1).1, fun a ha => h.2 a (List.mem_append_left _ ha)⟩
theorem pm_good {n : Nat} {pre : List Nat} {a : Nat} (h : a ∈ (List.range n).filter (fun a => !pre.contains a)) : a < n ∧ a ∉ pre := by
  obtain ⟨h1, h2⟩ := List.mem_filter.mp h
  exact ⟨List.mem_range.mp h1, by simpa using h2⟩
theorem pm_ext_mem (n : Nat) : ∀ (k : Nat) (pre π : List Nat), π ∈ pm_ext n k pre → ∃ suf, π = pre ++ suf ∧ suf.length = k ∧ (pm_ok n pre → pm_ok n π) := by
  intro k
  induction k with
  | zero =>
    intro pre π h
    have : π = pre := by simpa [pm_ext] using h
    subst this
    exact ⟨[], by simp, rfl, id⟩
  | succ k ih =>
    intro pre π h
    obtain ⟨a, ha, hp⟩ := List.mem_flatMap.mp h
    obtain ⟨suf, h1, h2, h3⟩ := ih _ _ hp
    obtain ⟨g1, g2⟩ := pm_good ha
    exact ⟨a :: suf, by rw [h1]; simp, by simp [h2], fun ho => h3 (pm_ok_snoc ho g1 g2)⟩
theorem pm_ext_mem' (n : Nat) : ∀ (suf pre : List Nat), pm_ok n (pre ++ suf) → pre ++ suf ∈ pm_ext n suf.length pre := by
  intro suf
  induction suf with
  | nil => intro pre _; simp [pm_ext]
  | cons a suf ih =>
    intro pre h
    have h' : pm_ok n ((pre ++ [a]) ++ suf) := by simpa using h
    have := ih (pre ++ [a]) h'
    show _ ∈ pm_ext n (suf.length + 1) pre
    refine List.mem_flatMap.mpr ⟨a, List.mem_filter.mpr ⟨List.mem_range.mpr (h.2 a (by simp)), ?_⟩, by simpa using this⟩
    have hd := (List.nodup_append.mp h.1).2.2
    have : a ∉ pre := fun ha => hd a ha a (by simp) rfl
    simpa using this
theorem pm_subset_len : ∀ (l m : List Nat), l.Nodup → (∀ a ∈ l, a ∈ m) → l.length ≤ m.length := by
  intro l
  induction l with
  | nil => intro m _ _; simp
  | cons a l ih =>
    intro m hn hs
    have ha : a ∈ m := hs a (by simp)
    have hn' := List.nodup_cons.mp hn
    have := ih (m.erase a) hn'.2 (fun x hx => by
      have hxa : x ≠ a := fun e => hn'.1 (e ▸ hx)
      exact (List.mem_erase_of_ne hxa).mpr (hs x (List.mem_cons_of_mem _ hx)))
    rw [List.length_erase_of_mem ha] at this
    have hm : 0 < m.length := List.length_pos_of_mem ha
    simp only [List.length_cons]
    omega
theorem pm_free {n : Nat} {pre : List Nat} (hl : pre.length < n) : ∃ a, a < n ∧ a ∉ pre := by
  apply Classical.byContradiction
  intro h
  have hs : ∀ a ∈ List.range n, a ∈ pre := by
    intro a ha
    apply Classical.byContradiction
    intro hp
    exact h ⟨a, List.mem_range.mp ha, hp⟩
  have := pm_subset_len (List.range n) pre List.nodup_range hs
  rw [List.length_range] at this
  omega
theorem pm_ext_ne (n : Nat) : ∀ (k : Nat) (pre : List Nat), pre.length + k = n → pm_ext n k pre ≠ [] := by
  intro k
  induction k with
  | zero => intro pre _; simp [pm_ext]
  | succ k ih =>
    intro pre h
    obtain ⟨a, ha, hp⟩ := pm_free (n := n) (pre := pre) (by omega)
    have hne := ih (pre ++ [a]) (by simp; omega)
    intro e
    obtain ⟨π, hπ⟩ := List.exists_mem_of_ne_nil _ hne
    have : π ∈ pm_ext n (k + 1) pre := List.mem_flatMap.mpr ⟨a, List.mem_filter.mpr ⟨List.mem_range.mpr ha, by simpa using hp⟩, hπ⟩
    rw [e] at this
    cases this
theorem pm_fm {α β γ : Type} (f : γ → β → γ) (g : α → List β) : ∀ (l : List α) (S : γ), (l.flatMap g).foldl f S = l.foldl (fun S a => (g a).foldl f S) S := by
  intro l
  induction l with
  | nil => intro S; rfl
  | cons a l ih => intro S; rw [List.flatMap_cons, List.foldl_append, ih]; rfl
def pm_low (n : Nat) (row : List Nat → Nat → Nat) (pre : List Nat) : Nat := ((List.range n).filter (fun a => !pre.contains a)).foldl (fun m a => min m (row pre a)) pm_OP
theorem pm_min_le (f : Nat → Nat) : ∀ (l : List Nat) (m : Nat), l.foldl (fun m a => min m (f a)) m ≤ m ∧ ∀ a ∈ l, l.foldl (fun m a => min m (f a)) m ≤ f a := by
  intro l
  induction l with
  | nil => intro m; exact ⟨Nat.le_refl _, fun a h => by cases h⟩
  | cons x l ih =>
    intro m
    obtain ⟨h1, h2⟩ := ih (min m (f x))
    refine ⟨?_, fun a ha => ?_⟩
    · exact Nat.le_trans h1 (Nat.min_le_left _ _)
    · rcases List.mem_cons.mp ha with e | ha
      · subst e
        exact Nat.le_trans h1 (Nat.min_le_right _ _)
      · exact h2 a ha
theorem pm_min_eq (f : Nat → Nat) : ∀ (l : List Nat) (m : Nat), l.foldl (fun m a => min m (f a)) m = m ∨ ∃ a ∈ l, l.foldl (fun m a => min m (f a)) m = f a := by
  intro l
  induction l with
  | nil => intro m; exact Or.inl rfl
  | cons x l ih =>
    intro m
    rcases ih (min m (f x)) with h | ⟨a, ha, h⟩
    · by_cases hx : m ≤ f x
      · left
        rw [List.foldl_cons, h, Nat.min_eq_left hx]
      · right
        exact ⟨x, List.mem_cons_self, by rw [List.foldl_cons, h, Nat.min_eq_right (by omega)]⟩
    · right
      exact ⟨a, List.mem_cons_of_mem _ ha, by rw [List.foldl_cons]; exact h⟩
def pm_lp (good alone : Nat → Bool) (f : Nat → pm_S → pm_S) : List Nat → pm_S → pm_S
  | [], S => S
  | a :: as, S => if good a = true then (if alone a = true then f a S else pm_lp good alone f as (f a S)) else pm_lp good alone f as S
def pm_pl (n : Nat) (row : List Nat → Nat → Nat) (code : List Nat → Nat) (alone : Nat → Bool) : Nat → List Nat → pm_S → pm_S
  | 0, pre, S => if code pre < S.2.1 then (S.1, code pre, pre) else S
  | k + 1, pre, S =>
    if S.1.getD pre.length 0 < pm_low n row pre then S else
    pm_lp (fun a => !pre.contains a && decide (row pre a = pm_low n row pre)) alone (fun a T => pm_pl n row code alone k (pre ++ [a]) T) (List.range n)
      (if pm_low n row pre < S.1.getD pre.length 0 then (S.1.take pre.length ++ pm_low n row pre :: List.replicate k pm_OP, pm_OP, S.2.2) else S)
section PMX
variable {n : Nat} {row : List Nat → Nat → Nat} {code : List Nat → Nat} {alone : Nat → Bool}
theorem pm_x_rows {k : Nat} {pre π : List Nat} {a : Nat} (h : π ∈ pm_ext n k (pre ++ [a])) : ∃ Y, pm_rows row [] π = pm_rows row [] pre ++ row pre a :: Y ∧ Y.length = k ∧ π.length = pre.length + 1 + k ∧ ((∀ p b, pm_ok n (p ++ [b]) → row p b < pm_OP) → pm_ok n (pre ++ [a]) → ∀ y t, Y = y :: t → y < pm_OP) := by
  obtain ⟨suf, h1, h2, h3⟩ := pm_ext_mem n k _ _ h
  subst h1
  refine ⟨pm_rows row (pre ++ [a]) suf, ?_, by rw [pm_rows_len, h2], by simp [h2]; omega, ?_⟩
  · rw [pm_rows_app, pm_rows_app]
    simp [pm_rows]
  · intro hrow hok y t e
    cases suf with
    | nil => simp [pm_rows] at e
    | cons b suf =>
      simp only [pm_rows, List.cons.injEq] at e
      rw [← e.1]
      refine hrow _ _ ?_
      have := h3 hok
      have h4 : pre ++ [a] ++ b :: suf = (pre ++ [a] ++ [b]) ++ suf := by simp
      rw [h4] at this
      exact pm_ok_left this
/-- greater rows: nothing changes -/
theorem pm_x_gt {k : Nat} {pre : List Nat} {a v : Nat} {T : pm_S} {W : List Nat} (hT : T.1 = pm_rows row [] pre ++ v :: W) (hv : v < row pre a) : (pm_ext n k (pre ++ [a])).foldl (pm_step row code) T = T := by
  refine pm_fold_noop _ _ (fun π hπ => Or.inl ?_)
  obtain ⟨Y, h1, -⟩ := pm_x_rows (row := row) hπ
  rw [h1, hT, pm_lt_app]
  simp [pm_lt, hv]
/-- the shape of the rows behind some completions -/
theorem pm_x_shape {k x : Nat} {R : List Nat} (P : Nat → Prop) (hx : P x) : ∀ (C : List (List Nat)) (T : pm_S) (v : Nat) (W : List Nat), (∀ π ∈ C, ∃ Y, pm_rows row [] π = R ++ x :: Y ∧ Y.length = k) → T.1 = R ++ v :: W → W.length = k → P v → ∃ v' W', (C.foldl (pm_step row code) T).1 = R ++ v' :: W' ∧ W'.length = k ∧ P v' := by
  intro C
  induction C with
  | nil => intro T v W _ hT hW hv; exact ⟨v, W, hT, hW, hv⟩
  | cons π C ih =>
    intro T v W hC hT hW hv
    obtain ⟨Y, h1, h2⟩ := hC π List.mem_cons_self
    have hC' : ∀ π ∈ C, ∃ Y, pm_rows row [] π = R ++ x :: Y ∧ Y.length = k := fun y hy => hC y (List.mem_cons_of_mem _ hy)
    rw [List.foldl_cons]
    unfold pm_step
    split
    · exact ih _ x Y hC' h1 h2 hx
    · split
      · split
        · exact ih _ v W hC' hT hW hv
        · exact ih _ v W hC' hT hW hv
      · exact ih _ v W hC' hT hW hv
/-- lesser rows: what was known before counts no more -/
theorem pm_x_reset {k : Nat} {pre : List Nat} {a v : Nat} {T : pm_S} {W b : List Nat} (hrow : ∀ p b, pm_ok n (p ++ [b]) → row p b < pm_OP) (hcode : ∀ π, pm_ok n π → π.length = n → code π < pm_OP) (hok : pm_ok n (pre ++ [a])) (hn : pre.length + (k + 1) = n) (hT : T.1 = pm_rows row [] pre ++ v :: W) (hv : row pre a < v) :
    (pm_ext n k (pre ++ [a])).foldl (pm_step row code) T = (pm_ext n k (pre ++ [a])).foldl (pm_step row code) (pm_rows row [] pre ++ row pre a :: List.replicate k pm_OP, pm_OP, b) := by
  have hne := pm_ext_ne n k (pre ++ [a]) (by simp; omega)
  cases hC : pm_ext n k (pre ++ [a]) with
  | nil => exact absurd hC hne
  | cons π C =>
    have hπ : π ∈ pm_ext n k (pre ++ [a]) := by rw [hC]; exact List.mem_cons_self
    obtain ⟨Y, h1, h2, h3, h4⟩ := pm_x_rows (row := row) hπ
    obtain ⟨suf, g1, g2, g3⟩ := pm_ext_mem n k _ _ hπ
    have hcp := hcode π (g3 hok) (by rw [h3]; omega)
    have e1 : pm_step row code T π = (pm_rows row [] π, code π, π) := by
      unfold pm_step
      rw [if_pos]
      rw [h1, hT, pm_lt_app]
      simp [pm_lt, hv]
    have e2 : pm_step row code (pm_rows row [] pre ++ row pre a :: List.replicate k pm_OP, pm_OP, b) π = (pm_rows row [] π, code π, π) := by
      unfold pm_step
      cases Y with
      | nil =>
        have hk : k = 0 := by simpa using h2.symm
        subst hk
        rw [h1]
        simp [pm_lt_irr, hcp]
      | cons y t =>
        have hy := h4 hrow hok y t rfl
        have hk : ∃ j, k = j + 1 := ⟨t.length, by rw [← h2]; rfl⟩
        obtain ⟨j, rfl⟩ := hk
        rw [if_pos]
        rw [h1, pm_lt_app]
        simp [pm_lt, List.replicate_succ, hy]
    rw [List.foldl_cons, List.foldl_cons, e1, e2]
theorem pm_x_loopA {k low : Nat} {pre : List Nat} (hok : pm_ok n pre) (hn : pre.length + (k + 1) = n)
    (hal : ∀ a b, pm_ok n (pre ++ [a]) → pm_ok n (pre ++ [b]) → alone a = true → row pre b = row pre a → ∀ π ∈ pm_ext n k (pre ++ [b]), ∃ π' ∈ pm_ext n k (pre ++ [a]), pm_rows row [] π' = pm_rows row [] π ∧ code π' = code π)
    (ih : ∀ a T, pm_ok n (pre ++ [a]) → T.1.length = n → T.1.take (pre.length + 1) = pm_rows row [] pre ++ [row pre a] → pm_pl n row code alone k (pre ++ [a]) T = (pm_ext n k (pre ++ [a])).foldl (pm_step row code) T)
    (hlow : ∀ a, a < n → a ∉ pre → low ≤ row pre a) :
    ∀ (as : List Nat) (T : pm_S) (W : List Nat), (∀ a ∈ as, a < n) → T.1 = pm_rows row [] pre ++ low :: W → W.length = k →
      pm_lp (fun a => !pre.contains a && decide (row pre a = low)) alone (fun a T => pm_pl n row code alone k (pre ++ [a]) T) as T = (as.filter (fun a => !pre.contains a)).foldl (fun T a => (pm_ext n k (pre ++ [a])).foldl (pm_step row code) T) T := by
  intro as
  induction as with
  | nil => intro T W _ _ _; rfl
  | cons a as iha =>
    intro T W has hT hW
    have ha := has a List.mem_cons_self
    have has' : ∀ x ∈ as, x < n := fun x hx => has x (List.mem_cons_of_mem _ hx)
    by_cases hp : a ∈ pre
    · have hc : (!pre.contains a) = false := by simp [hp]
      rw [List.filter_cons_of_neg (p := fun a => !pre.contains a) (by rw [hc]; decide)]
      unfold pm_lp
      rw [if_neg (by rw [hc]; simp)]
      exact iha T W has' hT hW
    · have hc : (!pre.contains a) = true := by simp [hp]
      rw [List.filter_cons_of_pos (p := fun a => !pre.contains a) hc, List.foldl_cons]
      have hoka := pm_ok_snoc hok ha hp
      unfold pm_lp
      by_cases hr : row pre a = low
      · rw [if_pos (by rw [hc, decide_eq_true hr]; rfl)]
        have hlen : T.1.length = n := by rw [hT]; simp [pm_rows_len, hW]; omega
        have e := ih a T hoka hlen (by rw [hT, hr]; rw [List.take_append, pm_rows_len]; simp [pm_rows_len]; exact List.take_of_length_le (by rw [pm_rows_len]; omega))
        rw [e]
        obtain ⟨v', W', s1, s2, s3⟩ := pm_x_shape (row := row) (code := code) (k := k) (x := low) (R := pm_rows row [] pre) (fun z => z = low) rfl (pm_ext n k (pre ++ [a])) T low W (fun π hπ => by obtain ⟨Y, y1, y2, -⟩ := pm_x_rows (row := row) hπ; exact ⟨Y, by rw [y1, hr], y2⟩) hT hW rfl
        subst s3
        by_cases hl : alone a = true
        · rw [if_pos hl]
          have hlen2 : ∀ π ∈ pm_ext n k (pre ++ [a]), π.length = n := fun π hπ => by obtain ⟨Y, -, -, y3, -⟩ := pm_x_rows (row := row) hπ; omega
          have hseen := pm_fold_seen (row := row) (code := code) (n := n) (pm_ext n k (pre ++ [a])) T hlen hlen2
          generalize hT2 : (pm_ext n k (pre ++ [a])).foldl (pm_step row code) T = T2 at s1 hseen
          symm
          have key : ∀ (bs : List Nat), (∀ b ∈ bs, b < n ∧ b ∉ pre) → bs.foldl (fun T a => (pm_ext n k (pre ++ [a])).foldl (pm_step row code) T) T2 = T2 := by
            intro bs
            induction bs with
            | nil => intro _; rfl
            | cons b bs ihb =>
              intro hb
              obtain ⟨b1, b2⟩ := hb b List.mem_cons_self
              rw [List.foldl_cons]
              have hno : (pm_ext n k (pre ++ [b])).foldl (pm_step row code) T2 = T2 := by
                by_cases hrb : row pre b = v'
                · refine pm_fold_noop _ _ (fun π hπ => ?_)
                  obtain ⟨π', p1, p2, p3⟩ := hal a b hoka (pm_ok_snoc hok b1 b2) hl (by rw [hrb, hr]) π hπ
                  rw [← p2, ← p3]
                  exact hseen π' p1
                · have := hlow b b1 b2
                  exact pm_x_gt s1 (by omega)
              rw [hno]
              exact ihb (fun x hx => hb x (List.mem_cons_of_mem _ hx))
          refine key _ (fun b hb => ?_)
          obtain ⟨q1, q2⟩ := List.mem_filter.mp hb
          exact ⟨has' b q1, by simpa using q2⟩
        · rw [if_neg hl]
          exact iha _ W' has' s1 s2
      · rw [if_neg (by rw [hc, decide_eq_false hr]; decide)]
        have hno : (pm_ext n k (pre ++ [a])).foldl (pm_step row code) T = T := pm_x_gt hT (by have := hlow a ha hp; omega)
        rw [hno]
        exact iha T W has' hT hW
theorem pm_x_loopB {k low : Nat} {pre b : List Nat} (hok : pm_ok n pre) (hn : pre.length + (k + 1) = n)
    (hrow : ∀ p b, pm_ok n (p ++ [b]) → row p b < pm_OP) (hcode : ∀ π, pm_ok n π → π.length = n → code π < pm_OP)
    (hal : ∀ a b, pm_ok n (pre ++ [a]) → pm_ok n (pre ++ [b]) → alone a = true → row pre b = row pre a → ∀ π ∈ pm_ext n k (pre ++ [b]), ∃ π' ∈ pm_ext n k (pre ++ [a]), pm_rows row [] π' = pm_rows row [] π ∧ code π' = code π)
    (ih : ∀ a T, pm_ok n (pre ++ [a]) → T.1.length = n → T.1.take (pre.length + 1) = pm_rows row [] pre ++ [row pre a] → pm_pl n row code alone k (pre ++ [a]) T = (pm_ext n k (pre ++ [a])).foldl (pm_step row code) T)
    (hlow : ∀ a, a < n → a ∉ pre → low ≤ row pre a) :
    ∀ (as : List Nat) (T : pm_S) (v : Nat) (W : List Nat), (∀ a ∈ as, a < n) → T.1 = pm_rows row [] pre ++ v :: W → W.length = k → low < v → (∃ a ∈ as, a ∉ pre ∧ row pre a = low) →
      pm_lp (fun a => !pre.contains a && decide (row pre a = low)) alone (fun a T => pm_pl n row code alone k (pre ++ [a]) T) as (pm_rows row [] pre ++ low :: List.replicate k pm_OP, pm_OP, b) = (as.filter (fun a => !pre.contains a)).foldl (fun T a => (pm_ext n k (pre ++ [a])).foldl (pm_step row code) T) T := by
  intro as
  induction as with
  | nil => intro T v W _ _ _ _ h; obtain ⟨a, ha, -⟩ := h; cases ha
  | cons a as iha =>
    intro T v W has hT hW hv hex
    have ha := has a List.mem_cons_self
    have has' : ∀ x ∈ as, x < n := fun x hx => has x (List.mem_cons_of_mem _ hx)
    by_cases hr : a ∉ pre ∧ row pre a = low
    · obtain ⟨hp, hr⟩ := hr
      have hc : (!pre.contains a) = true := by simp [hp]
      have hoka := pm_ok_snoc hok ha hp
      have hA := pm_x_loopA (n := n) (row := row) (code := code) (alone := alone) hok hn hal ih hlow (a :: as) (pm_rows row [] pre ++ low :: List.replicate k pm_OP, pm_OP, b) (List.replicate k pm_OP) has rfl (by simp)
      rw [hA, List.filter_cons_of_pos (p := fun a => !pre.contains a) hc, List.foldl_cons, List.foldl_cons]
      have e := pm_x_reset (n := n) (row := row) (code := code) (k := k) (b := b) hrow hcode hoka hn hT (by rw [hr]; exact hv)
      rw [e, hr]
    · have hex' : ∃ x ∈ as, x ∉ pre ∧ row pre x = low := by
        obtain ⟨x, h1, h2⟩ := hex
        rcases List.mem_cons.mp h1 with e | h1
        · subst e; exact absurd h2 hr
        · exact ⟨x, h1, h2⟩
      by_cases hp : a ∈ pre
      · have hc : (!pre.contains a) = false := by simp [hp]
        rw [List.filter_cons_of_neg (p := fun a => !pre.contains a) (by rw [hc]; decide)]
        unfold pm_lp
        rw [if_neg (by rw [hc]; simp)]
        exact iha T v W has' hT hW hv hex'
      · have hc : (!pre.contains a) = true := by simp [hp]
        have hr' : ¬ row pre a = low := fun e => hr ⟨hp, e⟩
        rw [List.filter_cons_of_pos (p := fun a => !pre.contains a) hc, List.foldl_cons]
        unfold pm_lp
        rw [if_neg (by rw [hc, decide_eq_false hr']; decide)]
        have hgt : low < row pre a := by have := hlow a ha hp; omega
        obtain ⟨v', W', s1, s2, s3⟩ := pm_x_shape (row := row) (code := code) (k := k) (x := row pre a) (R := pm_rows row [] pre) (fun z => low < z) hgt (pm_ext n k (pre ++ [a])) T v W (fun π hπ => by obtain ⟨Y, y1, y2, -⟩ := pm_x_rows (row := row) hπ; exact ⟨Y, y1, y2⟩) hT hW hv
        exact iha _ v' W' has' s1 s2 s3 hex'
theorem pm_pl_eq (hrow : ∀ p b, pm_ok n (p ++ [b]) → row p b < pm_OP) (hcode : ∀ π, pm_ok n π → π.length = n → code π < pm_OP)
    (hal : ∀ k pre a b, pre.length + (k + 1) = n → pm_ok n (pre ++ [a]) → pm_ok n (pre ++ [b]) → alone a = true → row pre b = row pre a → ∀ π ∈ pm_ext n k (pre ++ [b]), ∃ π' ∈ pm_ext n k (pre ++ [a]), pm_rows row [] π' = pm_rows row [] π ∧ code π' = code π) :
    ∀ (k : Nat) (pre : List Nat) (S : pm_S), pm_ok n pre → pre.length + k = n → S.1.length = n → S.1.take pre.length = pm_rows row [] pre → pm_pl n row code alone k pre S = (pm_ext n k pre).foldl (pm_step row code) S := by
  intro k
  induction k with
  | zero =>
    intro pre S hok hn hS hR
    have e : S.1 = pm_rows row [] pre := by
      rw [← hR]
      exact (List.take_of_length_le (by omega)).symm
    show (if code pre < S.2.1 then (S.1, code pre, pre) else S) = pm_step row code S pre
    unfold pm_step
    rw [← e]
    simp [pm_lt_irr]
  | succ k ihk =>
    intro pre S hok hn hS hR
    have hlow : ∀ a, a < n → a ∉ pre → pm_low n row pre ≤ row pre a := fun a ha hp => (pm_min_le (row pre) _ pm_OP).2 a (List.mem_filter.mpr ⟨List.mem_range.mpr ha, by simp [hp]⟩)
    have hex : ∃ a ∈ List.range n, a ∉ pre ∧ row pre a = pm_low n row pre := by
      rcases pm_min_eq (row pre) ((List.range n).filter (fun a => !pre.contains a)) pm_OP with h | ⟨a, ha, h⟩
      · obtain ⟨a, ha, hp⟩ := pm_free (n := n) (pre := pre) (by omega)
        have h1 := hlow a ha hp
        have h2 := hrow pre a (pm_ok_snoc hok ha hp)
        have h3 : pm_low n row pre = pm_OP := h
        omega
      · obtain ⟨g1, g2⟩ := pm_good ha
        exact ⟨a, List.mem_range.mpr g1, g2, h.symm⟩
    have ih : ∀ a T, pm_ok n (pre ++ [a]) → T.1.length = n → T.1.take (pre.length + 1) = pm_rows row [] pre ++ [row pre a] → pm_pl n row code alone k (pre ++ [a]) T = (pm_ext n k (pre ++ [a])).foldl (pm_step row code) T := by
      intro a T ho hl ht
      refine ihk (pre ++ [a]) T ho (by simp; omega) hl ?_
      rw [List.length_append, List.length_singleton, ht, pm_rows_app]
      rfl
    have hsplit : ∃ v W, S.1 = pm_rows row [] pre ++ v :: W ∧ W.length = k ∧ S.1.getD pre.length 0 = v := by
      have hd : S.1 = S.1.take pre.length ++ S.1.drop pre.length := (List.take_append_drop _ _).symm
      have hdl : (S.1.drop pre.length).length = k + 1 := by rw [List.length_drop]; omega
      cases hdd : S.1.drop pre.length with
      | nil => rw [hdd] at hdl; simp at hdl
      | cons v W =>
        rw [hdd] at hdl
        refine ⟨v, W, by rw [← hR, ← hdd]; exact hd, by simpa using hdl, ?_⟩
        rw [hd, hdd, List.getD_eq_getElem?_getD, List.getElem?_append_right (by rw [List.length_take]; omega)]
        have : pre.length - (List.take pre.length S.1).length = 0 := by rw [List.length_take]; omega
        rw [this]
        rfl
    obtain ⟨v, W, hS1, hW, hv⟩ := hsplit
    have hrn : ∀ a ∈ List.range n, a < n := fun a ha => List.mem_range.mp ha
    have e0 : (pm_ext n (k + 1) pre).foldl (pm_step row code) S = ((List.range n).filter (fun a => !pre.contains a)).foldl (fun T a => (pm_ext n k (pre ++ [a])).foldl (pm_step row code) T) S := pm_fm _ _ _ _
    rw [e0]
    unfold pm_pl
    rw [hv]
    by_cases h1 : v < pm_low n row pre
    · rw [if_pos h1]
      symm
      have key : ∀ (bs : List Nat), (∀ b ∈ bs, b < n ∧ b ∉ pre) → bs.foldl (fun T a => (pm_ext n k (pre ++ [a])).foldl (pm_step row code) T) S = S := by
        intro bs
        induction bs with
        | nil => intro _; rfl
        | cons b bs ihb =>
          intro hb
          obtain ⟨b1, b2⟩ := hb b List.mem_cons_self
          rw [List.foldl_cons, pm_x_gt hS1 (by have := hlow b b1 b2; omega)]
          exact ihb (fun x hx => hb x (List.mem_cons_of_mem _ hx))
      exact key _ (fun b hb => pm_good hb)
    · rw [if_neg h1]
      by_cases h2 : pm_low n row pre < v
      · rw [if_pos h2, hR]
        exact pm_x_loopB hok hn hrow hcode (fun a b => hal k pre a b hn) ih hlow (List.range n) S v W hrn hS1 hW h2 hex
      · rw [if_neg h2]
        have h3 : v = pm_low n row pre := by omega
        exact pm_x_loopA hok hn (fun a b => hal k pre a b hn) ih hlow (List.range n) S W hrn (by rw [hS1, h3]) hW
end PMX
end
section
/-! the other way to go through the numberings: one list of all of them, those of the least rows are kept -/
def pm_rst (row : List Nat → Nat → Nat) (A : List Nat × List (List Nat)) (π : List Nat) : List Nat × List (List Nat) :=
  if A.2 = [] then (pm_rows row [] π, [π])
  else if pm_lt (pm_rows row [] π) A.1 = true then (pm_rows row [] π, [π])
  else if pm_rows row [] π = A.1 then (A.1, A.2 ++ [π]) else A
def pm_mf (code : List Nat → Nat) (ms : List (List Nat)) (S : Nat × List Nat) : Nat × List Nat := ms.foldl (fun S π => if code π < S.1 then (code π, π) else S) S
theorem pm_link {n : Nat} {row : List Nat → Nat → Nat} {code : List Nat → Nat} (b0 : List Nat) (hrow : ∀ a t, pm_ok n (a :: t) → row [] a < pm_OP) (hcode : ∀ π, pm_ok n π → π.length = n → code π < pm_OP) :
    ∀ (C : List (List Nat)) (A : List Nat × List (List Nat)) (S : pm_S), (∀ π ∈ C, pm_ok n π ∧ π.length = n) →
      ((A.2 = [] ∧ S = (List.replicate n pm_OP, pm_OP, b0)) ∨ (A.2 ≠ [] ∧ S.1 = A.1 ∧ S.2 = pm_mf code A.2 (pm_OP, b0))) →
      (((C.foldl (pm_rst row) A).2 = [] ∧ C.foldl (pm_step row code) S = (List.replicate n pm_OP, pm_OP, b0)) ∨ ((C.foldl (pm_rst row) A).2 ≠ [] ∧ (C.foldl (pm_step row code) S).1 = (C.foldl (pm_rst row) A).1 ∧ (C.foldl (pm_step row code) S).2 = pm_mf code (C.foldl (pm_rst row) A).2 (pm_OP, b0))) := by
  intro C
  induction C with
  | nil => intro A S _ h; exact h
  | cons π C ih =>
    intro A S hC h
    obtain ⟨ho, hl⟩ := hC π List.mem_cons_self
    have hcp := hcode π ho hl
    rw [List.foldl_cons, List.foldl_cons]
    refine ih _ _ (fun x hx => hC x (List.mem_cons_of_mem _ hx)) (Or.inr ?_)
    have e1 : pm_mf code [π] (pm_OP, b0) = (code π, π) := by simp [pm_mf, hcp]
    rcases h with ⟨h1, h2⟩ | ⟨h1, h2, h3⟩
    · subst h2
      have hr : pm_rst row A π = (pm_rows row [] π, [π]) := by unfold pm_rst; rw [if_pos h1]
      have hs : pm_step row code (List.replicate n pm_OP, pm_OP, b0) π = (pm_rows row [] π, code π, π) := by
        unfold pm_step
        cases π with
        | nil =>
          have hn : n = 0 := by simpa using hl.symm
          subst hn
          simp [pm_rows, pm_lt, hcp]
        | cons a t =>
          have ha := hrow a t ho
          have hn : ∃ j, n = j + 1 := ⟨t.length, by rw [← hl]; rfl⟩
          obtain ⟨j, rfl⟩ := hn
          rw [if_pos]
          simp [pm_rows, pm_lt, List.replicate_succ, ha]
      rw [hr, hs]
      exact ⟨by simp, rfl, e1.symm⟩
    · unfold pm_rst pm_step
      rw [if_neg h1, h2]
      by_cases g1 : pm_lt (pm_rows row [] π) A.1 = true
      · rw [if_pos g1, if_pos g1]
        exact ⟨by simp, rfl, e1.symm⟩
      · rw [if_neg g1, if_neg g1]
        by_cases g2 : pm_rows row [] π = A.1
        · rw [if_pos g2, if_pos g2]
          refine ⟨by simp, ?_, ?_⟩
          · split
            · rfl
            · exact h2
          · have e2 : pm_mf code (A.2 ++ [π]) (pm_OP, b0) = if code π < S.2.1 then (code π, π) else S.2 := by
              unfold pm_mf
              rw [List.foldl_append]
              show (if code π < (pm_mf code A.2 (pm_OP, b0)).1 then (code π, π) else pm_mf code A.2 (pm_OP, b0)) = _
              rw [← h3]
            show _ = pm_mf code (A.2 ++ [π]) (pm_OP, b0)
            rw [e2]
            split <;> rfl
        · rw [if_neg g2, if_neg g2]
          exact ⟨h1, h2, h3⟩
/-- those that are kept are those whose rows are the least, in their order -/
theorem pm_kept {n : Nat} {row : List Nat → Nat → Nat} : ∀ (C B : List (List Nat)) (A : List Nat × List (List Nat)), (∀ π ∈ C, π.length = n) →
    ((A.2 = [] ∧ B = []) ∨ (A.2 ≠ [] ∧ A.1.length = n ∧ A.2 = B.filter (fun π => decide (pm_rows row [] π = A.1)) ∧ ∀ π ∈ B, pm_lt (pm_rows row [] π) A.1 = false)) →
    (((C.foldl (pm_rst row) A).2 = [] ∧ B ++ C = []) ∨ ((C.foldl (pm_rst row) A).2 ≠ [] ∧ (C.foldl (pm_rst row) A).1.length = n ∧ (C.foldl (pm_rst row) A).2 = (B ++ C).filter (fun π => decide (pm_rows row [] π = (C.foldl (pm_rst row) A).1)) ∧ ∀ π ∈ B ++ C, pm_lt (pm_rows row [] π) (C.foldl (pm_rst row) A).1 = false)) := by
  intro C
  induction C with
  | nil => intro B A _ h; rw [List.append_nil]; exact h
  | cons π C ih =>
    intro B A hC h
    have hl := hC π List.mem_cons_self
    have e : B ++ π :: C = (B ++ [π]) ++ C := by simp
    rw [List.foldl_cons, e]
    refine ih (B ++ [π]) _ (fun x hx => hC x (List.mem_cons_of_mem _ hx)) (Or.inr ?_)
    have hlr : (pm_rows row [] π).length = n := by rw [pm_rows_len]; exact hl
    rcases h with ⟨h1, h2⟩ | ⟨h1, h2, h3, h4⟩
    · subst h2
      have hr : pm_rst row A π = (pm_rows row [] π, [π]) := by unfold pm_rst; rw [if_pos h1]
      rw [hr]
      refine ⟨by simp, hlr, by simp, ?_⟩
      intro x hx
      have : x = π := by simpa using hx
      subst this
      exact pm_lt_irr _
    · unfold pm_rst
      rw [if_neg h1]
      by_cases g1 : pm_lt (pm_rows row [] π) A.1 = true
      · rw [if_pos g1]
        have hno : ∀ x ∈ B, ¬ pm_rows row [] x = pm_rows row [] π := by
          intro x hx ex
          have := h4 x hx
          rw [ex, g1] at this
          cases this
        refine ⟨by simp, hlr, ?_, ?_⟩
        · show [π] = _
          rw [List.filter_append]
          have : B.filter (fun x => decide (pm_rows row [] x = pm_rows row [] π)) = [] := List.filter_eq_nil_iff.mpr (fun x hx => by simpa using hno x hx)
          rw [this]
          simp
        · intro x hx
          rcases List.mem_append.mp hx with hx | hx
          · cases hq : pm_lt (pm_rows row [] x) (pm_rows row [] π) with
            | false => rfl
            | true =>
              have := pm_lt_trans _ _ _ hq g1
              rw [h4 x hx] at this
              cases this
          · have : x = π := by simpa using hx
            subst this
            exact pm_lt_irr _
      · rw [if_neg g1]
        have g1' : pm_lt (pm_rows row [] π) A.1 = false := by simpa using g1
        have hall : ∀ x ∈ B ++ [π], pm_lt (pm_rows row [] x) A.1 = false := by
          intro x hx
          rcases List.mem_append.mp hx with hx | hx
          · exact h4 x hx
          · have : x = π := by simpa using hx
            subst this
            exact g1'
        by_cases g2 : pm_rows row [] π = A.1
        · rw [if_pos g2]
          refine ⟨by simp, h2, ?_, hall⟩
          show A.2 ++ [π] = _
          rw [List.filter_append, ← h3]
          simp [g2]
        · rw [if_neg g2]
          refine ⟨h1, h2, ?_, hall⟩
          rw [List.filter_append, ← h3]
          simp [g2]
/-- the least rows are known: only those that have them count -/
theorem pm_again {n : Nat} {row : List Nat → Nat → Nat} {code : List Nat → Nat} {R : List Nat} (hR : R.length = n) : ∀ (C : List (List Nat)) (s : Nat × List Nat), (∀ π ∈ C, π.length = n ∧ pm_lt (pm_rows row [] π) R = false) →
    C.foldl (pm_step row code) (R, s) = (R, pm_mf code (C.filter (fun π => decide (pm_rows row [] π = R))) s) := by
  intro C
  induction C with
  | nil => intro s _; rfl
  | cons π C ih =>
    intro s hC
    obtain ⟨hl, hlt⟩ := hC π List.mem_cons_self
    have hC' : ∀ π ∈ C, π.length = n ∧ pm_lt (pm_rows row [] π) R = false := fun x hx => hC x (List.mem_cons_of_mem _ hx)
    rw [List.foldl_cons]
    by_cases g : pm_rows row [] π = R
    · rw [List.filter_cons_of_pos (by simpa using g)]
      have hs : pm_step row code (R, s) π = (R, if code π < s.1 then (code π, π) else s) := by
        unfold pm_step
        rw [if_neg (by rw [hlt]; decide), if_pos g]
        split <;> rfl
      rw [hs, ih _ hC']
      rfl
    · rw [List.filter_cons_of_neg (by simpa using g)]
      have hs : pm_step row code (R, s) π = (R, s) := by
        unfold pm_step
        rw [if_neg (by rw [hlt]; decide), if_neg g]
      rw [hs, ih _ hC']
/-! the next numbering -/
def pm_fi (p : List Nat) : Nat → Option Nat
  | 0 => none
  | i + 1 => if p.getD (i + 1) 0 < p.getD i 0 then pm_fi p i else some i
def pm_fj (p : List Nat) (x : Nat) : Nat → Nat
  | 0 => 0
  | j + 1 => if p.getD (j + 1) 0 < x then pm_fj p x j else j + 1
def pm_sw (p : List Nat) (i j : Nat) : List Nat := (p.set i (p.getD j 0)).set j (p.getD i 0)
def pm_rv (n i : Nat) : Nat → Nat → List Nat → List Nat
  | 0, _, p => p
  | f + 1, k, p => if i + k < n - k then pm_rv n i f (k + 1) (pm_sw p (i + k) (n - k)) else p
def pm_nx (n : Nat) (p : List Nat) : Option (List Nat) := match pm_fi p (n - 1) with
  | none => none
  | some i => some (pm_rv n i n 1 (pm_sw p i (pm_fj p (p.getD i 0) (n - 1))))
def pm_seq (n : Nat) : Nat → List Nat → List (List Nat)
  | 0, _ => []
  | f + 1, p => p :: (match pm_nx n p with | none => [] | some p' => pm_seq n f p')
def pm_eqL : List Nat → List Nat → Bool
  | [], [] => true
  | a :: s, b :: t => Nat.beq a b && pm_eqL s t
  | _, _ => false
def pm_nxb (n : Nat) (p q : List Nat) : Bool := match pm_nx n p with
  | none => false
  | some r => pm_eqL r q
def pm_chk (n : Nat) : List (List Nat) → Bool
  | [] => true
  | [_] => true
  | p :: q :: t => pm_nxb n p q && pm_chk n (q :: t)
set_option maxRecDepth 100000 in
theorem pm_chk_5 : pm_chk 7 (pm_ext 7 6 [2]) = true := by decide +kernel
end
section
/-! a number that turns its sign with each two neighbours that stand the other way round -/
def ps_s (num : Nat → Nat) (x y : Nat) : Int := if num y < num x then -1 else 1
def ps_pr (num : Nat → Nat) (x : Nat) : List Nat → Int
  | [] => 1
  | y :: L => ps_s num x y * ps_pr num x L
def ps_ql (num : Nat → Nat) (z : Nat) : List Nat → Int
  | [] => 1
  | y :: L => ps_s num y z * ps_ql num z L
def ps_sg (num : Nat → Nat) : List Nat → Int
  | [] => 1
  | x :: L => ps_pr num x L * ps_sg num L
def ps_in (num : Nat → Nat) (x : Nat) : List Nat → List Nat
  | [] => [x]
  | y :: L => if num y < num x then y :: ps_in num x L else x :: y :: L
def ps_st (num : Nat → Nat) : List Nat → List Nat
  | [] => []
  | x :: L => ps_in num x (ps_st num L)
def ps_so (num : Nat → Nat) (L : List Nat) : Prop := L.Pairwise (fun a b => num a < num b)
theorem ps_in_mem (num : Nat → Nat) (x : Nat) : ∀ (L : List Nat) (a : Nat), a ∈ ps_in num x L ↔ a = x ∨ a ∈ L := by
  intro L
  induction L with
  | nil => intro a; simp [ps_in]
  | cons y L ih =>
    intro a
    unfold ps_in
    split
    · simp only [List.mem_cons, ih]
      constructor
      · rintro (h | h | h)
        · exact Or.inr (Or.inl h)
        · exact Or.inl h
        · exact Or.inr (Or.inr h)
      · rintro (h | h | h)
        · exact Or.inr (Or.inl h)
        · exact Or.inl h
        · exact Or.inr (Or.inr h)
    · simp
theorem ps_st_mem (num : Nat → Nat) : ∀ (L : List Nat) (a : Nat), a ∈ ps_st num L ↔ a ∈ L := by
  intro L
  induction L with
  | nil => intro a; simp [ps_st]
  | cons x L ih => intro a; simp [ps_st, ps_in_mem, ih]
theorem ps_in_so (num : Nat → Nat) (x : Nat) : ∀ (L : List Nat), ps_so num L → (∀ y ∈ L, num y ≠ num x) → ps_so num (ps_in num x L) := by
  intro L
  induction L with
  | nil => intro _ _; simp [ps_in, ps_so]
  | cons y L ih =>
    intro hs hn
    obtain ⟨h1, h2⟩ := List.pairwise_cons.mp hs
    unfold ps_in
    split
    · rename_i h
      refine List.pairwise_cons.mpr ⟨fun a ha => ?_, ih h2 (fun z hz => hn z (List.mem_cons_of_mem _ hz))⟩
      rcases (ps_in_mem num x L a).mp ha with e | ha
      · subst e; exact h
      · exact h1 a ha
    · rename_i h
      have hxy : num x < num y := by have := hn y List.mem_cons_self; omega
      refine List.pairwise_cons.mpr ⟨fun a ha => ?_, hs⟩
      rcases List.mem_cons.mp ha with e | ha
      · subst e; exact hxy
      · exact Nat.lt_trans hxy (h1 a ha)
theorem ps_st_so (num : Nat → Nat) : ∀ (L : List Nat), L.Nodup → (∀ a ∈ L, ∀ b ∈ L, num a = num b → a = b) → ps_so num (ps_st num L) := by
  intro L
  induction L with
  | nil => intro _ _; simp [ps_st, ps_so]
  | cons x L ih =>
    intro hn hi
    obtain ⟨h1, h2⟩ := List.nodup_cons.mp hn
    refine ps_in_so num x _ (ih h2 (fun a ha b hb => hi a (List.mem_cons_of_mem _ ha) b (List.mem_cons_of_mem _ hb))) (fun y hy e => ?_)
    have hy' := (ps_st_mem num L y).mp hy
    have := hi y (List.mem_cons_of_mem _ hy') x List.mem_cons_self e
    subst this
    exact h1 hy'
theorem ps_uni (num : Nat → Nat) : ∀ (l m : List Nat), ps_so num l → ps_so num m → (∀ a, a ∈ l ↔ a ∈ m) → l = m := by
  intro l
  induction l with
  | nil =>
    intro m _ _ h
    cases m with
    | nil => rfl
    | cons b m => exact absurd ((h b).mpr List.mem_cons_self) (by simp)
  | cons a l ih =>
    intro m hl hm h
    cases m with
    | nil => exact absurd ((h a).mp List.mem_cons_self) (by simp)
    | cons b m =>
      obtain ⟨l1, l2⟩ := List.pairwise_cons.mp hl
      obtain ⟨m1, m2⟩ := List.pairwise_cons.mp hm
      have hab : a = b := by
        rcases List.mem_cons.mp ((h a).mp List.mem_cons_self) with e | e
        · exact e
        · rcases List.mem_cons.mp ((h b).mpr List.mem_cons_self) with e2 | e2
          · exact e2.symm
          · have q1 := m1 a e
            have q2 := l1 b e2
            omega
      subst hab
      refine congrArg (a :: ·) (ih m l2 m2 (fun x => ?_))
      constructor
      · intro hx
        rcases List.mem_cons.mp ((h x).mp (List.mem_cons_of_mem _ hx)) with e | e
        · subst e; have := l1 x hx; omega
        · exact e
      · intro hx
        rcases List.mem_cons.mp ((h x).mpr (List.mem_cons_of_mem _ hx)) with e | e
        · subst e; have := m1 x hx; omega
        · exact e
theorem ps_pr_in (num : Nat → Nat) (x y : Nat) : ∀ L : List Nat, ps_pr num x (ps_in num y L) = ps_s num x y * ps_pr num x L := by
  intro L
  induction L with
  | nil => rfl
  | cons z L ih =>
    unfold ps_in
    split
    · show ps_s num x z * ps_pr num x (ps_in num y L) = ps_s num x y * (ps_s num x z * ps_pr num x L)
      rw [ih, Int.mul_left_comm]
    · rfl
theorem ps_pr_st (num : Nat → Nat) (x : Nat) : ∀ L : List Nat, ps_pr num x (ps_st num L) = ps_pr num x L := by
  intro L
  induction L with
  | nil => rfl
  | cons z L ih =>
    show ps_pr num x (ps_in num z (ps_st num L)) = ps_s num x z * ps_pr num x L
    rw [ps_pr_in, ih]
theorem ps_pr_1 (num : Nat → Nat) (x : Nat) : ∀ L : List Nat, (∀ y ∈ L, ¬ num y < num x) → ps_pr num x L = 1 := by
  intro L
  induction L with
  | nil => intro _; rfl
  | cons y L ih =>
    intro h
    show ps_s num x y * ps_pr num x L = 1
    rw [ih (fun z hz => h z (List.mem_cons_of_mem _ hz))]
    unfold ps_s
    rw [if_neg (h y List.mem_cons_self)]
    rfl
theorem ps_in_D {num : Nat → Nat} {F : List Nat → Int} (hF : ∀ l1 x y l2, F (l1 ++ y :: x :: l2) = - F (l1 ++ x :: y :: l2)) (x : Nat) : ∀ (L l1 : List Nat), ps_so num L → F (l1 ++ ps_in num x L) = ps_pr num x L * F (l1 ++ x :: L) := by
  intro L
  induction L with
  | nil => intro l1 _; simp [ps_in, ps_pr]
  | cons y L ih =>
    intro l1 hs
    obtain ⟨h1, h2⟩ := List.pairwise_cons.mp hs
    unfold ps_in
    split
    · rename_i h
      have e := ih (l1 ++ [y]) h2
      simp only [List.append_assoc, List.singleton_append] at e
      rw [e, hF l1 x y L]
      show _ = (ps_s num x y * ps_pr num x L) * _
      unfold ps_s
      rw [if_pos h]
      grind
    · rename_i h
      rw [ps_pr_1 num x (y :: L) ?_]
      · simp
      · intro z hz
        rcases List.mem_cons.mp hz with e | hz
        · subst e; exact h
        · have := h1 z hz; omega
theorem ps_st_D {num : Nat → Nat} {F : List Nat → Int} (hF : ∀ l1 x y l2, F (l1 ++ y :: x :: l2) = - F (l1 ++ x :: y :: l2)) : ∀ (L l1 : List Nat), L.Nodup → (∀ a ∈ L, ∀ b ∈ L, num a = num b → a = b) → F (l1 ++ ps_st num L) = ps_sg num L * F (l1 ++ L) := by
  intro L
  induction L with
  | nil => intro l1 _ _; simp [ps_st, ps_sg]
  | cons x L ih =>
    intro l1 hn hi
    have hn2 := (List.nodup_cons.mp hn).2
    have hi2 : ∀ a ∈ L, ∀ b ∈ L, num a = num b → a = b := fun a ha b hb => hi a (List.mem_cons_of_mem _ ha) b (List.mem_cons_of_mem _ hb)
    show F (l1 ++ ps_in num x (ps_st num L)) = (ps_pr num x L * ps_sg num L) * _
    rw [ps_in_D hF x _ l1 (ps_st_so num L hn2 hi2), ps_pr_st]
    have e := ih (l1 ++ [x]) hn2 hi2
    simp only [List.append_assoc, List.singleton_append] at e
    rw [e, Int.mul_assoc]
theorem ps_sg_snoc (num : Nat → Nat) (z : Nat) : ∀ L : List Nat, ps_sg num (L ++ [z]) = ps_sg num L * ps_ql num z L := by
  intro L
  induction L with
  | nil => rfl
  | cons x L ih =>
    have hp : ∀ L : List Nat, ps_pr num x (L ++ [z]) = ps_pr num x L * ps_s num x z := by
      intro L
      induction L with
      | nil => simp [ps_pr]
      | cons y L ih2 => show ps_s num x y * ps_pr num x (L ++ [z]) = _; rw [ih2, ← Int.mul_assoc]; rfl
    show ps_pr num x (L ++ [z]) * ps_sg num (L ++ [z]) = (ps_pr num x L * ps_sg num L) * (ps_s num x z * ps_ql num z L)
    rw [ih, hp]
    grind
def ps_d3 (a b c d e f g h i : Int) : Int := a * (e * i - f * h) - b * (d * i - f * g) + c * (d * h - e * g)
def ps_D (X Y Z : Nat → Int) (l : List Nat) : Int := match l with
  | [p, q, r] => ps_d3 (X p) (Y p) (Z p) (X q) (Y q) (Z q) (X r) (Y r) (Z r)
  | [p, q, r, s] => ps_d3 (X p - X s) (Y p - Y s) (Z p - Z s) (X q - X s) (Y q - Y s) (Z q - Z s) (X r - X s) (Y r - Y s) (Z r - Z s)
  | _ => 0
theorem ps_D_anti (X Y Z : Nat → Int) : ∀ l1 x y l2, ps_D X Y Z (l1 ++ y :: x :: l2) = - ps_D X Y Z (l1 ++ x :: y :: l2) := by
  intro l1 x y l2
  match l1, l2 with
  | [], [] => simp [ps_D]
  | [], [a] => simp only [List.nil_append, ps_D, ps_d3]; grind
  | [], [a, b] => simp only [List.nil_append, ps_D, ps_d3]; grind
  | [], _ :: _ :: _ :: _ => simp [ps_D]
  | [a], [] => simp only [List.cons_append, List.nil_append, ps_D, ps_d3]; grind
  | [a], [b] => simp only [List.cons_append, List.nil_append, ps_D, ps_d3]; grind
  | [a], _ :: _ :: _ => simp [ps_D]
  | [a, b], [] => simp only [List.cons_append, List.nil_append, ps_D, ps_d3]; grind
  | [a, b], _ :: _ => simp [ps_D]
  | a :: b :: c :: l, _ =>
    cases l <;> simp [ps_D]
end
section
/-! a drawing: atoms (element, place), bonds (two ends, order, mark); what the bonds of an atom add up to -/
abbrev pd_D : Type := (Nat × Nat) × ((Nat → Nat) × (Nat → Int) × (Nat → Int)) × ((Nat → Nat) × (Nat → Nat) × (Nat → Nat) × (Nat → Nat))
def pd_n (d : pd_D) : Nat := d.1.1
def pd_b (d : pd_D) : Nat := d.1.2
def pd_e (d : pd_D) : Nat → Nat := d.2.1.1
def pd_x (d : pd_D) : Nat → Int := d.2.1.2.1
def pd_y (d : pd_D) : Nat → Int := d.2.1.2.2
def pd_f (d : pd_D) : Nat → Nat := d.2.2.1
def pd_s (d : pd_D) : Nat → Nat := d.2.2.2.1
def pd_o (d : pd_D) : Nat → Nat := d.2.2.2.2.1
def pd_m (d : pd_D) : Nat → Nat := d.2.2.2.2.2
def pd_v (e : Nat) : Nat := [4, 3, 2, 1, 1, 2].getD e 0
def pd_sum (f : Nat → Nat) : Nat → Nat
  | 0 => 0
  | n + 1 => pd_sum f n + f n
/-- bond k joins a and b -/
def pd_j (d : pd_D) (k a b : Nat) : Bool := (pd_f d k == a && pd_s d k == b) || (pd_f d k == b && pd_s d k == a)
def pd_inc (d : pd_D) (k a : Nat) : Bool := pd_f d k == a || pd_s d k == a
def pd_bo (d : pd_D) (a b : Nat) : Option Nat := (List.range (pd_b d)).find? (fun k => pd_j d k a b)
def pd_og (d : pd_D) (g : Nat → Nat) (a b : Nat) : Nat := match pd_bo d a b with | some k => g k | none => 0
def pd_or (d : pd_D) (a b : Nat) : Nat := pd_og d (pd_o d) a b
def pd_lk (d : pd_D) (a b : Nat) : Nat := match pd_bo d a b with | some k => k + 1 | none => 0
def pd_use (d : pd_D) (a : Nat) : Nat := pd_sum (fun k => if pd_inc d k a = true then pd_o d k else 0) (pd_b d)
def pd_lf (d : pd_D) (a : Nat) : Nat := pd_v (pd_e d a) - pd_use d a
def pd_W (d : pd_D) : Prop := (pd_n d ≤ 7 ∧ pd_b d ≤ 9) ∧ (∀ i, i < pd_n d → pd_e d i < 6 ∧ -1000 ≤ pd_x d i ∧ pd_x d i ≤ 1000 ∧ -1000 ≤ pd_y d i ∧ pd_y d i ≤ 1000) ∧
  (∀ k, k < pd_b d → pd_f d k < pd_n d ∧ pd_s d k < pd_n d ∧ pd_f d k ≠ pd_s d k ∧ 1 ≤ pd_o d k ∧ pd_o d k ≤ 3 ∧ pd_m d k ≤ 2) ∧
  (∀ i j a b, i < pd_b d → j < pd_b d → pd_j d i a b = true → pd_j d j a b = true → i = j) ∧
  (∀ a, a < pd_n d → pd_use d a ≤ pd_v (pd_e d a))
theorem pd_sum_congr {f g : Nat → Nat} : ∀ n, (∀ i, i < n → f i = g i) → pd_sum f n = pd_sum g n := by
  intro n
  induction n with
  | zero => intro _; rfl
  | succ n ih => intro h; show pd_sum f n + f n = pd_sum g n + g n; rw [ih (fun i hi => h i (by omega)), h n (by omega)]
theorem pd_sum_zero : ∀ n, pd_sum (fun _ => 0) n = 0 := by
  intro n
  induction n with
  | zero => rfl
  | succ n ih => show pd_sum (fun _ => 0) n + 0 = 0; rw [ih]
theorem pd_sum_add (f g : Nat → Nat) : ∀ n, pd_sum (fun i => f i + g i) n = pd_sum f n + pd_sum g n := by
  intro n
  induction n with
  | zero => rfl
  | succ n ih => show pd_sum (fun i => f i + g i) n + (f n + g n) = (pd_sum f n + f n) + (pd_sum g n + g n); rw [ih]; omega
theorem pd_sum_swap (f : Nat → Nat → Nat) (m : Nat) : ∀ n, pd_sum (fun i => pd_sum (fun j => f i j) m) n = pd_sum (fun j => pd_sum (fun i => f i j) n) m := by
  intro n
  induction n with
  | zero => exact (pd_sum_zero m).symm
  | succ n ih =>
    show pd_sum (fun i => pd_sum (fun j => f i j) m) n + pd_sum (fun j => f n j) m = pd_sum (fun j => pd_sum (fun i => f i j) n + f n j) m
    rw [ih, pd_sum_add]
theorem pd_sum_one {c v : Nat} : ∀ n, pd_sum (fun i => if i = c then v else 0) n = if c < n then v else 0 := by
  intro n
  induction n with
  | zero => rfl
  | succ n ih =>
    show pd_sum (fun i => if i = c then v else 0) n + (if n = c then v else 0) = _
    rw [ih]
    by_cases h : n = c
    · subst h; simp
    · by_cases h2 : c < n
      · rw [if_pos h2, if_neg h, if_pos (by omega)]; rfl
      · rw [if_neg h2, if_neg h, if_neg (by omega)]
/-- of at most one that fits: the sum is its value -/
theorem pd_sum_find {P : Nat → Bool} {f : Nat → Nat} : ∀ n, (∀ i j, i < n → j < n → P i = true → P j = true → i = j) → pd_sum (fun k => if P k = true then f k else 0) n = match (List.range n).find? P with | some k => f k | none => 0 := by
  intro n
  induction n with
  | zero => intro _; rfl
  | succ n ih =>
    intro h
    have h' := ih (fun i j hi hj => h i j (by omega) (by omega))
    show pd_sum (fun k => if P k = true then f k else 0) n + (if P n = true then f n else 0) = _
    rw [h', List.range_succ, List.find?_append]
    cases hf : (List.range n).find? P with
    | none => cases hp : P n <;> simp [hp]
    | some k =>
      have hk : P k = true := List.find?_some hf
      have hkn : k < n := List.mem_range.mp (List.mem_of_find?_eq_some hf)
      have : P n = false := by
        cases hp : P n with
        | false => rfl
        | true => have := h k n (by omega) (by omega) hk hp; omega
      simp [this]
theorem pd_og_sum {d : pd_D} (h : pd_W d) (g : Nat → Nat) (a b : Nat) : pd_og d g a b = pd_sum (fun k => if pd_j d k a b = true then g k else 0) (pd_b d) := by
  rw [pd_sum_find _ (fun i j hi hj h1 h2 => h.2.2.2.1 i j a b hi hj h1 h2)]
  rfl
theorem pd_j_end {d : pd_D} {k a : Nat} (hne : pd_f d k ≠ pd_s d k) (v n : Nat) (hf : pd_f d k < n) (hs : pd_s d k < n) : pd_sum (fun b => if pd_j d k a b = true then v else 0) n = if pd_inc d k a = true then v else 0 := by
  by_cases h1 : pd_f d k = a
  · have e : ∀ b, (pd_j d k a b = true) = (b = pd_s d k) := by
      intro b
      simp only [pd_j, Bool.or_eq_true, Bool.and_eq_true, beq_iff_eq, eq_iff_iff]
      constructor
      · rintro (⟨_, h⟩ | ⟨h, h2⟩)
        · exact h.symm
        · exact absurd (h1.trans h2.symm) hne
      · intro h; exact Or.inl ⟨h1, h.symm⟩
    have e2 : pd_inc d k a = true := by simp [pd_inc, h1]
    rw [if_pos e2]
    have := pd_sum_one (c := pd_s d k) (v := v) n
    rw [if_pos hs] at this
    exact Eq.trans (pd_sum_congr n (fun i _ => by simp only [e i])) this
  · by_cases h2 : pd_s d k = a
    · have e : ∀ b, (pd_j d k a b = true) = (b = pd_f d k) := by
        intro b
        simp only [pd_j, Bool.or_eq_true, Bool.and_eq_true, beq_iff_eq, eq_iff_iff]
        constructor
        · rintro (⟨h, _⟩ | ⟨h, _⟩)
          · exact absurd h h1
          · exact h.symm
        · intro h; exact Or.inr ⟨h.symm, h2⟩
      have e2 : pd_inc d k a = true := by simp [pd_inc, h2]
      rw [if_pos e2]
      have := pd_sum_one (c := pd_f d k) (v := v) n
      rw [if_pos hf] at this
      exact Eq.trans (pd_sum_congr n (fun i _ => by simp only [e i])) this
    · have e : ∀ b, pd_j d k a b = false := by
        intro b
        simp [pd_j, h1, h2]
      have e2 : pd_inc d k a = false := by simp [pd_inc, h1, h2]
      rw [e2, if_neg (by decide)]
      exact Eq.trans (pd_sum_congr n (fun i _ => by rw [e i]; rfl)) (pd_sum_zero n)
theorem pd_sum_og {d : pd_D} (h : pd_W d) (g : Nat → Nat) (a : Nat) : pd_sum (fun b => pd_og d g a b) (pd_n d) = pd_sum (fun k => if pd_inc d k a = true then g k else 0) (pd_b d) := by
  have e1 : pd_sum (fun b => pd_og d g a b) (pd_n d) = pd_sum (fun b => pd_sum (fun k => if pd_j d k a b = true then g k else 0) (pd_b d)) (pd_n d) := pd_sum_congr _ (fun b _ => pd_og_sum h g a b)
  rw [e1, pd_sum_swap]
  refine pd_sum_congr _ (fun k hk => ?_)
  obtain ⟨h1, h2, h3, -⟩ := h.2.2.1 k hk
  exact pd_j_end h3 _ _ h1 h2
theorem pd_sum_or {d : pd_D} (h : pd_W d) (a : Nat) : pd_sum (fun b => pd_or d a b) (pd_n d) = pd_use d a := pd_sum_og h (pd_o d) a
theorem pd_bo_some {d : pd_D} {a b k : Nat} (h : pd_bo d a b = some k) : k < pd_b d ∧ pd_j d k a b = true :=
  ⟨List.mem_range.mp (List.mem_of_find?_eq_some h), List.find?_some (p := fun k => pd_j d k a b) h⟩
theorem pd_bo_of {d : pd_D} (h : pd_W d) {a b k : Nat} (hk : k < pd_b d) (hj : pd_j d k a b = true) : pd_bo d a b = some k := by
  cases hb : pd_bo d a b with
  | none =>
    have := List.find?_eq_none.mp hb k (List.mem_range.mpr hk)
    exact absurd hj this
  | some i =>
    obtain ⟨h1, h2⟩ := pd_bo_some hb
    rw [h.2.2.2.1 i k a b h1 hk h2 hj]
theorem pd_j_comm (d : pd_D) (k a b : Nat) : pd_j d k a b = pd_j d k b a := by
  unfold pd_j
  rw [Bool.or_comm]
theorem pd_bo_comm (d : pd_D) (a b : Nat) : pd_bo d a b = pd_bo d b a := by
  unfold pd_bo
  congr 1
  funext k
  exact pd_j_comm d k a b
end
