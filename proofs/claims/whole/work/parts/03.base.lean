/-! the pure state: a number for each place of each cell; the world that it stands for; a row an instruction over it -/
abbrev sf_St : Type := Nat → Nat → Int32
def sf_upc (σ : sf_St) (k : Nat) (f : Nat → Int32) : sf_St := fun j => if j = k then f else σ j
def sf_up (σ : sf_St) (k i : Nat) (v : Int32) : sf_St := sf_upc σ k (upd (σ k) i v)
def sf_ix (i : Int32) : Nat := i.toNatClampNeg
/-- a cell's kind: 0 int array, 1 boolean array, 2 char array (then its length), 3 array of arrays (length, the cells), 4 object (class, fields: a cell or a number) -/
abbrev sf_Kd : Type := Nat × Nat × List (Option Nat)
def sf_fv (q : Nat → Nat) (f : Nat → Int32) (j : Nat) (r : Option Nat) : Value := match r with
  | some k => .ref (q k)
  | none => .int (f j)
def sf_ce (q : Nat → Nat) (dA : Nat → ClassId) (f : Nat → Int32) (kd : sf_Kd) : va_E :=
  if kd.1 = 4 then .inr (kd.2.1, kd.2.2.mapIdx (sf_fv q f))
  else if kd.1 = 3 then .inl (dA 3, kd.2.1, .inr (.inr (.inr (.inr (fun i => (kd.2.2.getD i none).map q)))))
  else .inl (dA kd.1, kd.2.1, .inl f)
def sf_w (q : Nat → Nat) (dA : Nat → ClassId) (K : List sf_Kd) (σ : sf_St) : va_W := K.mapIdx (fun k kd => (q k, sf_ce q dA (σ k) kd))
def sf_tys (dA : Nat → ClassId) : List (ClassId × FieldType) := [(dA 0, .int), (dA 1, .boolean), (dA 2, .char), (dA 3, .array .int)]
def sf_A (q : Nat → Nat) (K : List sf_Kd) : Nat → Prop := fun a => ∃ k, k < K.length ∧ a = q k
def sf_inj (q : Nat → Nat) (K : List sf_Kd) : Prop := ∀ i j, i < K.length → j < K.length → q i = q j → i = j
theorem sf_w_at {q : Nat → Nat} {dA : Nat → ClassId} {K : List sf_Kd} {σ : sf_St} {k : Nat} {kd : sf_Kd} (h : K[k]? = some kd) : (sf_w q dA K σ)[k]? = some (q k, sf_ce q dA (σ k) kd) := by
  simp [sf_w, List.getElem?_mapIdx, h]
theorem sf_w_inv {q : Nat → Nat} {dA : Nat → ClassId} {K : List sf_Kd} {σ : sf_St} {k : Nat} {x : Nat × va_E} (h : (sf_w q dA K σ)[k]? = some x) : k < K.length ∧ x.1 = q k := by
  unfold sf_w at h
  rw [List.getElem?_mapIdx] at h
  cases hk : K[k]? with
  | none => rw [hk] at h; cases h
  | some kd =>
    rw [hk] at h
    cases h
    exact ⟨(List.getElem?_eq_some_iff.mp hk).1, rfl⟩
theorem sf_w_set {q : Nat → Nat} {dA : Nat → ClassId} {K : List sf_Kd} {σ : sf_St} {k : Nat} {kd : sf_Kd} (f : Nat → Int32) (h : K[k]? = some kd) : (sf_w q dA K σ).set k (q k, sf_ce q dA f kd) = sf_w q dA K (sf_upc σ k f) := by
  have hl : k < K.length := (List.getElem?_eq_some_iff.mp h).1
  apply List.ext_getElem?
  intro i
  rw [List.getElem?_set]
  by_cases hi : k = i
  · subst hi
    rw [if_pos rfl, sf_w_at h]
    simp [sf_w, hl, sf_upc]
  · rw [if_neg hi]
    have hi' : ¬ i = k := fun e => hi e.symm
    unfold sf_w
    rw [List.getElem?_mapIdx, List.getElem?_mapIdx]
    cases K[i]? with
    | none => rfl
    | some kd => simp [sf_upc, hi']
theorem sf_w_D {q : Nat → Nat} {dA : Nat → ClassId} {K : List sf_Kd} {σ : sf_St} (h : sf_inj q K) : va_D (sf_A q K) (sf_w q dA K σ) := by
  refine ⟨fun i j x y hx hy hxy => ?_, fun k x hx => ?_⟩
  · obtain ⟨h1, e1⟩ := sf_w_inv hx
    obtain ⟨h2, e2⟩ := sf_w_inv hy
    exact h i j h1 h2 (by rw [← e1, ← e2]; exact hxy)
  · obtain ⟨h1, e1⟩ := sf_w_inv hx
    exact ⟨k, h1, e1⟩
theorem sf_ce_a {q : Nat → Nat} {dA : Nat → ClassId} {f : Nat → Int32} {t n : Nat} {fs : List (Option Nat)} (ht : t < 3) : sf_ce q dA f (t, n, fs) = .inl (dA t, n, .inl f) := by
  have h4 : ¬ t = 4 := by omega
  have h3 : ¬ t = 3 := by omega
  simp [sf_ce, h4, h3]
theorem sf_ce_o {q : Nat → Nat} {dA : Nat → ClassId} {f : Nat → Int32} {ci : Nat} {fs : List (Option Nat)} : sf_ce q dA f (4, ci, fs) = .inr (ci, fs.mapIdx (sf_fv q f)) := rfl
theorem sf_fs_set {q : Nat → Nat} {f : Nat → Int32} {fs : List (Option Nat)} {j : Nat} {v : Int32} (h : fs[j]? = some none) : (fs.mapIdx (sf_fv q f)).set j (.int v) = fs.mapIdx (sf_fv q (upd f j v)) := by
  have hl : j < fs.length := (List.getElem?_eq_some_iff.mp h).1
  apply List.ext_getElem?
  intro i
  rw [List.getElem?_set, List.getElem?_mapIdx]
  by_cases hi : j = i
  · subst hi
    rw [if_pos rfl, List.getElem?_mapIdx, h]
    simp [hl, sf_fv, upd]
  · rw [if_neg hi, List.getElem?_mapIdx]
    have hi' : ¬ i = j := fun e => hi e.symm
    cases fs[i]? with
    | none => rfl
    | some r => cases r <;> simp [sf_fv, upd, hi']
def sf_Ek (q : Nat → Nat) (K : List sf_Kd) (E : State → Prop) : Prop := ∀ u U : State, u.WarmedH U.vm → (∀ a : Nat, a < u.heap.size → ¬ sf_A q K a → U.heap[a]? = u.heap[a]?) → u.heap.size ≤ U.heap.size → E u → E U
abbrev sf_I (D : va_G) (cl : List vw_C) (q : Nat → Nat) (dA : Nat → ClassId) (K : List sf_Kd) (E : State → Prop) (σ : sf_St) (U : State) : Prop := va_P D cl (sf_w q dA K σ) U.heap ∧ va_K D cl (sf_tys dA) U ∧ E U
/-- a contract: the answer is r, the state behind it τ -/
def sf_Mi (l : Launch) (y : MethodName) (ws : List Cond) (rm : Room) (D : va_G) (cl : List vw_C) (q : Nat → Nat) (dA : Nat → ClassId) (K : List sf_Kd) (E : State → Prop) (av : List Value) (σ : sf_St) (r : Int32) (τ : sf_St) : Prop :=
  Met l y ws rm (va_Pc av (sf_I D cl q dA K E σ)) (va_Qi (fun r' τ' => r' = r ∧ τ' = τ) (fun τ' t => sf_I D cl q dA K E τ' t) (sf_A q K)) 0 0 (sf_A q K)
def sf_Mv (l : Launch) (y : MethodName) (ws : List Cond) (rm : Room) (D : va_G) (cl : List vw_C) (q : Nat → Nat) (dA : Nat → ClassId) (K : List sf_Kd) (E : State → Prop) (av : List Value) (σ : sf_St) (τ : sf_St) : Prop :=
  Met l y ws rm (va_Pc av (sf_I D cl q dA K E σ)) (va_Qv (fun τ' => τ' = τ) (fun τ' t => sf_I D cl q dA K E τ' t) (sf_A q K)) 0 0 (sf_A q K)
def sf_Qi (D : va_G) (cl : List vw_C) (q : Nat → Nat) (dA : Nat → ClassId) (K : List sf_Kd) (E : State → Prop) (below : List Frame) (args : Array Value) (s : State) (r : Int32) (τ : sf_St) : State → Prop := MQ below (va_Qi (fun r' τ' => r' = r ∧ τ' = τ) (fun τ' t => sf_I D cl q dA K E τ' t) (sf_A q K)) args s 0 0 (sf_A q K)
def sf_Qv (D : va_G) (cl : List vw_C) (q : Nat → Nat) (dA : Nat → ClassId) (K : List sf_Kd) (E : State → Prop) (below : List Frame) (args : Array Value) (s : State) (τ : sf_St) : State → Prop := MQ below (va_Qv (fun τ' => τ' = τ) (fun τ' t => sf_I D cl q dA K E τ' t) (sf_A q K)) args s 0 0 (sf_A q K)
/-- what stays the same in a method's walk -/
def sf_Cx (p : Program) (s : State) (m : MethodId) (args : Array Value) (meth : Method) (c : Code) (cc : ByteArray) (nL : Nat) (own : String) (ret : Option FieldType) (Ts : List Cond) (D : va_G) (cl : List vw_C) (q : Nat → Nat) (dA : Nat → ClassId) (K : List sf_Kd) (E : State → Prop) : Prop :=
  CallFix p m c cc nL s args Ts own ∧ va_K D cl (sf_tys dA) s ∧ sf_inj q K ∧ E s ∧ sf_Ek q K E ∧ meth.sig.returnType = ret ∧ meth.locks = false
def sf_G (p : Program) (l : Launch) (e : Env) (R : Room) (s : State) (m : MethodId) (args : Array Value) (below : List Frame) (meth : Method) (c : Code) (Q : State → Prop) (nL : Nat) (D : va_G) (cl : List vw_C) (q : Nat → Nat) (dA : Nat → ClassId) (K : List sf_Kd) (σ : sf_St) (pc : Nat) (lv : List (Nat × Value)) (st : List Value) : Prop :=
  ∀ (H : Heap) (locs : List Loc) (ls : Array Slot), va_P D cl (sf_w q dA K σ) H → va_S (sf_A q K) s.heap H locs → lv_has ls nL lv → W p l e R s m args below meth c H locs 0 0 Q (F0 m pc ls st)
theorem sf_mif {c A B A' B' : Prop} {d : Decidable c} (hA : A → A') (hB : B → B') : (if c then A else B) → (if c then A' else B') := by
  intro h
  by_cases hc : c
  · rw [if_pos hc] at h ⊢; exact hA h
  · rw [if_neg hc] at h ⊢; exact hB h
theorem sf_ift {c A B : Prop} {d : Decidable c} (hc : c) (h : if c then A else B) : A := by rwa [if_pos hc] at h
theorem sf_iff {c A B : Prop} {d : Decidable c} (hc : ¬ c) (h : if c then A else B) : B := by rwa [if_neg hc] at h
section SFROWS
variable {p : Program} {l : Launch} {e : Env} {R : Room} {s : State} {m : MethodId} {args : Array Value} {below : List Frame} {meth : Method} {c : Code} {Q : State → Prop} {cc : ByteArray} {nL : Nat} {own : String} {ret : Option FieldType} {Ts : List Cond} {D : va_G} {cl : List vw_C} {q : Nat → Nat} {dA : Nat → ClassId} {K : List sf_Kd} {E : State → Prop} {σ : sf_St} {pc pc' : Nat} {lv : List (Nat × Value)} {st : List Value}
theorem sf_iconst (X : sf_Cx p s m args meth c cc nL own ret Ts D cl q dA K E) {n : Int} {v : Int32} (hdg : decode cc pc = .ok (.iconst n, 1)) (hv : Int32.ofInt n = v) (hp : pc + 1 = pc') (k : sf_G p l e R s m args below meth c Q nL D cl q dA K σ pc' lv (.int v :: st)) : sf_G p l e R s m args below meth c Q nL D cl q dA K σ pc lv st := by
  subst hp
  exact fun H locs ls hP hS hl => lv_iconst X.1.1 X.1.2.1 hdg hv (k H locs ls hP hS hl)
theorem sf_bipush (X : sf_Cx p s m args meth c cc nL own ret Ts D cl q dA K E) {n : Int} {v : Int32} (hdg : decode cc pc = .ok (.bipush n, 2)) (hv : (Int8.ofInt n).toInt32 = v) (hp : pc + 2 = pc') (k : sf_G p l e R s m args below meth c Q nL D cl q dA K σ pc' lv (.int v :: st)) : sf_G p l e R s m args below meth c Q nL D cl q dA K σ pc lv st := by
  subst hp
  exact fun H locs ls hP hS hl => lv_bipush X.1.1 X.1.2.1 hdg hv (k H locs ls hP hS hl)
theorem sf_sipush (X : sf_Cx p s m args meth c cc nL own ret Ts D cl q dA K E) {n : Int} {v : Int32} (hdg : decode cc pc = .ok (.sipush n, 3)) (hv : (Int16.ofInt n).toInt32 = v) (hp : pc + 3 = pc') (k : sf_G p l e R s m args below meth c Q nL D cl q dA K σ pc' lv (.int v :: st)) : sf_G p l e R s m args below meth c Q nL D cl q dA K σ pc lv st := by
  subst hp
  exact fun H locs ls hP hS hl => lv_sipush X.1.1 X.1.2.1 hdg hv (k H locs ls hP hS hl)
theorem sf_iload_n (X : sf_Cx p s m args meth c cc nL own ret Ts D cl q dA K E) {k : Fin 4} {i j : Nat} {x : Int32} (hdg : decode cc pc = .ok (.iload_n k, 1)) (hi : (k : Nat) = i) (hj : lv[j]? = some (i, .int x)) (hp : pc + 1 = pc') (k : sf_G p l e R s m args below meth c Q nL D cl q dA K σ pc' lv (.int x :: st)) : sf_G p l e R s m args below meth c Q nL D cl q dA K σ pc lv st := by
  subst hp
  exact fun H locs ls hP hS hl => lv_iload_n X.1.1 X.1.2.1 hdg hi (lv_at hl j hj) (k H locs ls hP hS hl)
theorem sf_iload (X : sf_Cx p s m args meth c cc nL own ret Ts D cl q dA K E) {i j : Nat} {x : Int32} (hdg : decode cc pc = .ok (.iload i, 2)) (hj : lv[j]? = some (i, .int x)) (hp : pc + 2 = pc') (k : sf_G p l e R s m args below meth c Q nL D cl q dA K σ pc' lv (.int x :: st)) : sf_G p l e R s m args below meth c Q nL D cl q dA K σ pc lv st := by
  subst hp
  exact fun H locs ls hP hS hl => lv_iload X.1.1 X.1.2.1 hdg (lv_at hl j hj) (k H locs ls hP hS hl)
theorem sf_aload_n (X : sf_Cx p s m args meth c cc nL own ret Ts D cl q dA K E) {k : Fin 4} {i j : Nat} {x : Nat} (hdg : decode cc pc = .ok (.aload_n k, 1)) (hi : (k : Nat) = i) (hj : lv[j]? = some (i, .ref x)) (hp : pc + 1 = pc') (k : sf_G p l e R s m args below meth c Q nL D cl q dA K σ pc' lv (.ref x :: st)) : sf_G p l e R s m args below meth c Q nL D cl q dA K σ pc lv st := by
  subst hp
  exact fun H locs ls hP hS hl => lv_aload_n X.1.1 X.1.2.1 hdg hi (lv_at hl j hj) (k H locs ls hP hS hl)
theorem sf_aload (X : sf_Cx p s m args meth c cc nL own ret Ts D cl q dA K E) {i j : Nat} {x : Nat} (hdg : decode cc pc = .ok (.aload i, 2)) (hj : lv[j]? = some (i, .ref x)) (hp : pc + 2 = pc') (k : sf_G p l e R s m args below meth c Q nL D cl q dA K σ pc' lv (.ref x :: st)) : sf_G p l e R s m args below meth c Q nL D cl q dA K σ pc lv st := by
  subst hp
  exact fun H locs ls hP hS hl => lv_aload X.1.1 X.1.2.1 hdg (lv_at hl j hj) (k H locs ls hP hS hl)
theorem sf_iadd (X : sf_Cx p s m args meth c cc nL own ret Ts D cl q dA K E) {x y : Int32} (hdg : decode cc pc = .ok (.iadd, 1))  (hp : pc + 1 = pc') (k : sf_G p l e R s m args below meth c Q nL D cl q dA K σ pc' lv (.int (x + y) :: st)) : sf_G p l e R s m args below meth c Q nL D cl q dA K σ pc lv (.int y :: .int x :: st) := by
  subst hp
  exact fun H locs ls hP hS hl => lv_iadd X.1.1 X.1.2.1 hdg  (k H locs ls hP hS hl)
theorem sf_isub (X : sf_Cx p s m args meth c cc nL own ret Ts D cl q dA K E) {x y : Int32} (hdg : decode cc pc = .ok (.isub, 1))  (hp : pc + 1 = pc') (k : sf_G p l e R s m args below meth c Q nL D cl q dA K σ pc' lv (.int (x - y) :: st)) : sf_G p l e R s m args below meth c Q nL D cl q dA K σ pc lv (.int y :: .int x :: st) := by
  subst hp
  exact fun H locs ls hP hS hl => lv_isub X.1.1 X.1.2.1 hdg  (k H locs ls hP hS hl)
theorem sf_imul (X : sf_Cx p s m args meth c cc nL own ret Ts D cl q dA K E) {x y : Int32} (hdg : decode cc pc = .ok (.imul, 1))  (hp : pc + 1 = pc') (k : sf_G p l e R s m args below meth c Q nL D cl q dA K σ pc' lv (.int (x * y) :: st)) : sf_G p l e R s m args below meth c Q nL D cl q dA K σ pc lv (.int y :: .int x :: st) := by
  subst hp
  exact fun H locs ls hP hS hl => lv_imul X.1.1 X.1.2.1 hdg  (k H locs ls hP hS hl)
theorem sf_iand (X : sf_Cx p s m args meth c cc nL own ret Ts D cl q dA K E) {x y : Int32} (hdg : decode cc pc = .ok (.iand, 1))  (hp : pc + 1 = pc') (k : sf_G p l e R s m args below meth c Q nL D cl q dA K σ pc' lv (.int (x &&& y) :: st)) : sf_G p l e R s m args below meth c Q nL D cl q dA K σ pc lv (.int y :: .int x :: st) := by
  subst hp
  exact fun H locs ls hP hS hl => lv_iand X.1.1 X.1.2.1 hdg  (k H locs ls hP hS hl)
theorem sf_ior (X : sf_Cx p s m args meth c cc nL own ret Ts D cl q dA K E) {x y : Int32} (hdg : decode cc pc = .ok (.ior, 1))  (hp : pc + 1 = pc') (k : sf_G p l e R s m args below meth c Q nL D cl q dA K σ pc' lv (.int (x ||| y) :: st)) : sf_G p l e R s m args below meth c Q nL D cl q dA K σ pc lv (.int y :: .int x :: st) := by
  subst hp
  exact fun H locs ls hP hS hl => lv_ior X.1.1 X.1.2.1 hdg  (k H locs ls hP hS hl)
theorem sf_ixor (X : sf_Cx p s m args meth c cc nL own ret Ts D cl q dA K E) {x y : Int32} (hdg : decode cc pc = .ok (.ixor, 1))  (hp : pc + 1 = pc') (k : sf_G p l e R s m args below meth c Q nL D cl q dA K σ pc' lv (.int (x ^^^ y) :: st)) : sf_G p l e R s m args below meth c Q nL D cl q dA K σ pc lv (.int y :: .int x :: st) := by
  subst hp
  exact fun H locs ls hP hS hl => lv_ixor X.1.1 X.1.2.1 hdg  (k H locs ls hP hS hl)
theorem sf_ishl (X : sf_Cx p s m args meth c cc nL own ret Ts D cl q dA K E) {x y : Int32} (hdg : decode cc pc = .ok (.ishl, 1))  (hp : pc + 1 = pc') (k : sf_G p l e R s m args below meth c Q nL D cl q dA K σ pc' lv (.int (x <<< (y &&& 31)) :: st)) : sf_G p l e R s m args below meth c Q nL D cl q dA K σ pc lv (.int y :: .int x :: st) := by
  subst hp
  exact fun H locs ls hP hS hl => lv_ishl X.1.1 X.1.2.1 hdg  (k H locs ls hP hS hl)
theorem sf_ishr (X : sf_Cx p s m args meth c cc nL own ret Ts D cl q dA K E) {x y : Int32} (hdg : decode cc pc = .ok (.ishr, 1))  (hp : pc + 1 = pc') (k : sf_G p l e R s m args below meth c Q nL D cl q dA K σ pc' lv (.int (x >>> (y &&& 31)) :: st)) : sf_G p l e R s m args below meth c Q nL D cl q dA K σ pc lv (.int y :: .int x :: st) := by
  subst hp
  exact fun H locs ls hP hS hl => lv_ishr X.1.1 X.1.2.1 hdg  (k H locs ls hP hS hl)
theorem sf_irem (X : sf_Cx p s m args meth c cc nL own ret Ts D cl q dA K E) {x y : Int32} (hdg : decode cc pc = .ok (.irem, 1)) (hne : ¬ y = 0) (hp : pc + 1 = pc') (k : sf_G p l e R s m args below meth c Q nL D cl q dA K σ pc' lv (.int (x - x / y * y) :: st)) : sf_G p l e R s m args below meth c Q nL D cl q dA K σ pc lv (.int y :: .int x :: st) := by
  subst hp
  exact fun H locs ls hP hS hl => lv_irem X.1.1 X.1.2.1 hdg hne (k H locs ls hP hS hl)
theorem sf_ineg (X : sf_Cx p s m args meth c cc nL own ret Ts D cl q dA K E) {x : Int32} (hdg : decode cc pc = .ok (.ineg, 1))  (hp : pc + 1 = pc') (k : sf_G p l e R s m args below meth c Q nL D cl q dA K σ pc' lv (.int (-x) :: st)) : sf_G p l e R s m args below meth c Q nL D cl q dA K σ pc lv (.int x :: st) := by
  subst hp
  exact fun H locs ls hP hS hl => lv_ineg X.1.1 X.1.2.1 hdg  (k H locs ls hP hS hl)
theorem sf_i2c (X : sf_Cx p s m args meth c cc nL own ret Ts D cl q dA K E) {x : Int32} (hdg : decode cc pc = .ok (.i2c, 1))  (hp : pc + 1 = pc') (k : sf_G p l e R s m args below meth c Q nL D cl q dA K σ pc' lv (.int (x.toUInt32 % 65536).toInt32 :: st)) : sf_G p l e R s m args below meth c Q nL D cl q dA K σ pc lv (.int x :: st) := by
  subst hp
  exact fun H locs ls hP hS hl => lv_i2c X.1.1 X.1.2.1 hdg rfl (k H locs ls hP hS hl)
theorem sf_dup (X : sf_Cx p s m args meth c cc nL own ret Ts D cl q dA K E) {va : Value} (hdg : decode cc pc = .ok (.dup, 1)) (hva : va.category = 1) (hp : pc + 1 = pc') (k : sf_G p l e R s m args below meth c Q nL D cl q dA K σ pc' lv (va :: va :: st)) : sf_G p l e R s m args below meth c Q nL D cl q dA K σ pc lv (va :: st) := by
  subst hp
  exact fun H locs ls hP hS hl => lv_dup X.1.1 X.1.2.1 hdg hva (k H locs ls hP hS hl)
theorem sf_pop (X : sf_Cx p s m args meth c cc nL own ret Ts D cl q dA K E) {va : Value} (hdg : decode cc pc = .ok (.pop, 1)) (hva : va.category = 1) (hp : pc + 1 = pc') (k : sf_G p l e R s m args below meth c Q nL D cl q dA K σ pc' lv st) : sf_G p l e R s m args below meth c Q nL D cl q dA K σ pc lv (va :: st) := by
  subst hp
  exact fun H locs ls hP hS hl => lv_pop X.1.1 X.1.2.1 hdg hva (k H locs ls hP hS hl)
theorem sf_dup_x1 (X : sf_Cx p s m args meth c cc nL own ret Ts D cl q dA K E) {va vb : Value} (hdg : decode cc pc = .ok (.dup_x1, 1)) (hva : va.category = 1) (hvb : vb.category = 1) (hp : pc + 1 = pc') (k : sf_G p l e R s m args below meth c Q nL D cl q dA K σ pc' lv (va :: vb :: va :: st)) : sf_G p l e R s m args below meth c Q nL D cl q dA K σ pc lv (va :: vb :: st) := by
  subst hp
  exact fun H locs ls hP hS hl => lv_dup_x1 X.1.1 X.1.2.1 hdg hva hvb (k H locs ls hP hS hl)
theorem sf_dup_x2 (X : sf_Cx p s m args meth c cc nL own ret Ts D cl q dA K E) {va vb vd : Value} (hdg : decode cc pc = .ok (.dup_x2, 1)) (hva : va.category = 1) (hvb : vb.category = 1) (hvd : vd.category = 1) (hp : pc + 1 = pc') (k : sf_G p l e R s m args below meth c Q nL D cl q dA K σ pc' lv (va :: vb :: vd :: va :: st)) : sf_G p l e R s m args below meth c Q nL D cl q dA K σ pc lv (va :: vb :: vd :: st) := by
  subst hp
  exact fun H locs ls hP hS hl => lv_dup_x2 X.1.1 X.1.2.1 hdg hva hvb hvd (k H locs ls hP hS hl)
theorem sf_dup2 (X : sf_Cx p s m args meth c cc nL own ret Ts D cl q dA K E) {va vb : Value} (hdg : decode cc pc = .ok (.dup2, 1)) (hva : va.category = 1) (hvb : vb.category = 1) (hp : pc + 1 = pc') (k : sf_G p l e R s m args below meth c Q nL D cl q dA K σ pc' lv (va :: vb :: va :: vb :: st)) : sf_G p l e R s m args below meth c Q nL D cl q dA K σ pc lv (va :: vb :: st) := by
  subst hp
  exact fun H locs ls hP hS hl => lv_dup2_11 X.1.1 X.1.2.1 hdg hva hvb (k H locs ls hP hS hl)
theorem sf_ldc (X : sf_Cx p s m args meth c cc nL own ret Ts D cl q dA K E) {index : Nat} {v : Int32} (hconst : (Jvm.Cond.constant own index v).before args s = true) (hdg : decode cc pc = .ok (.ldc index, 2)) (hp : pc + 2 = pc') (k : sf_G p l e R s m args below meth c Q nL D cl q dA K σ pc' lv (.int v :: st)) : sf_G p l e R s m args below meth c Q nL D cl q dA K σ pc lv st := by
  subst hp
  exact fun H locs ls hP hS hl => lv_ldc X.1.1 X.1.2.1 X.1.2.2.2.1 hconst hdg (k H locs ls hP hS hl)
theorem sf_istore_n (X : sf_Cx p s m args meth c cc nL own ret Ts D cl q dA K E) {k : Fin 4} {i : Nat} {x : Int32} {lv' : List (Nat × Value)} (hdg : decode cc pc = .ok (.istore_n k, 1)) (hi : (k : Nat) = i) (hn : i < nL) (hl' : (i, Value.int x) :: lv.filter (fun q => !(q.1 == i) && !(q.1 + 1 == i && q.2.category == 2)) = lv') (hp : pc + 1 = pc') (k : sf_G p l e R s m args below meth c Q nL D cl q dA K σ pc' lv' st) : sf_G p l e R s m args below meth c Q nL D cl q dA K σ pc lv (Value.int x :: st) := by
  subst hp
  exact fun H locs ls hP hS hl => lv_istore_n X.1.1 X.1.2.1 hdg hi hl hn hl' (fun ls' hls' => k H locs ls' hP hS hls')
theorem sf_istore (X : sf_Cx p s m args meth c cc nL own ret Ts D cl q dA K E) {i : Nat} {x : Int32} {lv' : List (Nat × Value)} (hdg : decode cc pc = .ok (.istore i, 2))  (hn : i < nL) (hl' : (i, Value.int x) :: lv.filter (fun q => !(q.1 == i) && !(q.1 + 1 == i && q.2.category == 2)) = lv') (hp : pc + 2 = pc') (k : sf_G p l e R s m args below meth c Q nL D cl q dA K σ pc' lv' st) : sf_G p l e R s m args below meth c Q nL D cl q dA K σ pc lv (Value.int x :: st) := by
  subst hp
  exact fun H locs ls hP hS hl => lv_istore X.1.1 X.1.2.1 hdg  hl hn hl' (fun ls' hls' => k H locs ls' hP hS hls')
theorem sf_astore_n (X : sf_Cx p s m args meth c cc nL own ret Ts D cl q dA K E) {k : Fin 4} {i : Nat} {x : Nat} {lv' : List (Nat × Value)} (hdg : decode cc pc = .ok (.astore_n k, 1)) (hi : (k : Nat) = i) (hn : i < nL) (hl' : (i, Value.ref x) :: lv.filter (fun q => !(q.1 == i) && !(q.1 + 1 == i && q.2.category == 2)) = lv') (hp : pc + 1 = pc') (k : sf_G p l e R s m args below meth c Q nL D cl q dA K σ pc' lv' st) : sf_G p l e R s m args below meth c Q nL D cl q dA K σ pc lv (Value.ref x :: st) := by
  subst hp
  exact fun H locs ls hP hS hl => lv_astore_n X.1.1 X.1.2.1 hdg hi hl hn hl' (fun ls' hls' => k H locs ls' hP hS hls')
theorem sf_astore (X : sf_Cx p s m args meth c cc nL own ret Ts D cl q dA K E) {i : Nat} {x : Nat} {lv' : List (Nat × Value)} (hdg : decode cc pc = .ok (.astore i, 2))  (hn : i < nL) (hl' : (i, Value.ref x) :: lv.filter (fun q => !(q.1 == i) && !(q.1 + 1 == i && q.2.category == 2)) = lv') (hp : pc + 2 = pc') (k : sf_G p l e R s m args below meth c Q nL D cl q dA K σ pc' lv' st) : sf_G p l e R s m args below meth c Q nL D cl q dA K σ pc lv (Value.ref x :: st) := by
  subst hp
  exact fun H locs ls hP hS hl => lv_astore X.1.1 X.1.2.1 hdg  hl hn hl' (fun ls' hls' => k H locs ls' hP hS hls')
theorem sf_iinc (X : sf_Cx p s m args meth c cc nL own ret Ts D cl q dA K E) {i j : Nat} {n : Int} {x d : Int32} {lv' : Int32 → List (Nat × Value)} (hdg : decode cc pc = .ok (.iinc i n, 3)) (hj : lv[j]? = some (i, .int x)) (hd : Int32.ofInt n = d) (hn : i < nL) (hl' : ∀ y : Int32, (i, Value.int y) :: lv.filter (fun q => !(q.1 == i) && !(q.1 + 1 == i && q.2.category == 2)) = lv' y) (hp : pc + 3 = pc') (k : ∀ y : Int32, y = x + d → sf_G p l e R s m args below meth c Q nL D cl q dA K σ pc' (lv' y) st) : sf_G p l e R s m args below meth c Q nL D cl q dA K σ pc lv st := by
  subst hp
  exact fun H locs ls hP hS hl => lv_iinc X.1.1 X.1.2.1 hdg hl hj (v := x + d) (by rw [hd]) hn (hl' _) (fun ls' hls' => k _ rfl H locs ls' hP hS hls')
theorem sf_top {x : Int32} (k : ∀ y : Int32, y = x → sf_G p l e R s m args below meth c Q nL D cl q dA K σ pc lv (.int y :: st)) : sf_G p l e R s m args below meth c Q nL D cl q dA K σ pc lv (.int x :: st) := k x rfl
theorem sf_loc {lv' : List (Nat × Value)} (ks : List Nat) (h : lv_pick lv ks = lv') (k : sf_G p l e R s m args below meth c Q nL D cl q dA K σ pc lv' st) : sf_G p l e R s m args below meth c Q nL D cl q dA K σ pc lv st := fun H locs ls hP hS hl => k H locs ls hP hS (lv_sub hl ks h)
theorem sf_if_eq (X : sf_Cx p s m args meth c cc nL own ret Ts D cl q dA K E) {x : Int32} {off : Int} {tgt : Nat} (hdg : decode cc pc = .ok (.ifCond .eq off, 3)) (ht : (pc : Int) + off = (tgt : Int)) (hp : pc + 3 = pc') (kt : x = 0 → sf_G p l e R s m args below meth c Q nL D cl q dA K σ tgt lv st) (kf : ¬ x = 0 → sf_G p l e R s m args below meth c Q nL D cl q dA K σ pc' lv st) : sf_G p l e R s m args below meth c Q nL D cl q dA K σ pc lv (.int x :: st) := by
  subst hp
  exact fun H locs ls hP hS hl => lv_if_eq X.1.1 X.1.2.1 hdg ht (fun h => kt h H locs ls hP hS hl) (fun h => kf h H locs ls hP hS hl)
theorem sf_icmp_eq (X : sf_Cx p s m args meth c cc nL own ret Ts D cl q dA K E) {x y : Int32} {off : Int} {tgt : Nat} (hdg : decode cc pc = .ok (.if_icmp .eq off, 3)) (ht : (pc : Int) + off = (tgt : Int)) (hp : pc + 3 = pc') (kt : x = y → sf_G p l e R s m args below meth c Q nL D cl q dA K σ tgt lv st) (kf : ¬ x = y → sf_G p l e R s m args below meth c Q nL D cl q dA K σ pc' lv st) : sf_G p l e R s m args below meth c Q nL D cl q dA K σ pc lv (.int y :: .int x :: st) := by
  subst hp
  exact fun H locs ls hP hS hl => lv_icmp_eq X.1.1 X.1.2.1 hdg ht (fun h => kt h H locs ls hP hS hl) (fun h => kf h H locs ls hP hS hl)
theorem sf_if_ne (X : sf_Cx p s m args meth c cc nL own ret Ts D cl q dA K E) {x : Int32} {off : Int} {tgt : Nat} (hdg : decode cc pc = .ok (.ifCond .ne off, 3)) (ht : (pc : Int) + off = (tgt : Int)) (hp : pc + 3 = pc') (kt : ¬ x = 0 → sf_G p l e R s m args below meth c Q nL D cl q dA K σ tgt lv st) (kf : x = 0 → sf_G p l e R s m args below meth c Q nL D cl q dA K σ pc' lv st) : sf_G p l e R s m args below meth c Q nL D cl q dA K σ pc lv (.int x :: st) := by
  subst hp
  exact fun H locs ls hP hS hl => lv_if_ne X.1.1 X.1.2.1 hdg ht (fun h => kt h H locs ls hP hS hl) (fun h => kf h H locs ls hP hS hl)
theorem sf_icmp_ne (X : sf_Cx p s m args meth c cc nL own ret Ts D cl q dA K E) {x y : Int32} {off : Int} {tgt : Nat} (hdg : decode cc pc = .ok (.if_icmp .ne off, 3)) (ht : (pc : Int) + off = (tgt : Int)) (hp : pc + 3 = pc') (kt : ¬ x = y → sf_G p l e R s m args below meth c Q nL D cl q dA K σ tgt lv st) (kf : x = y → sf_G p l e R s m args below meth c Q nL D cl q dA K σ pc' lv st) : sf_G p l e R s m args below meth c Q nL D cl q dA K σ pc lv (.int y :: .int x :: st) := by
  subst hp
  exact fun H locs ls hP hS hl => lv_icmp_ne X.1.1 X.1.2.1 hdg ht (fun h => kt h H locs ls hP hS hl) (fun h => kf h H locs ls hP hS hl)
theorem sf_if_lt (X : sf_Cx p s m args meth c cc nL own ret Ts D cl q dA K E) {x : Int32} {off : Int} {tgt : Nat} (hdg : decode cc pc = .ok (.ifCond .lt off, 3)) (ht : (pc : Int) + off = (tgt : Int)) (hp : pc + 3 = pc') (kt : x < 0 → sf_G p l e R s m args below meth c Q nL D cl q dA K σ tgt lv st) (kf : ¬ x < 0 → sf_G p l e R s m args below meth c Q nL D cl q dA K σ pc' lv st) : sf_G p l e R s m args below meth c Q nL D cl q dA K σ pc lv (.int x :: st) := by
  subst hp
  exact fun H locs ls hP hS hl => lv_if_lt X.1.1 X.1.2.1 hdg ht (fun h => kt h H locs ls hP hS hl) (fun h => kf h H locs ls hP hS hl)
theorem sf_icmp_lt (X : sf_Cx p s m args meth c cc nL own ret Ts D cl q dA K E) {x y : Int32} {off : Int} {tgt : Nat} (hdg : decode cc pc = .ok (.if_icmp .lt off, 3)) (ht : (pc : Int) + off = (tgt : Int)) (hp : pc + 3 = pc') (kt : x < y → sf_G p l e R s m args below meth c Q nL D cl q dA K σ tgt lv st) (kf : ¬ x < y → sf_G p l e R s m args below meth c Q nL D cl q dA K σ pc' lv st) : sf_G p l e R s m args below meth c Q nL D cl q dA K σ pc lv (.int y :: .int x :: st) := by
  subst hp
  exact fun H locs ls hP hS hl => lv_icmp_lt X.1.1 X.1.2.1 hdg ht (fun h => kt h H locs ls hP hS hl) (fun h => kf h H locs ls hP hS hl)
theorem sf_if_ge (X : sf_Cx p s m args meth c cc nL own ret Ts D cl q dA K E) {x : Int32} {off : Int} {tgt : Nat} (hdg : decode cc pc = .ok (.ifCond .ge off, 3)) (ht : (pc : Int) + off = (tgt : Int)) (hp : pc + 3 = pc') (kt : 0 ≤ x → sf_G p l e R s m args below meth c Q nL D cl q dA K σ tgt lv st) (kf : ¬ 0 ≤ x → sf_G p l e R s m args below meth c Q nL D cl q dA K σ pc' lv st) : sf_G p l e R s m args below meth c Q nL D cl q dA K σ pc lv (.int x :: st) := by
  subst hp
  exact fun H locs ls hP hS hl => lv_if_ge X.1.1 X.1.2.1 hdg ht (fun h => kt h H locs ls hP hS hl) (fun h => kf h H locs ls hP hS hl)
theorem sf_icmp_ge (X : sf_Cx p s m args meth c cc nL own ret Ts D cl q dA K E) {x y : Int32} {off : Int} {tgt : Nat} (hdg : decode cc pc = .ok (.if_icmp .ge off, 3)) (ht : (pc : Int) + off = (tgt : Int)) (hp : pc + 3 = pc') (kt : y ≤ x → sf_G p l e R s m args below meth c Q nL D cl q dA K σ tgt lv st) (kf : ¬ y ≤ x → sf_G p l e R s m args below meth c Q nL D cl q dA K σ pc' lv st) : sf_G p l e R s m args below meth c Q nL D cl q dA K σ pc lv (.int y :: .int x :: st) := by
  subst hp
  exact fun H locs ls hP hS hl => lv_icmp_ge X.1.1 X.1.2.1 hdg ht (fun h => kt h H locs ls hP hS hl) (fun h => kf h H locs ls hP hS hl)
theorem sf_if_gt (X : sf_Cx p s m args meth c cc nL own ret Ts D cl q dA K E) {x : Int32} {off : Int} {tgt : Nat} (hdg : decode cc pc = .ok (.ifCond .gt off, 3)) (ht : (pc : Int) + off = (tgt : Int)) (hp : pc + 3 = pc') (kt : 0 < x → sf_G p l e R s m args below meth c Q nL D cl q dA K σ tgt lv st) (kf : ¬ 0 < x → sf_G p l e R s m args below meth c Q nL D cl q dA K σ pc' lv st) : sf_G p l e R s m args below meth c Q nL D cl q dA K σ pc lv (.int x :: st) := by
  subst hp
  exact fun H locs ls hP hS hl => lv_if_gt X.1.1 X.1.2.1 hdg ht (fun h => kt h H locs ls hP hS hl) (fun h => kf h H locs ls hP hS hl)
theorem sf_icmp_gt (X : sf_Cx p s m args meth c cc nL own ret Ts D cl q dA K E) {x y : Int32} {off : Int} {tgt : Nat} (hdg : decode cc pc = .ok (.if_icmp .gt off, 3)) (ht : (pc : Int) + off = (tgt : Int)) (hp : pc + 3 = pc') (kt : y < x → sf_G p l e R s m args below meth c Q nL D cl q dA K σ tgt lv st) (kf : ¬ y < x → sf_G p l e R s m args below meth c Q nL D cl q dA K σ pc' lv st) : sf_G p l e R s m args below meth c Q nL D cl q dA K σ pc lv (.int y :: .int x :: st) := by
  subst hp
  exact fun H locs ls hP hS hl => lv_icmp_gt X.1.1 X.1.2.1 hdg ht (fun h => kt h H locs ls hP hS hl) (fun h => kf h H locs ls hP hS hl)
theorem sf_if_le (X : sf_Cx p s m args meth c cc nL own ret Ts D cl q dA K E) {x : Int32} {off : Int} {tgt : Nat} (hdg : decode cc pc = .ok (.ifCond .le off, 3)) (ht : (pc : Int) + off = (tgt : Int)) (hp : pc + 3 = pc') (kt : x ≤ 0 → sf_G p l e R s m args below meth c Q nL D cl q dA K σ tgt lv st) (kf : ¬ x ≤ 0 → sf_G p l e R s m args below meth c Q nL D cl q dA K σ pc' lv st) : sf_G p l e R s m args below meth c Q nL D cl q dA K σ pc lv (.int x :: st) := by
  subst hp
  exact fun H locs ls hP hS hl => lv_if_le X.1.1 X.1.2.1 hdg ht (fun h => kt h H locs ls hP hS hl) (fun h => kf h H locs ls hP hS hl)
theorem sf_icmp_le (X : sf_Cx p s m args meth c cc nL own ret Ts D cl q dA K E) {x y : Int32} {off : Int} {tgt : Nat} (hdg : decode cc pc = .ok (.if_icmp .le off, 3)) (ht : (pc : Int) + off = (tgt : Int)) (hp : pc + 3 = pc') (kt : x ≤ y → sf_G p l e R s m args below meth c Q nL D cl q dA K σ tgt lv st) (kf : ¬ x ≤ y → sf_G p l e R s m args below meth c Q nL D cl q dA K σ pc' lv st) : sf_G p l e R s m args below meth c Q nL D cl q dA K σ pc lv (.int y :: .int x :: st) := by
  subst hp
  exact fun H locs ls hP hS hl => lv_icmp_le X.1.1 X.1.2.1 hdg ht (fun h => kt h H locs ls hP hS hl) (fun h => kf h H locs ls hP hS hl)
theorem sf_goto (X : sf_Cx p s m args meth c cc nL own ret Ts D cl q dA K E) {off : Int} {tgt : Nat} (hdg : decode cc pc = .ok (.goto off, 3)) (ht : (pc : Int) + off = (tgt : Int)) (k : sf_G p l e R s m args below meth c Q nL D cl q dA K σ tgt lv st) : sf_G p l e R s m args below meth c Q nL D cl q dA K σ pc lv st := fun H locs ls hP hS hl => lv_goto X.1.1 X.1.2.1 hdg ht (k H locs ls hP hS hl)
theorem sf_getR (X : sf_Cx p s m args meth c cc nL own ret Ts D cl q dA K E) {ref C : String} {T : u_T} {N ci index k j : Nat} {fs : List (Option Nat)} {k' : Nat} (hin : ∀ w ∈ u_ws C T N, w ∈ Ts) (hc : cl[ci]? = some (C, T, N)) (hk : K[k]? = some (4, ci, fs)) (hj : j < N) (hlink : (Cond.fieldLink own index ref (T j).2.1 (T j).2.2.1).before args s = true) (hsame : ∀ x, s.fieldFound? (T j).1 (T j).2.1 (T j).2.2.1 = some x → s.fieldFound? ref (T j).2.1 (T j).2.2.1 = some x) (hv : fs[j]? = some (some k')) (hdg : decode cc pc = .ok (.getfield index, 3)) (hp : pc + 3 = pc') (kk : sf_G p l e R s m args below meth c Q nL D cl q dA K σ pc' lv (.ref (q k') :: st)) : sf_G p l e R s m args below meth c Q nL D cl q dA K σ pc lv (.ref (q k) :: st) := by
  subst hp
  exact fun H locs ls hP hS hl => va_get X.1.1 X.1.2.1 X.1.2.2.2.2 hin X.1.2.2.2.1 X.2.1 hP k (sf_w_at hk) hc j hj hlink hsame (v := .ref (q k')) (by rw [List.getElem?_mapIdx, hv]; rfl) hdg (kk H locs ls hP hS hl)
theorem sf_getI (X : sf_Cx p s m args meth c cc nL own ret Ts D cl q dA K E) {ref C : String} {T : u_T} {N ci index k j : Nat} {fs : List (Option Nat)} (hin : ∀ w ∈ u_ws C T N, w ∈ Ts) (hc : cl[ci]? = some (C, T, N)) (hk : K[k]? = some (4, ci, fs)) (hj : j < N) (hlink : (Cond.fieldLink own index ref (T j).2.1 (T j).2.2.1).before args s = true) (hsame : ∀ x, s.fieldFound? (T j).1 (T j).2.1 (T j).2.2.1 = some x → s.fieldFound? ref (T j).2.1 (T j).2.2.1 = some x) (hv : fs[j]? = some none) (hdg : decode cc pc = .ok (.getfield index, 3)) (hp : pc + 3 = pc') (kk : sf_G p l e R s m args below meth c Q nL D cl q dA K σ pc' lv (.int (σ k j) :: st)) : sf_G p l e R s m args below meth c Q nL D cl q dA K σ pc lv (.ref (q k) :: st) := by
  subst hp
  exact fun H locs ls hP hS hl => va_get X.1.1 X.1.2.1 X.1.2.2.2.2 hin X.1.2.2.2.1 X.2.1 hP k (sf_w_at hk) hc j hj hlink hsame (v := .int (σ k j)) (by rw [List.getElem?_mapIdx, hv]; rfl) hdg (kk H locs ls hP hS hl)
theorem sf_putI (X : sf_Cx p s m args meth c cc nL own ret Ts D cl q dA K E) {ref C : String} {T : u_T} {N ci index k j : Nat} {fs : List (Option Nat)} (hin : ∀ w ∈ u_ws C T N, w ∈ Ts) (hc : cl[ci]? = some (C, T, N)) (hk : K[k]? = some (4, ci, fs)) (hj : j < N) (hlink : (Cond.fieldLink own index ref (T j).2.1 (T j).2.2.1).before args s = true) (hsame : ∀ x, s.fieldFound? (T j).1 (T j).2.1 (T j).2.2.1 = some x → s.fieldFound? ref (T j).2.1 (T j).2.2.1 = some x) (ty0 : Nat → FieldType) (hty : ∀ k, k < N → parseFieldDescriptor (T k).2.2.1 = some (ty0 k)) (hnm : ∀ a, a < N → ∀ b, b < N → a ≠ b → (T a).2.1 ≠ (T b).2.1) (hfin : (T j).2.2.2 = false) {ty : FieldType} {v : Int32} (hd : parseFieldDescriptor (T j).2.2.1 = some ty) (hn : narrow ty (.int v) = .int v) (hfit : fits ty (.int v) = true) (hv : fs[j]? = some none) (hdg : decode cc pc = .ok (.putfield index, 3)) (hp : pc + 3 = pc') (kk : ∀ τ : sf_St, τ = sf_up σ k j v → sf_G p l e R s m args below meth c Q nL D cl q dA K τ pc' lv st) : sf_G p l e R s m args below meth c Q nL D cl q dA K σ pc lv (.int v :: .ref (q k) :: st) := by
  subst hp
  intro H locs ls hP hS hl
  refine va_put X.1.1 X.1.2.1 X.1.2.2.2.2 hin ty0 hty hnm X.1.2.2.2.1 X.2.1 hP (sf_w_D X.2.2.1) hS k (sf_w_at hk) hc j hj hlink hsame hfin hd hn hfit (by rw [List.length_mapIdx]; exact (List.getElem?_eq_some_iff.mp hv).1) hdg (fun H1 locs1 hP1 hD1 hS1 => ?_)
  rw [sf_fs_set hv] at hP1
  have hs := sf_w_set (q := q) (dA := dA) (σ := σ) (upd (σ k) j v) hk
  rw [sf_ce_o] at hs
  rw [hs] at hP1
  exact kk _ rfl H1 locs1 ls hP1 hS1 hl
theorem sf_getRN (X : sf_Cx p s m args meth c cc nL own ret Ts D cl q dA K E) {host : String} {ref C : String} {T : u_T} {N ci index k j : Nat} {fs : List (Option Nat)} {k' : Nat} (hin : ∀ w ∈ u_ws C T N, w ∈ Ts) (hc : cl[ci]? = some (C, T, N)) (hk : K[k]? = some (4, ci, fs)) (hj : j < N) (hlink : (Cond.fieldLinkNest own index ref (T j).2.1 (T j).2.2.1 host).before args s = true) (hsame : ∀ x, s.fieldFound? (T j).1 (T j).2.1 (T j).2.2.1 = some x → s.fieldFound? ref (T j).2.1 (T j).2.2.1 = some x) (hv : fs[j]? = some (some k')) (hdg : decode cc pc = .ok (.getfield index, 3)) (hp : pc + 3 = pc') (kk : sf_G p l e R s m args below meth c Q nL D cl q dA K σ pc' lv (.ref (q k') :: st)) : sf_G p l e R s m args below meth c Q nL D cl q dA K σ pc lv (.ref (q k) :: st) := by
  subst hp
  exact fun H locs ls hP hS hl => va_getN X.1.1 X.1.2.1 X.1.2.2.2.2 hin X.1.2.2.2.1 X.2.1 hP k (sf_w_at hk) hc j hj hlink hsame (v := .ref (q k')) (by rw [List.getElem?_mapIdx, hv]; rfl) hdg (kk H locs ls hP hS hl)
theorem sf_getIN (X : sf_Cx p s m args meth c cc nL own ret Ts D cl q dA K E) {host : String} {ref C : String} {T : u_T} {N ci index k j : Nat} {fs : List (Option Nat)} (hin : ∀ w ∈ u_ws C T N, w ∈ Ts) (hc : cl[ci]? = some (C, T, N)) (hk : K[k]? = some (4, ci, fs)) (hj : j < N) (hlink : (Cond.fieldLinkNest own index ref (T j).2.1 (T j).2.2.1 host).before args s = true) (hsame : ∀ x, s.fieldFound? (T j).1 (T j).2.1 (T j).2.2.1 = some x → s.fieldFound? ref (T j).2.1 (T j).2.2.1 = some x) (hv : fs[j]? = some none) (hdg : decode cc pc = .ok (.getfield index, 3)) (hp : pc + 3 = pc') (kk : sf_G p l e R s m args below meth c Q nL D cl q dA K σ pc' lv (.int (σ k j) :: st)) : sf_G p l e R s m args below meth c Q nL D cl q dA K σ pc lv (.ref (q k) :: st) := by
  subst hp
  exact fun H locs ls hP hS hl => va_getN X.1.1 X.1.2.1 X.1.2.2.2.2 hin X.1.2.2.2.1 X.2.1 hP k (sf_w_at hk) hc j hj hlink hsame (v := .int (σ k j)) (by rw [List.getElem?_mapIdx, hv]; rfl) hdg (kk H locs ls hP hS hl)
theorem sf_putIN (X : sf_Cx p s m args meth c cc nL own ret Ts D cl q dA K E) {host : String} {ref C : String} {T : u_T} {N ci index k j : Nat} {fs : List (Option Nat)} (hin : ∀ w ∈ u_ws C T N, w ∈ Ts) (hc : cl[ci]? = some (C, T, N)) (hk : K[k]? = some (4, ci, fs)) (hj : j < N) (hlink : (Cond.fieldLinkNest own index ref (T j).2.1 (T j).2.2.1 host).before args s = true) (hsame : ∀ x, s.fieldFound? (T j).1 (T j).2.1 (T j).2.2.1 = some x → s.fieldFound? ref (T j).2.1 (T j).2.2.1 = some x) (ty0 : Nat → FieldType) (hty : ∀ k, k < N → parseFieldDescriptor (T k).2.2.1 = some (ty0 k)) (hnm : ∀ a, a < N → ∀ b, b < N → a ≠ b → (T a).2.1 ≠ (T b).2.1) (hfin : (T j).2.2.2 = false) {ty : FieldType} {v : Int32} (hd : parseFieldDescriptor (T j).2.2.1 = some ty) (hn : narrow ty (.int v) = .int v) (hfit : fits ty (.int v) = true) (hv : fs[j]? = some none) (hdg : decode cc pc = .ok (.putfield index, 3)) (hp : pc + 3 = pc') (kk : ∀ τ : sf_St, τ = sf_up σ k j v → sf_G p l e R s m args below meth c Q nL D cl q dA K τ pc' lv st) : sf_G p l e R s m args below meth c Q nL D cl q dA K σ pc lv (.int v :: .ref (q k) :: st) := by
  subst hp
  intro H locs ls hP hS hl
  refine va_putN X.1.1 X.1.2.1 X.1.2.2.2.2 hin ty0 hty hnm X.1.2.2.2.1 X.2.1 hP (sf_w_D X.2.2.1) hS k (sf_w_at hk) hc j hj hlink hsame hfin hd hn hfit (by rw [List.length_mapIdx]; exact (List.getElem?_eq_some_iff.mp hv).1) hdg (fun H1 locs1 hP1 hD1 hS1 => ?_)
  rw [sf_fs_set hv] at hP1
  have hs := sf_w_set (q := q) (dA := dA) (σ := σ) (upd (σ k) j v) hk
  rw [sf_ce_o] at hs
  rw [hs] at hP1
  exact kk _ rfl H1 locs1 ls hP1 hS1 hl
theorem sf_iald (X : sf_Cx p s m args meth c cc nL own ret Ts D cl q dA K E) {k n : Nat} {i : Int32} (hk : K[k]? = some (0, n, [])) (hin : vp_in i n) (hdg : decode cc pc = .ok (.iaload, 1)) (hp : pc + 1 = pc') (kk : sf_G p l e R s m args below meth c Q nL D cl q dA K σ pc' lv (.int (σ k (sf_ix i)) :: st)) : sf_G p l e R s m args below meth c Q nL D cl q dA K σ pc lv (.int i :: .ref (q k) :: st) := by
  subst hp
  exact fun H locs ls hP hS hl => va_iald X.1.1 X.1.2.1 X.2.1 hP k 0 (sf_w_at hk) (rfl : (sf_tys dA)[0]? = some (dA 0, .int)) hin hdg (kk H locs ls hP hS hl)
theorem sf_zald (X : sf_Cx p s m args meth c cc nL own ret Ts D cl q dA K E) {k n : Nat} {i : Int32} (hk : K[k]? = some (1, n, [])) (hin : vp_in i n) (hdg : decode cc pc = .ok (.baload, 1)) (hp : pc + 1 = pc') (kk : sf_G p l e R s m args below meth c Q nL D cl q dA K σ pc' lv (.int (σ k (sf_ix i)) :: st)) : sf_G p l e R s m args below meth c Q nL D cl q dA K σ pc lv (.int i :: .ref (q k) :: st) := by
  subst hp
  exact fun H locs ls hP hS hl => va_zald X.1.1 X.1.2.1 X.2.1 hP k 1 (sf_w_at hk) (rfl : (sf_tys dA)[1]? = some (dA 1, .boolean)) hin hdg (kk H locs ls hP hS hl)
theorem sf_cald (X : sf_Cx p s m args meth c cc nL own ret Ts D cl q dA K E) {k n : Nat} {i : Int32} (hk : K[k]? = some (2, n, [])) (hin : vp_in i n) (hdg : decode cc pc = .ok (.caload, 1)) (hp : pc + 1 = pc') (kk : sf_G p l e R s m args below meth c Q nL D cl q dA K σ pc' lv (.int (σ k (sf_ix i)) :: st)) : sf_G p l e R s m args below meth c Q nL D cl q dA K σ pc lv (.int i :: .ref (q k) :: st) := by
  subst hp
  exact fun H locs ls hP hS hl => va_cald X.1.1 X.1.2.1 X.2.1 hP k 2 (sf_w_at hk) (rfl : (sf_tys dA)[2]? = some (dA 2, .char)) hin hdg (kk H locs ls hP hS hl)
theorem sf_iast (X : sf_Cx p s m args meth c cc nL own ret Ts D cl q dA K E) {k n : Nat} {i x : Int32} (hk : K[k]? = some (0, n, [])) (hin : vp_in i n) (hdg : decode cc pc = .ok (.iastore, 1)) (hp : pc + 1 = pc') (kk : ∀ τ : sf_St, τ = sf_up σ k (sf_ix i) x → sf_G p l e R s m args below meth c Q nL D cl q dA K τ pc' lv st) : sf_G p l e R s m args below meth c Q nL D cl q dA K σ pc lv (.int x :: .int i :: .ref (q k) :: st) := by
  subst hp
  intro H locs ls hP hS hl
  refine va_iast X.1.1 X.1.2.1 X.2.1 hP (sf_w_D X.2.2.1) hS k 0 (sf_w_at hk) (rfl : (sf_tys dA)[0]? = some (dA 0, .int)) hin hdg (fun H1 locs1 hP1 hD1 hS1 => ?_)
  have hs := sf_w_set (q := q) (dA := dA) (σ := σ) (upd (σ k) i.toNatClampNeg x) hk
  rw [sf_ce_a (by decide)] at hs
  rw [hs] at hP1
  exact kk _ rfl H1 locs1 ls hP1 hS1 hl
theorem sf_zast (X : sf_Cx p s m args meth c cc nL own ret Ts D cl q dA K E) {k n : Nat} {i x : Int32} (hk : K[k]? = some (1, n, [])) (hin : vp_in i n) (hdg : decode cc pc = .ok (.bastore, 1)) (hp : pc + 1 = pc') (kk : ∀ τ : sf_St, τ = sf_up σ k (sf_ix i) (vp_nar .boolean x) → sf_G p l e R s m args below meth c Q nL D cl q dA K τ pc' lv st) : sf_G p l e R s m args below meth c Q nL D cl q dA K σ pc lv (.int x :: .int i :: .ref (q k) :: st) := by
  subst hp
  intro H locs ls hP hS hl
  refine va_zast X.1.1 X.1.2.1 X.2.1 hP (sf_w_D X.2.2.1) hS k 1 (sf_w_at hk) (rfl : (sf_tys dA)[1]? = some (dA 1, .boolean)) hin hdg (fun H1 locs1 hP1 hD1 hS1 => ?_)
  have hs := sf_w_set (q := q) (dA := dA) (σ := σ) (upd (σ k) i.toNatClampNeg (vp_nar .boolean x)) hk
  rw [sf_ce_a (by decide)] at hs
  rw [hs] at hP1
  exact kk _ rfl H1 locs1 ls hP1 hS1 hl
theorem sf_cast (X : sf_Cx p s m args meth c cc nL own ret Ts D cl q dA K E) {k n : Nat} {i x : Int32} (hk : K[k]? = some (2, n, [])) (hin : vp_in i n) (hdg : decode cc pc = .ok (.castore, 1)) (hp : pc + 1 = pc') (kk : ∀ τ : sf_St, τ = sf_up σ k (sf_ix i) (vp_nar .char x) → sf_G p l e R s m args below meth c Q nL D cl q dA K τ pc' lv st) : sf_G p l e R s m args below meth c Q nL D cl q dA K σ pc lv (.int x :: .int i :: .ref (q k) :: st) := by
  subst hp
  intro H locs ls hP hS hl
  refine va_cast X.1.1 X.1.2.1 X.2.1 hP (sf_w_D X.2.2.1) hS k 2 (sf_w_at hk) (rfl : (sf_tys dA)[2]? = some (dA 2, .char)) hin hdg (fun H1 locs1 hP1 hD1 hS1 => ?_)
  have hs := sf_w_set (q := q) (dA := dA) (σ := σ) (upd (σ k) i.toNatClampNeg (vp_nar .char x)) hk
  rw [sf_ce_a (by decide)] at hs
  rw [hs] at hP1
  exact kk _ rfl H1 locs1 ls hP1 hS1 hl
theorem sf_alen (X : sf_Cx p s m args meth c cc nL own ret Ts D cl q dA K E) {k n t : Nat} {v : Int32} {ty : FieldType} (hk : K[k]? = some (t, n, [])) (ht : t < 3) (hty : (sf_tys dA)[t]? = some (dA t, ty)) (hv : Int32.ofNat n = v) (hdg : decode cc pc = .ok (.arraylength, 1)) (hp : pc + 1 = pc') (kk : sf_G p l e R s m args below meth c Q nL D cl q dA K σ pc' lv (.int v :: st)) : sf_G p l e R s m args below meth c Q nL D cl q dA K σ pc lv (.ref (q k) :: st) := by
  subst hp
  intro H locs ls hP hS hl
  have ha := sf_w_at (q := q) (dA := dA) (σ := σ) hk
  rw [sf_ce_a ht] at ha
  exact va_alen X.1.1 X.1.2.1 X.2.1 hP k t ha hty hv hdg (kk H locs ls hP hS hl)
theorem sf_aald (X : sf_Cx p s m args meth c cc nL own ret Ts D cl q dA K E) {k n k' : Nat} {i : Int32} {rs : List (Option Nat)} (hk : K[k]? = some (3, n, rs)) (hin : vp_in i n) (hr : rs[sf_ix i]? = some (some k')) (hdg : decode cc pc = .ok (.aaload, 1)) (hp : pc + 1 = pc') (kk : sf_G p l e R s m args below meth c Q nL D cl q dA K σ pc' lv (.ref (q k') :: st)) : sf_G p l e R s m args below meth c Q nL D cl q dA K σ pc lv (.int i :: .ref (q k) :: st) := by
  subst hp
  intro H locs ls hP hS hl
  have hlt : i.toNatClampNeg < n := Nat.not_le.mp fun z => hin (Or.inr z)
  refine W.aald (v := .ref (q k')) (ty := .array .int) X.1.1 X.1.2.1 (hP k _ (sf_w_at hk)) ((X.2.1.2 3 _ (rfl : (sf_tys dA)[3]? = some (dA 3, .array .int))).1 n (fun j => va_rf ((rs.getD j none).map q))) rfl (fun z => by cases z) (by show ¬ (i < 0 ∨ (arrV _ _ _).slots.size ≤ _); rw [arrV_size]; exact hin) (by show (arrV _ _ _).slots[_]? = _; rw [arrV_read _ _ hlt]; show some (va_rf ((rs.getD (sf_ix i) none).map q)) = _; rw [List.getD_eq_getElem?_getD, hr]; rfl) rfl rfl hdg (kk H locs ls hP hS hl)
theorem sf_end (X : sf_Cx p s m args meth c cc nL own ret Ts D cl q dA K E) {H : Heap} {locs : List Loc} {t : State} (hP : va_P D cl (sf_w q dA K σ) H) (hS : va_S (sf_A q K) s.heap H locs) (ht : t.heap = H) (hvm : s.WarmedH t.vm) : sf_I D cl q dA K E σ t :=
  ⟨by rw [ht]; exact hP, va_K.moved hvm.alike X.2.1, X.2.2.2.2.1 s t hvm (fun a h1 h2 => by rw [ht]; exact hS.2.1 a h1 h2) (by rw [ht]; exact hS.1) X.2.2.2.1⟩
theorem sf_reti (X : sf_Cx p s m args meth c cc nL own (some .int) Ts D cl q dA K E) {r v : Int32} {τ : sf_St} (h : r = v ∧ τ = σ) (hdg : decode cc pc = .ok (.ireturn, 1)) : sf_G p l e R s m args below meth c (sf_Qi D cl q dA K E below args s r τ) nL D cl q dA K σ pc lv [.int v] := by
  obtain ⟨rfl, rfl⟩ := h
  exact fun H locs ls hP hS hl => W.iret X.1.1 X.1.2.1 X.2.2.2.2.2.1 (fun t ht hW => ⟨⟨r, τ, rfl, ⟨rfl, rfl⟩, sf_end X hP hS ht hW⟩, hS.F ht⟩) hS.2.2 hdg X.2.2.2.2.2.2
theorem sf_retz {ty : FieldType} (X : sf_Cx p s m args meth c cc nL own (some ty) Ts D cl q dA K E) {r v : Int32} {τ : sf_St} (h : r = v ∧ τ = σ) (hn : narrow ty (.int v) = .int v) (hdg : decode cc pc = .ok (.ireturn, 1)) : sf_G p l e R s m args below meth c (sf_Qi D cl q dA K E below args s r τ) nL D cl q dA K σ pc lv [.int v] := by
  obtain ⟨rfl, rfl⟩ := h
  exact fun H locs ls hP hS hl => W.zret X.1.1 X.1.2.1 X.2.2.2.2.2.1 hn (fun t ht hW => ⟨⟨r, τ, rfl, ⟨rfl, rfl⟩, sf_end X hP hS ht hW⟩, hS.F ht⟩) hS.2.2 hdg X.2.2.2.2.2.2
theorem sf_retv (X : sf_Cx p s m args meth c cc nL own none Ts D cl q dA K E) {τ : sf_St} (h : τ = σ) (hdg : decode cc pc = .ok (.return_, 1)) : sf_G p l e R s m args below meth c (sf_Qv D cl q dA K E below args s τ) nL D cl q dA K σ pc lv [] := by
  subst h
  exact fun H locs ls hP hS hl => W.vret X.1.1 X.1.2.1 X.2.2.2.2.2.1 (fun t ht hW => ⟨⟨τ, rfl, rfl, sf_end X hP hS ht hW⟩, hS.F ht⟩) hS.2.2 hdg X.2.2.2.2.2.2
theorem sf_blind (hEk : sf_Ek q K E) (av : List Value) : FrameBlind (va_Pc av (sf_I D cl q dA K E σ)) := fun a U g mk h =>
  ⟨h.1, h.2.1, va_K.moved (u := U) (U := U.calling g mk a) (Vm.Alike.refl U.vm) h.2.2.1, hEk U (U.calling g mk a) (State.WarmedH.refl U) (fun _ _ _ => rfl) (Nat.le_refl _) h.2.2.2⟩
theorem sf_preS (X : sf_Cx p s m args meth c cc nL own ret Ts D cl q dA K E) {H : Heap} {locs : List Loc} (hP : va_P D cl (sf_w q dA K σ) H) (hS : va_S (sf_A q K) s.heap H locs) (av : List Value) : PreS s H (va_Pc av (sf_I D cl q dA K E σ)) av :=
  ⟨sf_blind X.2.2.2.2.1 av, fun U hU hW => ⟨rfl, sf_end X hP hS hU hW⟩⟩
theorem sf_preV (X : sf_Cx p s m args meth c cc nL own ret Ts D cl q dA K E) {H : Heap} {locs : List Loc} {k ci : Nat} {fs : List (Option Nat)} {cv : vw_C} (hP : va_P D cl (sf_w q dA K σ) H) (hS : va_S (sf_A q K) s.heap H locs) (hk : K[k]? = some (4, ci, fs)) (hc : cl[ci]? = some cv) (As : List Value) : PreV s H cv.1 (q k) (va_Pc (.ref (q k) :: As) (sf_I D cl q dA K E σ)) As :=
  ⟨sf_blind X.2.2.2.2.1 _, va_recv X.2.1 hP hc (sf_w_at hk), fun U hU hW => ⟨rfl, sf_end X hP hS hU hW⟩⟩
theorem sf_callVi (X : sf_Cx p s m args meth c cc nL own ret Ts D cl q dA K E) {y : MethodName} {ws' : List Cond} {rm' : Room} {bytes : ByteArray} {maxL n index : Nat} {ret' : Option FieldType} {As rest : List Value} {r : Int32} {τ : sf_St} {k ci : Nat} {fs : List (Option Nat)} {cv : vw_C} (hk : K[k]? = some (4, ci, fs)) (hc : cl[ci]? = some cv) (hM : sf_Mi l y ws' rm' D cl q dA K E (.ref (q k) :: As) σ r τ) (cw : CallW R s args own cv.1 index y bytes maxL ret' ws' rm' 0 0 n) (hn : As.length = n) (hst : st = As.reverse ++ .ref (q k) :: rest) (hW : (rest.map fun v => v.category).sum ≤ 8) (hdg : decode cc pc = .ok (.invokevirtual index, 3)) (hp : pc + 3 = pc') (kk : sf_G p l e R s m args below meth c Q nL D cl q dA K τ pc' lv (.int r :: rest)) : sf_G p l e R s m args below meth c Q nL D cl q dA K σ pc lv st := by
  subst hst; subst hp
  intro H locs ls hP hS hl
  refine va_calli (va_runV (As := As) (rest := rest) X.1 hM cw (sf_preV X hP hS hk hc As) rfl hn hl.1 rfl (lv_room hW) hdg ⟨Nat.zero_le _, Nat.zero_le _⟩) hS (fun _ _ h => h) (fun _ h => h) (fun r' u t H1 locs1 ht hvm hpo hB hz hk1 hS1 => ?_)
  obtain ⟨rfl, rfl⟩ := hpo
  exact kk H1 locs1 ls (by rw [← ht]; exact hB.1) hS1 hl
theorem sf_callSi (X : sf_Cx p s m args meth c cc nL own ret Ts D cl q dA K E) {y : MethodName} {ws' : List Cond} {rm' : Room} {bytes : ByteArray} {maxL n index : Nat} {ret' : Option FieldType} {As rest : List Value} {r : Int32} {τ : sf_St}  (hM : sf_Mi l y ws' rm' D cl q dA K E As σ r τ) (cw : CallB R s args own index y bytes maxL ret' ws' rm' 0 0 n ∧ (Cond.static y).before args s = true) (hn : As.length = n) (hst : st = As.reverse ++ rest) (hW : (rest.map fun v => v.category).sum ≤ 8) (hdg : decode cc pc = .ok (.invokestatic index, 3)) (hp : pc + 3 = pc') (kk : sf_G p l e R s m args below meth c Q nL D cl q dA K τ pc' lv (.int r :: rest)) : sf_G p l e R s m args below meth c Q nL D cl q dA K σ pc lv st := by
  subst hst; subst hp
  intro H locs ls hP hS hl
  refine va_calli (va_runS (As := As) (rest := rest) X.1 hM cw (sf_preS X hP hS As) rfl hn hl.1 rfl (lv_room hW) hdg ⟨Nat.zero_le _, Nat.zero_le _⟩) hS (fun _ _ h => h) (fun _ h => h) (fun r' u t H1 locs1 ht hvm hpo hB hz hk1 hS1 => ?_)
  obtain ⟨rfl, rfl⟩ := hpo
  exact kk H1 locs1 ls (by rw [← ht]; exact hB.1) hS1 hl
theorem sf_callVNi (X : sf_Cx p s m args meth c cc nL own ret Ts D cl q dA K E) {host : String} {y : MethodName} {ws' : List Cond} {rm' : Room} {bytes : ByteArray} {maxL n index : Nat} {ret' : Option FieldType} {As rest : List Value} {r : Int32} {τ : sf_St} {k ci : Nat} {fs : List (Option Nat)} {cv : vw_C} (hk : K[k]? = some (4, ci, fs)) (hc : cl[ci]? = some cv) (hM : sf_Mi l y ws' rm' D cl q dA K E (.ref (q k) :: As) σ r τ) (cw : va_CN R s args own index y host bytes maxL ret' ws' rm' 0 0 n ∧ (Cond.instanceMethod y).before args s = true ∧ (Cond.selects cv.1 y y).before args s = true) (hn : As.length = n) (hst : st = As.reverse ++ .ref (q k) :: rest) (hW : (rest.map fun v => v.category).sum ≤ 8) (hdg : decode cc pc = .ok (.invokevirtual index, 3)) (hp : pc + 3 = pc') (kk : sf_G p l e R s m args below meth c Q nL D cl q dA K τ pc' lv (.int r :: rest)) : sf_G p l e R s m args below meth c Q nL D cl q dA K σ pc lv st := by
  subst hst; subst hp
  intro H locs ls hP hS hl
  refine va_calli (va_runVN (As := As) (rest := rest) X.1 hM cw (sf_preV X hP hS hk hc As) rfl hn hl.1 rfl (lv_room hW) hdg ⟨Nat.zero_le _, Nat.zero_le _⟩) hS (fun _ _ h => h) (fun _ h => h) (fun r' u t H1 locs1 ht hvm hpo hB hz hk1 hS1 => ?_)
  obtain ⟨rfl, rfl⟩ := hpo
  exact kk H1 locs1 ls (by rw [← ht]; exact hB.1) hS1 hl
theorem sf_callSNi (X : sf_Cx p s m args meth c cc nL own ret Ts D cl q dA K E) {host : String} {y : MethodName} {ws' : List Cond} {rm' : Room} {bytes : ByteArray} {maxL n index : Nat} {ret' : Option FieldType} {As rest : List Value} {r : Int32} {τ : sf_St}  (hM : sf_Mi l y ws' rm' D cl q dA K E As σ r τ) (cw : va_CN R s args own index y host bytes maxL ret' ws' rm' 0 0 n ∧ (Cond.static y).before args s = true ∧ True) (hn : As.length = n) (hst : st = As.reverse ++ rest) (hW : (rest.map fun v => v.category).sum ≤ 8) (hdg : decode cc pc = .ok (.invokestatic index, 3)) (hp : pc + 3 = pc') (kk : sf_G p l e R s m args below meth c Q nL D cl q dA K τ pc' lv (.int r :: rest)) : sf_G p l e R s m args below meth c Q nL D cl q dA K σ pc lv st := by
  subst hst; subst hp
  intro H locs ls hP hS hl
  refine va_calli (va_runSN (As := As) (rest := rest) X.1 hM cw (sf_preS X hP hS As) rfl hn hl.1 rfl (lv_room hW) hdg ⟨Nat.zero_le _, Nat.zero_le _⟩) hS (fun _ _ h => h) (fun _ h => h) (fun r' u t H1 locs1 ht hvm hpo hB hz hk1 hS1 => ?_)
  obtain ⟨rfl, rfl⟩ := hpo
  exact kk H1 locs1 ls (by rw [← ht]; exact hB.1) hS1 hl
theorem sf_callVv (X : sf_Cx p s m args meth c cc nL own ret Ts D cl q dA K E) {y : MethodName} {ws' : List Cond} {rm' : Room} {bytes : ByteArray} {maxL n index : Nat} {ret' : Option FieldType} {As rest : List Value} {τ : sf_St} {k ci : Nat} {fs : List (Option Nat)} {cv : vw_C} (hk : K[k]? = some (4, ci, fs)) (hc : cl[ci]? = some cv) (hM : sf_Mv l y ws' rm' D cl q dA K E (.ref (q k) :: As) σ τ) (cw : CallW R s args own cv.1 index y bytes maxL ret' ws' rm' 0 0 n) (hn : As.length = n) (hst : st = As.reverse ++ .ref (q k) :: rest) (hW : (rest.map fun v => v.category).sum ≤ 8) (hdg : decode cc pc = .ok (.invokevirtual index, 3)) (hp : pc + 3 = pc') (kk : sf_G p l e R s m args below meth c Q nL D cl q dA K τ pc' lv rest) : sf_G p l e R s m args below meth c Q nL D cl q dA K σ pc lv st := by
  subst hst; subst hp
  intro H locs ls hP hS hl
  refine va_callv (va_runV (As := As) (rest := rest) X.1 hM cw (sf_preV X hP hS hk hc As) rfl hn hl.1 rfl (lv_room hW) hdg ⟨Nat.zero_le _, Nat.zero_le _⟩) hS (fun _ _ h => h) (fun _ h => h) (fun u t H1 locs1 ht hvm hpo hB hz hk1 hS1 => ?_)
  subst hpo
  exact kk H1 locs1 ls (by rw [← ht]; exact hB.1) hS1 hl
theorem sf_callSv (X : sf_Cx p s m args meth c cc nL own ret Ts D cl q dA K E) {y : MethodName} {ws' : List Cond} {rm' : Room} {bytes : ByteArray} {maxL n index : Nat} {ret' : Option FieldType} {As rest : List Value} {τ : sf_St}  (hM : sf_Mv l y ws' rm' D cl q dA K E As σ τ) (cw : CallB R s args own index y bytes maxL ret' ws' rm' 0 0 n ∧ (Cond.static y).before args s = true) (hn : As.length = n) (hst : st = As.reverse ++ rest) (hW : (rest.map fun v => v.category).sum ≤ 8) (hdg : decode cc pc = .ok (.invokestatic index, 3)) (hp : pc + 3 = pc') (kk : sf_G p l e R s m args below meth c Q nL D cl q dA K τ pc' lv rest) : sf_G p l e R s m args below meth c Q nL D cl q dA K σ pc lv st := by
  subst hst; subst hp
  intro H locs ls hP hS hl
  refine va_callv (va_runS (As := As) (rest := rest) X.1 hM cw (sf_preS X hP hS As) rfl hn hl.1 rfl (lv_room hW) hdg ⟨Nat.zero_le _, Nat.zero_le _⟩) hS (fun _ _ h => h) (fun _ h => h) (fun u t H1 locs1 ht hvm hpo hB hz hk1 hS1 => ?_)
  subst hpo
  exact kk H1 locs1 ls (by rw [← ht]; exact hB.1) hS1 hl
theorem sf_callVNv (X : sf_Cx p s m args meth c cc nL own ret Ts D cl q dA K E) {host : String} {y : MethodName} {ws' : List Cond} {rm' : Room} {bytes : ByteArray} {maxL n index : Nat} {ret' : Option FieldType} {As rest : List Value} {τ : sf_St} {k ci : Nat} {fs : List (Option Nat)} {cv : vw_C} (hk : K[k]? = some (4, ci, fs)) (hc : cl[ci]? = some cv) (hM : sf_Mv l y ws' rm' D cl q dA K E (.ref (q k) :: As) σ τ) (cw : va_CN R s args own index y host bytes maxL ret' ws' rm' 0 0 n ∧ (Cond.instanceMethod y).before args s = true ∧ (Cond.selects cv.1 y y).before args s = true) (hn : As.length = n) (hst : st = As.reverse ++ .ref (q k) :: rest) (hW : (rest.map fun v => v.category).sum ≤ 8) (hdg : decode cc pc = .ok (.invokevirtual index, 3)) (hp : pc + 3 = pc') (kk : sf_G p l e R s m args below meth c Q nL D cl q dA K τ pc' lv rest) : sf_G p l e R s m args below meth c Q nL D cl q dA K σ pc lv st := by
  subst hst; subst hp
  intro H locs ls hP hS hl
  refine va_callv (va_runVN (As := As) (rest := rest) X.1 hM cw (sf_preV X hP hS hk hc As) rfl hn hl.1 rfl (lv_room hW) hdg ⟨Nat.zero_le _, Nat.zero_le _⟩) hS (fun _ _ h => h) (fun _ h => h) (fun u t H1 locs1 ht hvm hpo hB hz hk1 hS1 => ?_)
  subst hpo
  exact kk H1 locs1 ls (by rw [← ht]; exact hB.1) hS1 hl
theorem sf_callSNv (X : sf_Cx p s m args meth c cc nL own ret Ts D cl q dA K E) {host : String} {y : MethodName} {ws' : List Cond} {rm' : Room} {bytes : ByteArray} {maxL n index : Nat} {ret' : Option FieldType} {As rest : List Value} {τ : sf_St}  (hM : sf_Mv l y ws' rm' D cl q dA K E As σ τ) (cw : va_CN R s args own index y host bytes maxL ret' ws' rm' 0 0 n ∧ (Cond.static y).before args s = true ∧ True) (hn : As.length = n) (hst : st = As.reverse ++ rest) (hW : (rest.map fun v => v.category).sum ≤ 8) (hdg : decode cc pc = .ok (.invokestatic index, 3)) (hp : pc + 3 = pc') (kk : sf_G p l e R s m args below meth c Q nL D cl q dA K τ pc' lv rest) : sf_G p l e R s m args below meth c Q nL D cl q dA K σ pc lv st := by
  subst hst; subst hp
  intro H locs ls hP hS hl
  refine va_callv (va_runSN (As := As) (rest := rest) X.1 hM cw (sf_preS X hP hS As) rfl hn hl.1 rfl (lv_room hW) hdg ⟨Nat.zero_le _, Nat.zero_le _⟩) hS (fun _ _ h => h) (fun _ h => h) (fun u t H1 locs1 ht hvm hpo hB hz hk1 hS1 => ?_)
  subst hpo
  exact kk H1 locs1 ls (by rw [← ht]; exact hB.1) hS1 hl
theorem sf_copy (X : sf_Cx p s m args meth c cc nL own ret Ts D cl q dA K E) {index k0 k1 t n0 n1 : Nat} {ty : FieldType} {sp dp n : Int32} (hlink : (Cond.methodLink own index arraycopyName).before args s = true) (hnat : (Cond.native arraycopyName).before args s = true) (hstat : (Cond.static arraycopyName).before args s = true) (hini : (Cond.initialized "java/lang/System").before args s = true) (hk0 : K[k0]? = some (t, n0, [])) (hk1 : K[k1]? = some (t, n1, [])) (ht : t < 3) (hty : (sf_tys dA)[t]? = some (dA t, ty)) (hprim : refKind ty = false) (h1 : ¬ sp < 0) (h2 : ¬ dp < 0) (h3 : ¬ n < 0) (h4 : sf_ix sp + sf_ix n ≤ n0) (h5 : sf_ix dp + sf_ix n ≤ n1) (hfit : ∀ i, i < sf_ix n → fits ty (.int (σ k0 (sf_ix sp + i))) = true) (hfr : 1 ≤ R.frames) (hlo : (st.map fun v => v.category).sum + (nativeFrameWords "java/lang/System" "arraycopy" 5 + 11) ≤ R.locals) (hdg : decode cc pc = .ok (.invokestatic index, 3)) (hp : pc + 3 = pc') (kk : ∀ τ : sf_St, τ = sf_upc σ k1 (va_cpy (σ k0) (σ k1) (sf_ix sp) (sf_ix dp) (sf_ix n)) → sf_G p l e R s m args below meth c Q nL D cl q dA K τ pc' lv st) : sf_G p l e R s m args below meth c Q nL D cl q dA K σ pc lv (.int n :: .int dp :: .ref (q k1) :: .int sp :: .ref (q k0) :: st) := by
  subst hp
  intro H locs ls hP hS hl
  have a0 := sf_w_at (q := q) (dA := dA) (σ := σ) hk0
  have a1 := sf_w_at (q := q) (dA := dA) (σ := σ) hk1
  rw [sf_ce_a ht] at a0 a1
  refine va_copyi X.1.1 X.1.2.1 (X.1.2.2.1.trans hl.1.symm) X.1.2.2.2.1 hlink hnat hstat hini X.2.1 hP (sf_w_D X.2.2.1) hS k0 k1 t t a0 a1 hty hty hprim h1 h2 h3 h4 h5 hfit hfr hlo hdg (fun H1 locs1 hP1 hD1 hS1 => ?_)
  have hs := sf_w_set (q := q) (dA := dA) (σ := σ) (va_cpy (σ k0) (σ k1) (sf_ix sp) (sf_ix dp) (sf_ix n)) hk1
  rw [sf_ce_a ht] at hs
  exact kk _ rfl H1 locs1 ls (by rw [← hs]; exact hP1) hS1 hl
theorem sf_mmax (X : sf_Cx p s m args meth c cc nL own ret Ts D cl q dA K E) {index : Nat} {x y : Int32} (hlink : (Cond.methodLink own index Lib.Math.max.name).before args s = true) (hstat : (Cond.static Lib.Math.max.name).before args s = true) (hini : (Cond.initialized "java/lang/Math").before args s = true) (hcode : (Cond.code Lib.Math.max.name Lib.Math.max.code 2 (some .int)).before args s = true) (hfr : 1 ≤ R.frames) (hlo : (st.map fun v => v.category).sum + 13 ≤ R.locals) (hdg : decode cc pc = .ok (.invokestatic index, 3)) (hp : pc + 3 = pc') (kk : sf_G p l e R s m args below meth c Q nL D cl q dA K σ pc' lv (.int (if x < y then y else x) :: st)) : sf_G p l e R s m args below meth c Q nL D cl q dA K σ pc lv (.int y :: .int x :: st) := by
  subst hp
  exact fun H locs ls hP hS hl => va_mmax X.1.1 X.1.2.1 (X.1.2.2.1.trans hl.1.symm) X.1.2.2.2.1 hlink hstat hini hcode hfr hlo (Nat.zero_le _) (Nat.zero_le _) hdg (kk H locs ls hP hS hl)
theorem sf_mmin (X : sf_Cx p s m args meth c cc nL own ret Ts D cl q dA K E) {index : Nat} {x y : Int32} (hlink : (Cond.methodLink own index Lib.Math.min.name).before args s = true) (hstat : (Cond.static Lib.Math.min.name).before args s = true) (hini : (Cond.initialized "java/lang/Math").before args s = true) (hcode : (Cond.code Lib.Math.min.name Lib.Math.min.code 2 (some .int)).before args s = true) (hfr : 1 ≤ R.frames) (hlo : (st.map fun v => v.category).sum + 13 ≤ R.locals) (hdg : decode cc pc = .ok (.invokestatic index, 3)) (hp : pc + 3 = pc') (kk : sf_G p l e R s m args below meth c Q nL D cl q dA K σ pc' lv (.int (if y < x then y else x) :: st)) : sf_G p l e R s m args below meth c Q nL D cl q dA K σ pc lv (.int y :: .int x :: st) := by
  subst hp
  exact fun H locs ls hP hS hl => va_mmin X.1.1 X.1.2.1 (X.1.2.2.1.trans hl.1.symm) X.1.2.2.2.1 hlink hstat hini hcode hfr hlo (Nat.zero_le _) (Nat.zero_le _) hdg (kk H locs ls hP hS hl)
theorem sf_gets (X : sf_Cx p s m args meth c cc nL own ret Ts D cl q dA K E) {C n d ref : String} {v : Value} {index : Nat} (hZ : va_Z C n d v (sf_A q K) s s.heap) (hlink : (Cond.fieldLink own index ref n d).before args s = true) (hsame : ∀ x, s.fieldFound? C n d = some x → s.fieldFound? ref n d = some x) (hdg : decode cc pc = .ok (.getstatic index, 3)) (hp : pc + 3 = pc') (kk : sf_G p l e R s m args below meth c Q nL D cl q dA K σ pc' lv (v :: st)) : sf_G p l e R s m args below meth c Q nL D cl q dA K σ pc lv st := by
  subst hp
  exact fun H locs ls hP hS hl => va_gets X.1.1 X.1.2.1 hZ hS X.1.2.2.2.1 hlink hsame hdg (kk H locs ls hP hS hl)
theorem sf_getsN (X : sf_Cx p s m args meth c cc nL own ret Ts D cl q dA K E) {host : String} {C n d ref : String} {v : Value} {index : Nat} (hZ : va_Z C n d v (sf_A q K) s s.heap) (hlink : (Cond.fieldLinkNest own index ref n d host).before args s = true) (hsame : ∀ x, s.fieldFound? C n d = some x → s.fieldFound? ref n d = some x) (hdg : decode cc pc = .ok (.getstatic index, 3)) (hp : pc + 3 = pc') (kk : sf_G p l e R s m args below meth c Q nL D cl q dA K σ pc' lv (v :: st)) : sf_G p l e R s m args below meth c Q nL D cl q dA K σ pc lv st := by
  subst hp
  exact fun H locs ls hP hS hl => va_getsN X.1.1 X.1.2.1 hZ hS X.1.2.2.2.1 hlink hsame hdg (kk H locs ls hP hS hl)
theorem sf_ti (X : sf_Cx p s m args meth c cc nL own ret Ts D cl q dA K E) {t N : Nat} {f : Nat → Value} {i v : Int32} (hT : va_T .int t N f (sf_A q K) s s.heap) (hin : vp_in i N) (hv : f (sf_ix i) = .int v) (hdg : decode cc pc = .ok (.iaload, 1)) (hp : pc + 1 = pc') (kk : sf_G p l e R s m args below meth c Q nL D cl q dA K σ pc' lv (.int v :: st)) : sf_G p l e R s m args below meth c Q nL D cl q dA K σ pc lv (.int i :: .ref t :: st) := by
  subst hp
  exact fun H locs ls hP hS hl => va_ti X.1.1 X.1.2.1 hT hS hin hv hdg (kk H locs ls hP hS hl)
theorem sf_tlen (X : sf_Cx p s m args meth c cc nL own ret Ts D cl q dA K E) {t N : Nat} {f : Nat → Value} {v : Int32} {ty : FieldType} (hT : va_T ty t N f (sf_A q K) s s.heap) (hv : Int32.ofNat N = v) (hdg : decode cc pc = .ok (.arraylength, 1)) (hp : pc + 1 = pc') (kk : sf_G p l e R s m args below meth c Q nL D cl q dA K σ pc' lv (.int v :: st)) : sf_G p l e R s m args below meth c Q nL D cl q dA K σ pc lv (.ref t :: st) := by
  subst hp
  exact fun H locs ls hP hS hl => va_tlen X.1.1 X.1.2.1 hT hS hv hdg (kk H locs ls hP hS hl)
end SFROWS
theorem sf_meti {l : Launch} {y : MethodName} {ws ws' : List Cond} {rm : Room} {cc : ByteArray} {maxL : Nat} {ret : Option FieldType} {D : va_G} {cl : List vw_C} {q : Nat → Nat} {dA : Nat → ClassId} {K : List sf_Kd} {E : State → Prop} {av : List Value} {σ : sf_St} {r : Int32} {τ : sf_St} {own : String} (hy : plainName y.cls = true) (ho : y.cls = own) (hw : ws = Cond.code y cc maxL ret :: ws') (hq : sf_inj q K) (hEk : sf_Ek q K E) (hav : (lg_sl av).length ≤ maxL)
    (body : ∀ (p : Program) (e : Env) (s : State) (m : MethodId) (args : Array Value) (below : List Frame) (meth : Method) (c : Code), sf_Cx p s m args meth c cc maxL own ret ws D cl q dA K E → sf_G p l e (headSpec ws rm).room s m args below meth c (sf_Qi D cl q dA K E below args s r τ) maxL D cl q dA K σ 0 (lv_args 0 av) []) : sf_Mi l y ws rm D cl q dA K E av σ r τ := by
  subst ho
  refine Met.ofW (cc := cc) (maxL := maxL) (ret := ret) hy hw ?_
  intro p e s m args below meth c s₁ B hml hv
  obtain ⟨rfl, hP, hK, hE⟩ := hv
  have hl := lv_entry av hav
  rw [lg_entry_eq]
  exact body p e s m _ below meth c ⟨⟨B.exec, B.bytes, hml, findClass_of_methodNamed B.named, atoms_spec (ws := ws) B.pre⟩, hK, hq, hE, hEk, B.returns, B.notSynchronized⟩ s.heap [] _ hP va_S.rf hl
theorem sf_metv {l : Launch} {y : MethodName} {ws ws' : List Cond} {rm : Room} {cc : ByteArray} {maxL : Nat} {ret : Option FieldType} {D : va_G} {cl : List vw_C} {q : Nat → Nat} {dA : Nat → ClassId} {K : List sf_Kd} {E : State → Prop} {av : List Value} {σ : sf_St} {τ : sf_St} {own : String} (hy : plainName y.cls = true) (ho : y.cls = own) (hw : ws = Cond.code y cc maxL ret :: ws') (hq : sf_inj q K) (hEk : sf_Ek q K E) (hav : (lg_sl av).length ≤ maxL)
    (body : ∀ (p : Program) (e : Env) (s : State) (m : MethodId) (args : Array Value) (below : List Frame) (meth : Method) (c : Code), sf_Cx p s m args meth c cc maxL own ret ws D cl q dA K E → sf_G p l e (headSpec ws rm).room s m args below meth c (sf_Qv D cl q dA K E below args s τ) maxL D cl q dA K σ 0 (lv_args 0 av) []) : sf_Mv l y ws rm D cl q dA K E av σ τ := by
  subst ho
  refine Met.ofW (cc := cc) (maxL := maxL) (ret := ret) hy hw ?_
  intro p e s m args below meth c s₁ B hml hv
  obtain ⟨rfl, hP, hK, hE⟩ := hv
  have hl := lv_entry av hav
  rw [lg_entry_eq]
  exact body p e s m _ below meth c ⟨⟨B.exec, B.bytes, hml, findClass_of_methodNamed B.named, atoms_spec (ws := ws) B.pre⟩, hK, hq, hE, hEk, B.returns, B.notSynchronized⟩ s.heap [] _ hP va_S.rf hl
theorem sf_ic_m1 : Int32.ofInt (-1) = (-1) := by decide
theorem sf_ic_0 : Int32.ofInt 0 = 0 := by decide
theorem sf_ic_1 : Int32.ofInt 1 = 1 := by decide
theorem sf_ic_2 : Int32.ofInt 2 = 2 := by decide
theorem sf_ic_3 : Int32.ofInt 3 = 3 := by decide
theorem sf_ic_4 : Int32.ofInt 4 = 4 := by decide
theorem sf_ic_5 : Int32.ofInt 5 = 5 := by decide
theorem sf_bc_6 : (Int8.ofInt 6).toInt32 = 6 := by decide
theorem sf_bc_7 : (Int8.ofInt 7).toInt32 = 7 := by decide
theorem sf_bc_8 : (Int8.ofInt 8).toInt32 = 8 := by decide
theorem sf_bc_9 : (Int8.ofInt 9).toInt32 = 9 := by decide
theorem sf_bc_10 : (Int8.ofInt 10).toInt32 = 10 := by decide
theorem sf_bc_11 : (Int8.ofInt 11).toInt32 = 11 := by decide
theorem sf_bc_12 : (Int8.ofInt 12).toInt32 = 12 := by decide
theorem sf_bc_13 : (Int8.ofInt 13).toInt32 = 13 := by decide
theorem sf_bc_14 : (Int8.ofInt 14).toInt32 = 14 := by decide
theorem sf_bc_15 : (Int8.ofInt 15).toInt32 = 15 := by decide
theorem sf_bc_16 : (Int8.ofInt 16).toInt32 = 16 := by decide
theorem sf_bc_m1 : (Int8.ofInt (-1)).toInt32 = (-1) := by decide
theorem sf_bc_m2 : (Int8.ofInt (-2)).toInt32 = (-2) := by decide
theorem sf_bc_m3 : (Int8.ofInt (-3)).toInt32 = (-3) := by decide
theorem sf_bc_31 : (Int8.ofInt 31).toInt32 = 31 := by decide
theorem sf_bc_35 : (Int8.ofInt 35).toInt32 = 35 := by decide
theorem sf_bc_40 : (Int8.ofInt 40).toInt32 = 40 := by decide
theorem sf_bc_41 : (Int8.ofInt 41).toInt32 = 41 := by decide
theorem sf_bc_48 : (Int8.ofInt 48).toInt32 = 48 := by decide
theorem sf_bc_59 : (Int8.ofInt 59).toInt32 = 59 := by decide
theorem sf_bc_61 : (Int8.ofInt 61).toInt32 = 61 := by decide
theorem sf_bc_64 : (Int8.ofInt 64).toInt32 = 64 := by decide
theorem sf_bc_67 : (Int8.ofInt 67).toInt32 = 67 := by decide
theorem sf_bc_70 : (Int8.ofInt 70).toInt32 = 70 := by decide
theorem sf_bc_78 : (Int8.ofInt 78).toInt32 = 78 := by decide
theorem sf_bc_79 : (Int8.ofInt 79).toInt32 = 79 := by decide
theorem sf_bc_83 : (Int8.ofInt 83).toInt32 = 83 := by decide
theorem sf_bc_99 : (Int8.ofInt 99).toInt32 = 99 := by decide
theorem sf_bc_108 : (Int8.ofInt 108).toInt32 = 108 := by decide
theorem sf_bc_116 : (Int8.ofInt 116).toInt32 = 116 := by decide
theorem sf_bc_127 : (Int8.ofInt 127).toInt32 = 127 := by decide
theorem sf_sc_1000 : (Int16.ofInt 1000).toInt32 = 1000 := by decide
theorem sf_sc_m1000 : (Int16.ofInt (-1000)).toInt32 = (-1000) := by decide
theorem sf_sc_128 : (Int16.ofInt 128).toInt32 = 128 := by decide
theorem sf_sc_255 : (Int16.ofInt 255).toInt32 = 255 := by decide
theorem sf_sc_5040 : (Int16.ofInt 5040).toInt32 = 5040 := by decide
theorem sf_inD {i : Int32} {n : Nat} (h : decide (¬ (i < 0 ∨ n ≤ i.toNatClampNeg)) = true) : vp_in i n := show ¬ (i < 0 ∨ n ≤ i.toNatClampNeg) from of_decide_eq_true h
