/-! the world as a pure memory: a number for each place of each cell -/
def gtb : List Cond := lw_tbl.filter goodWord
theorem gm {w : Cond} (h : w ∈ lw_tbl) (hg : goodWord w = true) : w ∈ gtb := List.mem_filter.mpr ⟨h, hg⟩
theorem gtb_lw {w : Cond} (h : w ∈ gtb) : w ∈ lw_tbl := (List.mem_filter.mp h).1
abbrev AV : Type := Nat × Int
abbrev Mem : Type := Int → Int → Int
abbrev WX : Type := va_G × (ClassId × ClassId × ClassId) × (Int → Nat)
def mset (mem : Mem) (c i v : Int) : Mem := fun c' i' => if c' = c ∧ i' = i then v else mem c' i'
def ok (v : AV) : Prop := match v.1 with
  | 0 => r32 v.2
  | 1 => r64 v.2
  | _ => True
def cv (ad : Int → Nat) (v : AV) : Value := match v.1 with
  | 0 => .int (Int32.ofInt v.2)
  | 1 => .long (Int64.ofInt v.2)
  | _ => .ref (ad v.2)
def cvl (ad : Int → Nat) (q : Nat × AV) : Nat × Value := (q.1, cv ad q.2)
def fldV (ad : Int → Nat) (row : Int → Int) (j : Nat) (f : Nat × Int) : Value := match f.1 with
  | 0 => .int (Int32.ofInt (row j))
  | 1 => .long (Int64.ofInt (row j))
  | _ => .ref (ad f.2)
def cellR (x : WX) (k : Nat) (row : Int → Int) (S : Shp) : Nat × va_E := (x.2.2 k, match S.1 with
  | 0 => .inl (x.2.1.1, S.2.1, .inl (fun j => Int32.ofInt (row j)))
  | 1 => .inl (x.2.1.2.1, S.2.1, .inr (.inl (fun j => Int64.ofInt (row j))))
  | 2 => .inl (x.2.1.2.2, S.2.1, .inl (fun j => Int32.ofInt (row j)))
  | _ => .inr (S.2.1, S.2.2.mapIdx (fldV x.2.2 row)))
def wl (x : WX) (mem : Mem) : va_W := shps.mapIdx (fun k S => cellR x k (mem k) S)
def wtys (x : WX) : List (ClassId × FieldType) := [(x.2.1.1, .int), (x.2.1.2.1, .long), (x.2.1.2.2, .byte)]
def CM (mem : Mem) : Prop := ∀ (k : Nat) (S : Shp), shps[k]? = some S → match S.1 with
  | 0 => ∀ j : Int, r32 (mem k j)
  | 1 => ∀ j : Int, r64 (mem k j)
  | 2 => ∀ j : Int, r8 (mem k j)
  | _ => ∀ (j : Nat) (f : Nat × Int), S.2.2[j]? = some f → (f.1 = 0 → r32 (mem k j)) ∧ (f.1 = 1 → r64 (mem k j))
def alen (c : Int) : Int := match shps[c.toNat]? with
  | some (0, n, _) => if 0 ≤ c then (n : Int) else 0
  | _ => 0
def jlen (c : Int) : Int := match shps[c.toNat]? with
  | some (1, n, _) => if 0 ≤ c then (n : Int) else 0
  | _ => 0
def blen (c : Int) : Int := match shps[c.toNat]? with
  | some (2, n, _) => if 0 ≤ c then (n : Int) else 0
  | _ => 0
theorem mset_same (mem : Mem) (c i v : Int) : mset mem c i v c i = v := by unfold mset; rw [if_pos ⟨rfl, rfl⟩]
theorem mset_c {mem : Mem} {c i v c' : Int} (h : c' ≠ c) : mset mem c i v c' = mem c' := by
  funext j; unfold mset; rw [if_neg (fun q => h q.1)]
theorem mset_i {mem : Mem} {c i v i' : Int} (h : i' ≠ i) : mset mem c i v c i' = mem c i' := by unfold mset; rw [if_neg (fun q => h q.2)]
theorem wl_get (x : WX) (mem : Mem) {k : Nat} {S : Shp} (h : shps[k]? = some S) : (wl x mem)[k]? = some (cellR x k (mem k) S) := by
  unfold wl; rw [List.getElem?_mapIdx, h]; rfl
theorem wl_of {x : WX} {mem : Mem} {k : Nat} {q : Nat × va_E} (h : (wl x mem)[k]? = some q) : ∃ S, shps[k]? = some S ∧ q = cellR x k (mem k) S := by
  unfold wl at h; rw [List.getElem?_mapIdx] at h
  cases hs : shps[k]? with
  | none => rw [hs] at h; cases h
  | some S => rw [hs] at h; exact ⟨S, rfl, (Option.some.inj h).symm⟩
theorem wl_set {x : WX} {mem : Mem} {k : Nat} {S : Shp} {i v : Int} {e : Nat × va_E} (h : shps[k]? = some S) (he : cellR x k (mset mem k i v k) S = e) : (wl x mem).set k e = wl x (mset mem k i v) := by
  apply List.ext_getElem?
  intro a
  rw [List.getElem?_set]
  by_cases ha : k = a
  · subst ha
    rw [if_pos rfl, wl_get x (mset mem k i v) h, he]
    have := (List.getElem?_eq_some_iff.mp (wl_get x mem h)).1
    rw [if_pos this]
  · rw [if_neg ha]
    unfold wl
    rw [List.getElem?_mapIdx, List.getElem?_mapIdx]
    have : mset mem k i v (a : Int) = mem (a : Int) := mset_c (fun q => ha (by omega))
    rw [this]
def Xinj (x : WX) : Prop := ∀ i j : Nat, i < shps.length → j < shps.length → x.2.2 i = x.2.2 j → i = j
def Xok (x : WX) (s : State) : Prop := va_K x.1 vwCl (wtys x) s ∧ Xinj x
theorem Xok.moved {x : WX} {u U : State} (hvm : u.vm.Alike U.vm) (h : Xok x u) : Xok x U := ⟨h.1.moved hvm, h.2⟩
def AA (x : WX) (sz : Nat) : Nat → Prop := fun q => (∃ k : Nat, k < shps.length ∧ q = x.2.2 k) ∨ sz ≤ q
def AW (x : WX) (A : Nat → Prop) : Prop := ∀ k : Nat, k < shps.length → A (x.2.2 k)
theorem wl_D {x : WX} {A : Nat → Prop} (h : Xinj x) (hA : AW x A) (mem : Mem) : va_D A (wl x mem) := by
  refine ⟨fun i j p q hp hq e => ?_, fun k q hq => ?_⟩
  · obtain ⟨S, hS, rfl⟩ := wl_of hp
    obtain ⟨S', hS', rfl⟩ := wl_of hq
    exact h i j (List.getElem?_eq_some_iff.mp hS).1 (List.getElem?_eq_some_iff.mp hS').1 e
  · obtain ⟨S, hS, rfl⟩ := wl_of hq
    exact hA k (List.getElem?_eq_some_iff.mp hS).1
/-! a frame of the machine, told purely -/
def Gd (p : Program) (l : Launch) (e : Env) (R : Room) (s : State) (m : MethodId) (args : Array Value) (below : List Frame) (meth : Method) (c : Code) (Q : State → Prop) (nL : Nat) (x : WX) (A : Nat → Prop) (H0 : Heap) (kc ks : Nat) : Nat → List (Nat × AV) → List AV → Mem → Prop :=
  fun pc lv st mem => (∀ q ∈ lv, ok q.2) → (∀ v ∈ st, ok v) → CM mem → ∀ (H : Heap) (locs : List Loc) (ls : Array Slot), lv_has ls nL (lv.map (cvl x.2.2)) → va_P x.1 vwCl (wl x mem) H → va_S A H0 H locs →
    W p l e R s m args below meth c H locs kc ks Q (F0 m pc ls (st.map (cv x.2.2)))
abbrev GT : Type := Nat → List (Nat × AV) → List AV → Mem → Prop
def Ax (l : Launch) (x : WX) (cc : ByteArray) (own : String) (nL : Nat) (R : Room) (G : GT) : Prop :=
  ∃ (p : Program) (e : Env) (s : State) (m : MethodId) (args : Array Value) (below : List Frame) (meth : Method) (c : Code) (Q : State → Prop) (A : Nat → Prop) (H0 : Heap) (kc ks : Nat),
    G = Gd p l e R s m args below meth c Q nL x A H0 kc ks ∧ p.tables.exec = Jvm.exec ∧ c.code = cc ∧ c.maxLocals = nL ∧ s.vm.findClass own = some m.cls ∧ (∀ w ∈ gtb, w.before args s = true) ∧ Xok x s ∧ AW x A ∧ (∀ q : Nat, H0.size ≤ q → A q) ∧ kc ≤ R.cells ∧ ks ≤ R.slots
def De (cc : ByteArray) (pc : Nat) (i : Instr) (n pc' : Nat) : Prop := decode cc pc = .ok (i, n) ∧ pc + n = pc'
theorem ok_c {v : AV} {st : List AV} (h : ok v) (hs : ∀ w ∈ st, ok w) : ∀ w ∈ v :: st, ok w := fun w hw => (List.mem_cons.mp hw).elim (fun q => q ▸ h) (hs w)
theorem ok_h {v : AV} {st : List AV} (hs : ∀ w ∈ v :: st, ok w) : ok v := hs v List.mem_cons_self
theorem ok_t {v : AV} {st : List AV} (hs : ∀ w ∈ v :: st, ok w) : ∀ w ∈ st, ok w := fun w hw => hs w (List.mem_cons_of_mem _ hw)
