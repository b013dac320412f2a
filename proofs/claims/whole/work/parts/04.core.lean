/-! ===== the picture: cells by their numbers, what they hold as whole numbers ===== -/
/-- a value: 0 an int, 1 a long, 2 a reference to a made cell (below 0: null), 3 the script, 4 the text constant, 5 its bytes, 6 what forms a message, 9 anything -/
abbrev TV : Type := Nat × Int
abbrev Mem : Type := Nat → Nat → Int
/-- a kind and a size for each cell: a class's number, 20 int[], 21 long[], 22 byte[], 23 boolean[], 30 and on: arrays of references -/
abbrev Shp : Type := List (Nat × Nat)
def upm (σ : Mem) (a j : Nat) (v : Int) : Mem := fun b i => if b = a ∧ i = j then v else σ b i
def ftag (k j : Nat) : Nat := (ftX.getD k []).getD j 0
/-- the tag of a place of a cell of a kind -/
def ktag (k j : Nat) : Nat := if k < 20 then ftag k j else if k = 21 then 1 else if k < 30 then 0 else 2
/-- where the start's own cells are: the script, the text, its bytes, what forms a message -/
abbrev Ats : Type := Nat × Nat × Nat × Option Nat
def cv (ad : Nat → Nat) (z : Ats) (v : TV) : Value := match v.1 with
  | 0 => .int (Int32.ofInt v.2)
  | 1 => .long (Int64.ofInt v.2)
  | 2 => if v.2 < 0 then .null else .ref (ad v.2.toNat)
  | 3 => .ref z.1
  | 4 => .ref z.2.1
  | 5 => .ref z.2.2.1
  | _ => va_rf z.2.2.2
def ent (ad : Nat → Nat) (z : Ats) (cA : Nat → ClassId) (σ : Mem) (a : Nat) (kn : Nat × Nat) : va_E :=
  if kn.1 < 20 then .inr (kn.1, (List.range kn.2).map fun j => cv ad z (ftag kn.1 j, σ a j))
  else if kn.1 = 21 then .inl (cA kn.1, kn.2, .inr (.inl fun j => Int64.ofInt (σ a j)))
  else if kn.1 < 30 then .inl (cA kn.1, kn.2, .inl fun j => Int32.ofInt (σ a j))
  else .inl (cA kn.1, kn.2, .inr (.inr (.inr (.inr fun j => if σ a j < 0 then none else some (ad (σ a j).toNat)))))
def wsO (ad : Nat → Nat) (z : Ats) (cA : Nat → ClassId) (σ : Mem) (sh : Shp) : va_W := sh.mapIdx fun a kn => (ad a, ent ad z cA σ a kn)
def tot (sh : Shp) : Nat := (sh.map Prod.snd).sum
/-- a value that can be -/
def wfv (n : Nat) (v : TV) : Prop := (v.1 = 0 → R32 v.2) ∧ (v.1 = 1 → R64 v.2) ∧ (v.1 = 2 → v.2 < n)
def wfl (n : Nat) (l : List TV) : Prop := ∀ v ∈ l, wfv n v
def wfm (sh : Shp) (σ : Mem) : Prop := ∀ a k n, sh[a]? = some (k, n) → ∀ j, wfv sh.length (ktag k j, σ a j) ∧ (k = 22 → -128 ≤ σ a j ∧ σ a j ≤ 127) ∧ (k = 23 → σ a j = 0 ∨ σ a j = 1)
theorem wfl_nil {n : Nat} : wfl n [] := fun _ h => (by cases h)
theorem wfl_cons {n : Nat} {v : TV} {l : List TV} : wfl n (v :: l) ↔ wfv n v ∧ wfl n l := List.forall_mem_cons
theorem wfv_i {n : Nat} {x : Int} (h : R32 x) : wfv n (0, x) := ⟨fun _ => h, fun e => (by cases e), fun e => (by cases e)⟩
theorem wfv_l {n : Nat} {x : Int} (h : R64 x) : wfv n (1, x) := ⟨fun e => (by cases e), fun _ => h, fun e => (by cases e)⟩
theorem wfv_a {n : Nat} {x : Int} (h : x < n) : wfv n (2, x) := ⟨fun e => (by cases e), fun e => (by cases e), fun _ => h⟩
theorem wfv_s {n k : Nat} {x : Int} (h : 3 ≤ k) : wfv n (k, x) := ⟨fun e => (by dsimp only at e; omega), fun e => (by dsimp only at e; omega), fun e => (by dsimp only at e; omega)⟩
theorem wfv.i {n : Nat} {x : Int} (h : wfv n (0, x)) : R32 x := h.1 rfl
theorem wfv.l {n : Nat} {x : Int} (h : wfv n (1, x)) : R64 x := h.2.1 rfl
theorem wfv.a {n : Nat} {x : Int} (h : wfv n (2, x)) : x < n := h.2.2 rfl
/-- the locals: of each place what is known -/
def LH (ad : Nat → Nat) (z : Ats) (lsA : Array Slot) (nL : Nat) (ls : List TV) : Prop :=
  ls.length = nL ∧ lsA.size = nL ∧ lv_wf lsA ∧ ∀ (i : Nat) (v : TV), ls[i]? = some v → v.1 ≠ 9 → lsA[i]? = some (.val (cv ad z v))
/-! ===== the tables' words ===== -/
def isNest : Cond → Bool
  | .fieldLinkNest .. => true
  | .methodLinkNest .. => true
  | .arrayOver (.object _) => true
  | _ => false
theorem nest_cases {w : Cond} (h : isNest w = true) : (∃ a i r n d q, w = .fieldLinkNest a i r n d q) ∨ (∃ a i x q, w = .methodLinkNest a i x q) ∨ ∃ C, w = .arrayOver (.object C) := by
  unfold isNest at h
  split at h
  · exact Or.inl ⟨_, _, _, _, _, _, rfl⟩
  · exact Or.inr (Or.inl ⟨_, _, _, _, rfl⟩)
  · exact Or.inr (Or.inr ⟨_, rfl⟩)
  · cases h
def TB (U : State) : Prop := ∀ w ∈ lw_tbl, (goodWord w || isNest w) = true → ∀ a : Array Value, w.before a U = true
theorem TB.of {s : State} {args : Array Value} (h : ∀ w ∈ lw_tbl, w.before args s = true) : TB s := by
  intro w hw hg a
  rcases Bool.or_eq_true _ _ |>.mp hg with h1 | h1
  · exact word_at (U := s) (s := s) (State.WarmedH.refl s) (good_of_word h1) (h w hw)
  · rcases nest_cases h1 with ⟨_, _, _, _, _, _, rfl⟩ | ⟨_, _, _, _, rfl⟩ | ⟨C, rfl⟩
    · exact va_Nw.use rfl (va_Nw.of rfl (h _ hw))
    · exact va_Nw.use rfl (va_Nw.of rfl (h _ hw))
    · exact va_AO.use (va_AO.of (h _ hw))
theorem TB.warm {s U : State} (hW : s.WarmedH U.vm) (h : TB s) : TB U := by
  intro w hw hg a
  have h0 := h w hw hg #[]
  rcases Bool.or_eq_true _ _ |>.mp hg with h1 | h1
  · exact word_at hW (good_of_word h1) h0
  · rcases nest_cases h1 with ⟨_, _, _, _, _, _, rfl⟩ | ⟨_, _, _, _, rfl⟩ | ⟨C, rfl⟩
    · exact va_Nw.use rfl (va_Nw.warmF hW h0)
    · exact va_Nw.use rfl (va_Nw.warmM hW h0)
    · exact va_AO.use (va_AO.moved hW.alike (va_AO.of h0))
/-! ===== what stands at the start: the script, the text constant ===== -/
def txS : String := "odds stone lenient moss strong gap crow on for against year try kind harsh clear fly any when turns stands loop end stop"
def txB : List Int32 := [111, 100, 100, 115, 32, 115, 116, 111, 110, 101, 32, 108, 101, 110, 105, 101, 110, 116, 32, 109, 111, 115, 115, 32, 115, 116, 114, 111, 110, 103, 32, 103, 97, 112, 32, 99, 114, 111, 119, 32, 111, 110, 32, 102, 111, 114, 32, 97, 103, 97, 105, 110, 115, 116, 32, 121, 101, 97, 114, 32, 116, 114, 121, 32, 107, 105, 110, 100, 32, 104, 97, 114, 115, 104, 32, 99, 108, 101, 97, 114, 32, 102, 108, 121, 32, 97, 110, 121, 32, 119, 104, 101, 110, 32, 116, 117, 114, 110, 115, 32, 115, 116, 97, 110, 100, 115, 32, 108, 111, 111, 112, 32, 101, 110, 100, 32, 115, 116, 111, 112]
def EV (sc : Nat × (Nat → Int32)) (z : Ats) (A : Nat → Prop) (U : State) : Prop :=
  (va_X z.1 sc.1 sc.2 U U.heap ∧ z.1 < U.heap.size ∧ ¬ A z.1) ∧ vk_R "ParapetCourt$Text" 26 txS z.2.1 U ∧ vk_S 1 [120] [txB] (fun _ => z.2.1) (fun _ => z.2.2.1) A U U.heap ∧ va_Z "java/lang/String" "COMPACT_STRINGS" "Z" (.int 1) A U U.heap ∧ va_Z "jdk/internal/util/Preconditions" "SIOOBE_FORMATTER" "Ljava/util/function/BiFunction;" (va_rf z.2.2.2) A U U.heap
theorem va_Z.go {C n d : String} {v : Value} {A : Nat → Prop} {s U : State} {locs : List Loc} (hW : s.WarmedH U.vm) (hS : va_S A s.heap U.heap locs) (h : va_Z C n d v A s s.heap) : va_Z C n d v A U U.heap := (h.moved hW.alike).kept (fun q h1 h2 => hS.2.1 q h1 h2)
theorem EV.go {sc : Nat × (Nat → Int32)} {z : Ats} {A : Nat → Prop} {s U : State} {locs : List Loc} (hW : s.WarmedH U.vm) (hS : va_S A s.heap U.heap locs) (h : EV sc z A s) : EV sc z A U := by
  obtain ⟨⟨h1, h2, h3⟩, h4, h5, h6, h7⟩ := h
  exact ⟨⟨(h1.moved hW.alike).kept (hS.2.1 _ h2 h3), Nat.lt_of_lt_of_le h2 hS.1, h3⟩, h4.warm hW, (h5.moved hW.alike).kept (fun q a1 a2 => hS.2.1 q a1 a2), h6.go hW hS, h7.go hW hS⟩
/-! ===== the judgement ===== -/
abbrev FinT : Type := Array Value → State → List Frame → va_G → (Nat → ClassId) → (Nat → Prop) → Ats → (Nat → Nat) → State → Prop
def tyX (cA : Nat → ClassId) : List (ClassId × FieldType) := [(cA 20, .int), (cA 21, .long), (cA 22, .byte), (cA 23, .boolean), (cA 35, .object RX5), (cA 38, .object RX8), (cA 39, .object RX9)]
def LW : Nat := 60
def Ctx (mt : Mth) (d : Nat) (sh0 shF : Shp) (sc : Nat × (Nat → Int32)) (p : Program) (R : Room) (s : State) (m : MethodId) (meth : Method) (c : Code) (D : va_G) (cA : Nat → ClassId) (A : Nat → Prop) (z : Ats) : Prop :=
  p.tables.exec = Jvm.exec ∧ c.code = mt.2.1 ∧ c.maxLocals = mt.2.2.1 ∧ s.vm.findClass mt.1.cls = some m.cls ∧ meth.name = mt.1.name ∧ meth.sig.returnType = mt.2.2.2 ∧ meth.locks = false ∧ TB s ∧ va_K D clX (tyX cA) s ∧ EV sc z A s ∧ (∀ q, s.heap.size ≤ q → A q) ∧ (d ≤ R.frames ∧ d * LW ≤ R.locals ∧ shF.length - sh0.length ≤ R.cells ∧ tot shF - tot sh0 ≤ R.slots)
/-- from here the machine comes to its end F: every start that the picture pictures -/
def E (sc : Nat × (Nat → Int32)) (F : FinT) (mt : Mth) (d : Nat) (sh0 shF : Shp) (pc : Nat) (ls st : List TV) (sh : Shp) (σ : Mem) : Prop :=
  wfl sh.length ls → wfl sh.length st → wfm sh σ → sh0.length ≤ sh.length → tot sh0 ≤ tot sh →
  ∀ (p : Program) (l : Launch) (e : Env) (R : Room) (s : State) (m : MethodId) (args : Array Value) (below : List Frame) (meth : Method) (c : Code) (D : va_G) (cA : Nat → ClassId) (A : Nat → Prop) (z : Ats) (ad0 : Nat → Nat),
  Ctx mt d sh0 shF sc p R s m meth c D cA A z →
  ∀ (lsA : Array Slot) (H : Heap) (locs : List Loc) (ad : Nat → Nat), (∀ a, a < sh0.length → ad a = ad0 a) → LH ad z lsA mt.2.2.1 ls → va_P D clX (wsO ad z cA σ sh) H → va_D A (wsO ad z cA σ sh) → va_S A s.heap H locs →
  W p l e R s m args below meth c H locs (sh.length - sh0.length) (tot sh - tot sh0) (F args s below D cA A z ad0) (F0 m pc lsA (st.map (cv ad z)))
