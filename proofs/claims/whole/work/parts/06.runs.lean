/-! what is known of statics and of string constants -/
def saC (i : Nat) : String := [RX7, RX7, RX7, RX3, RX5].getD i ""
def saN (i : Nat) : String := ["ABOVE", "STEPS", "FADING", "BODIES", "NUMBERS"].getD i ""
def saV (i : Nat) : List Int32 := [[-1, 0, 0, 1, 0, 2, 4], [1, 1, 2, 2, 9, 3, 9], [3, 1, 5, 1, 0, 2, 9], [10, 11, 12, 20, 0, 0, 0, 30, 0, 0, 40, 0, 51, 0, 50, 0, 0, 60, 70, 71, 0], [1, 0, 0, 0, 3, 1, 0, 0, 5, 4, 1, 0, 6, 4, 2, 2, 6, 5, 0, 0, 6, 0, 0, 0, 6, 0, 0, 0, 0, 0, 0, 0]].getD i []
def stT (i : Nat) : String := ["person", "garment", "own", "habit", "wear", "off", "wash", "day"].getD (i % 8) ""
def stO (i : Nat) : String := if i < 8 then RX5 else RX8
def stK (i : Nat) : Nat := [88, 90, 92, 94, 96, 98, 100, 102, 165, 173, 180, 181, 188, 178, 182, 190].getD i 0
def stB (i : Nat) : List Int32 := [[112, 101, 114, 115, 111, 110], [103, 97, 114, 109, 101, 110, 116], [111, 119, 110], [104, 97, 98, 105, 116], [119, 101, 97, 114], [111, 102, 102], [119, 97, 115, 104], [100, 97, 121]].getD (i % 8) []
def stBs : List (List Int32) := (List.range 16).map stB
def stLs : List Nat := (List.range 16).map (fun i => (stB i).length)
def nwM : List (String × Nat × MethodName) := [(RX7, 34, yX2_init), (RX7, 41, yX5_init), (RX7, 48, yX1_init), (RX7, 55, yX3_init), (RX7, 68, yX6_init), (RX0, 40, yX4_init), (RX0, 41, yX2_init), (RX0, 49, yX7_isWithin), (RX5, 125, yX7_isWithin), (RX6, 36, yX7_isDigit)]
def nwF : List (String × Nat × String) := [(RX2, 40, "ABOVE"), (RX2, 43, "STEPS"), (RX2, 74, "FADING"), (RX3, 41, "ABOVE")]
def ST (E : Ev) (A : Nat → Prop) (U : State) (H : Heap) : Prop :=
  (∀ i : Nat, i < 5 → va_Z (saC i) (saN i) "[I" (.ref (lo E (1000 + i))) A U H ∧ va_T .int (lo E (1000 + i)) (saV i).length (fun j => .int ((saV i).getD j 0)) A U H) ∧
  va_Z "java/lang/String" "COMPACT_STRINGS" "Z" (.int 1) A U H ∧ (va_Z "jdk/internal/util/Preconditions" "SIOOBE_FORMATTER" "Ljava/util/function/BiFunction;" .null A U H ∨ va_Z "jdk/internal/util/Preconditions" "SIOOBE_FORMATTER" "Ljava/util/function/BiFunction;" (.ref (lo E 1300)) A U H) ∧
  (∀ i : Nat, i < 16 → vk_S 1 [stLs.getD i 0] [stBs.getD i []] (fun _ => lo E (1100 + i)) (fun _ => lo E (1200 + i)) A U H) ∧ (∀ i : Nat, i < 16 → vk_R (stO i) (stK i) (stT i) (lo E (1100 + i)) U) ∧
  (∀ q ∈ nwM, va_Nw (.methodLinkNest q.1 q.2.1 q.2.2 RX7) U) ∧ (∀ q ∈ nwF, va_Nw (.fieldLinkNest q.1 q.2.1 RX7 q.2.2 "[I" RX7) U) ∧ (va_AO RX2 U ∧ va_AO RX4 U ∧ va_AO RX6 U)
theorem ST.kept {E : Ev} {A : Nat → Prop} {U : State} {H H1 : Heap} (h : ST E A U H) (hq : ∀ a : Nat, a < H.size → ¬ A a → H1[a]? = H[a]?) : ST E A U H1 :=
  ⟨fun i hi => ⟨(h.1 i hi).1.kept hq, (h.1 i hi).2.kept hq⟩, h.2.1.kept hq, h.2.2.1.imp (fun q => q.kept hq) (fun q => q.kept hq), fun i hi => (h.2.2.2.1 i hi).kept hq, h.2.2.2.2⟩
theorem ST.narrow {E : Ev} {A B : Nat → Prop} {U : State} {H : Heap} (h : ST E A U H) (hAB : ∀ q, B q → A q) : ST E B U H :=
  ⟨fun i hi => ⟨(h.1 i hi).1.narrow hAB, (h.1 i hi).2.narrow hAB⟩, h.2.1.narrow hAB, h.2.2.1.imp (fun q => q.narrow hAB) (fun q => q.narrow hAB), fun i hi => (h.2.2.2.1 i hi).narrow hAB, h.2.2.2.2⟩
theorem ST.warm {E : Ev} {A : Nat → Prop} {s U : State} {H : Heap} (hW : s.WarmedH U.vm) (h : ST E A s H) : ST E A U H :=
  ⟨fun i hi => ⟨(h.1 i hi).1.moved hW.alike, (h.1 i hi).2.moved hW.alike⟩, h.2.1.moved hW.alike, h.2.2.1.imp (fun q => q.moved hW.alike) (fun q => q.moved hW.alike), fun i hi => (h.2.2.2.1 i hi).moved hW.alike, fun i hi => (h.2.2.2.2.1 i hi).warm hW,
    fun q hq => (h.2.2.2.2.2.1 q hq).warmM hW, fun q hq => (h.2.2.2.2.2.2.1 q hq).warmF hW, h.2.2.2.2.2.2.2.1.moved hW.alike, h.2.2.2.2.2.2.2.2.1.moved hW.alike, h.2.2.2.2.2.2.2.2.2.moved hW.alike⟩
theorem ST.same {E : Ev} {A : Nat → Prop} {s U : State} {H : Heap} (hv : s.vm = U.vm) (h : ST E A s H) : ST E A U H := by
  have ha : s.vm.Alike U.vm := by rw [hv]; exact Vm.Alike.refl _
  exact ⟨fun i hi => ⟨(h.1 i hi).1.moved ha, (h.1 i hi).2.moved ha⟩, h.2.1.moved ha, h.2.2.1.imp (fun q => q.moved ha) (fun q => q.moved ha), fun i hi => (h.2.2.2.1 i hi).moved ha, fun i hi => (h.2.2.2.2.1 i hi).same hv.symm,
    fun q hq => (h.2.2.2.2.2.1 q hq).same rfl hv, fun q hq => (h.2.2.2.2.2.2.1 q hq).same rfl hv, h.2.2.2.2.2.2.2.1.moved ha, h.2.2.2.2.2.2.2.2.1.moved ha, h.2.2.2.2.2.2.2.2.2.moved ha⟩
/-! running a method's code over a world -/
/-- a method: its name, code, locals, answer -/
abbrev Mi : Type := MethodName × ByteArray × Nat × Option FieldType
def rmOf (d : Nat × Nat × Bool) : Room := { frames := d.1, cells := d.2.1, slots := d.2.1 * 1280, locals := 32 * d.1 }
def Fx (E : Ev) (M : Mi) (p : Program) (s : State) (m : MethodId) (args : Array Value) (meth : Method) (c : Code) (A : Nat → Prop) : Prop :=
  p.tables.exec = Jvm.exec ∧ c.code = M.2.1 ∧ c.maxLocals = M.2.2.1 ∧ meth.sig.returnType = M.2.2.2 ∧ meth.locks = false ∧ s.vm.findClass M.1.cls = some m.cls ∧ meth.name = M.1.name ∧
  (∀ t ∈ gtbl, t.before args s = true) ∧ va_K E.2.1 vwCl (tysL E) s ∧ ST E A s s.heap ∧ ∀ q : Nat, s.heap.size ≤ q → A q
def Wo (E : Ev) (A : Nat → Prop) (H0 : Heap) (w : Wd) (g : Bool) (H : Heap) (locs : List Loc) : Prop :=
  va_P E.2.1 vwCl (ws E w) H ∧ va_D A (ws E w) ∧ va_S A H0 H locs ∧ (g = true → H.size = lo E (wN w))
def QC (E : Ev) (A : Nat → Prop) (g : Bool) (Q : Option Value → Wd → Prop) : Array Value → State → Outcome → State → Prop := fun _ st oc t =>
  (∃ (r : Option Value) (w : Wd), oc = .returned (r.map (mv E)) ∧ Q r w ∧ va_P E.2.1 vwCl (ws E w) t.heap ∧ va_K E.2.1 vwCl (tysL E) t ∧ va_D A (ws E w) ∧ (g = true → t.heap.size = lo E (wN w))) ∧ va_F A st t
def Runs (E : Ev) (M : Mi) (d : Nat × Nat × Bool) (Q : Option Value → Wd → Prop) (k pc : Nat) (lv : List (Nat × Value)) (st : List Value) (w : Wd) : Prop :=
  ∀ (p : Program) (e : Env) (s : State) (m : MethodId) (args : Array Value) (below : List Frame) (meth : Method) (c : Code) (A : Nat → Prop) (H : Heap) (locs : List Loc) (ls : Array Slot),
    Fx E M p s m args meth c A → Wo E A s.heap w d.2.2 H locs → lv_has ls M.2.2.1 (mvl E lv) →
    W p E.1 e (rmOf d) s m args below meth c H locs k (k * 1280) (MQ below (QC E A d.2.2 Q) args s d.2.1 (d.2.1 * 1280) A) (F0 m pc ls (st.map (mv E)))
def AA (E : Ev) (w : Wd) (sz : Nat) : Nat → Prop := va_A (ws E w) sz
def PC (E : Ev) (g : Bool) (av : List Value) (w : Wd) (sz : Nat) : Array Value → State → Prop :=
  va_Pc (av.map (mv E)) (fun U => U.heap.size = sz ∧ va_P E.2.1 vwCl (ws E w) U.heap ∧ va_K E.2.1 vwCl (tysL E) U ∧ va_D (fun _ => True) (ws E w) ∧ ST E (AA E w sz) U U.heap ∧ (g = true → sz = lo E (wN w)))
/-- a contract: the method, called with these arguments in this world, comes to an end with Q -/
def CT (E : Ev) (M : Mi) (d : Nat × Nat × Bool) (av : List Value) (w : Wd) (Q : Option Value → Wd → Prop) : Prop :=
  ∀ sz : Nat, Met E.1 M.1 (.code M.1 M.2.1 M.2.2.1 M.2.2.2 :: gtbl) (rmOf d) (PC E d.2.2 av w sz) (QC E (AA E w sz) d.2.2 Q) d.2.1 (d.2.1 * 1280) (AA E w sz)
theorem lv_args_map (E : Ev) : ∀ (av : List Value) (i : Nat), lv_args i (av.map (mv E)) = mvl E (lv_args i av)
  | [], _ => rfl
  | v :: av, i => by
    show (i, mv E v) :: lv_args (if (mv E v).category = 2 then i + 2 else i + 1) (av.map (mv E)) = (i, mv E v) :: mvl E (lv_args (if v.category = 2 then i + 2 else i + 1) av)
    rw [mv_cat, lv_args_map E av]
theorem lg_sl_map (E : Ev) : ∀ (av : List Value), (lg_sl (av.map (mv E))).length = (lg_sl av).length
  | [] => rfl
  | v :: av => by
    have ih := lg_sl_map E av
    unfold lg_sl at ih ⊢
    rw [List.map_cons, List.flatMap_cons, List.flatMap_cons, List.length_append, List.length_append, ih, mv_cat]
    split <;> rfl
theorem CT.of {E : Ev} {M : Mi} {d : Nat × Nat × Bool} {av : List Value} {w : Wd} {Q : Option Value → Wd → Prop} (hy : plainName M.1.cls = true) (hlen : (lg_sl av).length ≤ M.2.2.1) (h : Runs E M d Q 0 0 (lv_args 0 av) [] w) : CT E M d av w Q := by
  intro sz
  refine Met.ofW (cc := M.2.1) (maxL := M.2.2.1) (ret := M.2.2.2) hy rfl ?_
  intro p e s m args below meth c s₁ B hml hv
  obtain ⟨rfl, hsz, hP, hK, hD0, hST, hg⟩ := hv
  have hts := atoms_spec (ws := .code M.1 M.2.1 M.2.2.1 M.2.2.2 :: gtbl) B.pre
  have hown : s.vm.findClass M.1.cls = some m.cls := findClass_of_methodNamed B.named
  have hnm : meth.name = M.1.name := (name_of_methodNamed B.named B.method).1
  subst hsz
  rw [lg_entry_eq]
  have hl := lv_entry (av.map (mv E)) (n := M.2.2.1) (by rw [lg_sl_map]; exact hlen)
  rw [lv_args_map] at hl
  have := h p e s m (av.map (mv E)).toArray below meth c (AA E w s.heap.size) s.heap [] _ ⟨B.exec, B.bytes, hml, B.returns, B.notSynchronized, hown, hnm, fun t ht => hts t (List.mem_cons_of_mem _ ht), hK, hST, fun q hq => Or.inr hq⟩ ⟨hP, hD0.self, va_S.rf, hg⟩ hl
  rw [Nat.zero_mul] at this
  exact this
