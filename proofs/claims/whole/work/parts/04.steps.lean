/-! One step of the machine under an abstract state. Fr: place, locals, operands. An unset local is .float 0; a text is .retAddr. -/
abbrev Fr : Type := Nat × List Value × List Value
def getL (L : List Value) (i : Nat) : Value := L.getD i (.float 0)
def isL2 : Value → Bool
  | .long _ => true
  | .double _ => true
  | _ => false
def clr (L : List Value) : Nat → List Value
  | 0 => L
  | j + 1 => cond (isL2 (L.getD j (.float 0))) (L.set j (.float 0)) L
def stL (L : List Value) (i : Nat) (v : Value) : List Value := (clr L i).set i v
def stL2 (L : List Value) (i : Nat) (v : Value) : List Value := ((clr L i).set i v).set (i + 1) (.float 0)
def lrel (B : Nat) (adK : Nat → Nat) (ls : Array Slot) (nL : Nat) (L : List Value) : Prop := ls.size = nL ∧ lv_wf ls ∧ ∀ (i : Nat) (v : Value), L[i]? = some v → v ≠ .float 0 → ls[i]? = some (.val (cv B adK v))
def ents (B : Nat) (adK : Nat → Nat) (L : List Value) : List (Nat × Value) := (List.range L.length).filterMap (fun i => if getL L i = .float 0 then none else some (i, cv B adK (getL L i)))
theorem getL_some {L : List Value} {i : Nat} {v : Value} (h : getL L i = v) (hv : v ≠ .float 0) : L[i]? = some v := by
  unfold getL at h
  rw [List.getD_eq_getElem?_getD] at h
  cases hx : L[i]? with
  | none => rw [hx] at h; simp at h; exact absurd h.symm hv
  | some w => rw [hx] at h; simp at h; rw [h]
theorem getL_of {L : List Value} {i : Nat} {v : Value} (h : L[i]? = some v) : getL L i = v := by
  unfold getL
  rw [List.getD_eq_getElem?_getD, h]; rfl
theorem ents_in {B : Nat} {adK : Nat → Nat} {L : List Value} {i : Nat} {v : Value} (h : L[i]? = some v) (hv : v ≠ .float 0) : (i, cv B adK v) ∈ ents B adK L := by
  have hi := (List.getElem?_eq_some_iff.mp h).1
  refine List.mem_filterMap.mpr ⟨i, List.mem_range.mpr hi, ?_⟩
  rw [getL_of h, if_neg hv]
theorem ents_has {B : Nat} {adK : Nat → Nat} {ls : Array Slot} {nL : Nat} {L : List Value} (h : lrel B adK ls nL L) : lv_has ls nL (ents B adK L) := by
  refine ⟨h.1, h.2.1, fun q hq => ?_⟩
  obtain ⟨i, hi, hq⟩ := List.mem_filterMap.mp hq
  by_cases hz : getL L i = .float 0
  · rw [if_pos hz] at hq; cases hq
  · rw [if_neg hz] at hq
    cases hq
    exact h.2.2 i _ (getL_some rfl hz) hz
theorem cv_cat (B : Nat) (adK : Nat → Nat) (v : Value) : (cv B adK v).category = v.category := by
  cases v with
  | ref r => simp only [cv, rfo]; split <;> rfl
  | _ => rfl
theorem clr_get {L : List Value} {i j : Nat} {w : Value} (hj : j ≠ i) (h : (clr L i)[j]? = some w) (hw : w ≠ .float 0) : L[j]? = some w ∧ ¬ (j + 1 = i ∧ w.category = 2) := by
  cases i with
  | zero => exact ⟨h, by omega⟩
  | succ k =>
    simp only [clr] at h
    by_cases hz : isL2 (L.getD k (.float 0)) = true
    · rw [hz] at h
      simp only [cond_true] at h
      by_cases hk : j = k
      · subst hk
        rw [List.getElem?_set] at h
        simp at h
        exact absurd h.2.symm hw
      · rw [List.getElem?_set_ne (Ne.symm hk)] at h
        exact ⟨h, by omega⟩
    · simp only [Bool.not_eq_true] at hz
      rw [hz] at h
      simp only [cond_false] at h
      refine ⟨h, fun q => ?_⟩
      have hk : j = k := by omega
      subst hk
      have e := getL_of h
      unfold getL at e
      rw [e] at hz
      cases w <;> simp [isL2, Value.category] at hz q
theorem lrel_st {B : Nat} {adK : Nat → Nat} {ls : Array Slot} {nL : Nat} {L : List Value} {i : Nat} {v v' : Value} (hv : cv B adK v = v') (h : lv_has ls nL ((i, v') :: (ents B adK L).filter (fun q => !(q.1 == i) && !(q.1 + 1 == i && q.2.category == 2)))) : lrel B adK ls nL (stL L i v) := by
  refine ⟨h.1, h.2.1, fun j w hj hw => ?_⟩
  unfold stL at hj
  by_cases e : j = i
  · subst e
    rw [List.getElem?_set] at hj
    simp at hj
    rw [← hj.2]
    exact h.2.2 (j, cv B adK v) (by rw [hv]; exact List.mem_cons_self)
  · rw [List.getElem?_set_ne (Ne.symm e)] at hj
    obtain ⟨h1, h2⟩ := clr_get e hj hw
    refine h.2.2 (j, cv B adK w) (List.mem_cons_of_mem _ (List.mem_filter.mpr ⟨ents_in h1 hw, ?_⟩))
    simp only [cv_cat, Bool.and_eq_true, Bool.not_eq_true', beq_eq_false_iff_ne, ne_eq, Bool.and_eq_false_iff]
    exact ⟨e, by by_cases q : j + 1 = i; exact Or.inr (fun z => h2 ⟨q, z⟩); exact Or.inl q⟩
theorem lrel_st2 {B : Nat} {adK : Nat → Nat} {ls : Array Slot} {nL : Nat} {L : List Value} {i : Nat} {v v' : Value} (hv : cv B adK v = v') (h : lv_has ls nL ((i, v') :: (ents B adK L).filter (fun q => !(q.1 == i) && (!(q.1 == i + 1) && !(q.1 + 1 == i && q.2.category == 2))))) : lrel B adK ls nL (stL2 L i v) := by
  refine ⟨h.1, h.2.1, fun j w hj hw => ?_⟩
  unfold stL2 at hj
  by_cases e1 : j = i + 1
  · subst e1
    rw [List.getElem?_set] at hj
    simp at hj
    exact absurd hj.2.symm hw
  · rw [List.getElem?_set_ne (Ne.symm e1)] at hj
    by_cases e : j = i
    · subst e
      rw [List.getElem?_set] at hj
      simp at hj
      rw [← hj.2]
      exact h.2.2 (j, cv B adK v) (by rw [hv]; exact List.mem_cons_self)
    · rw [List.getElem?_set_ne (Ne.symm e)] at hj
      obtain ⟨h1, h2⟩ := clr_get e hj hw
      refine h.2.2 (j, cv B adK w) (List.mem_cons_of_mem _ (List.mem_filter.mpr ⟨ents_in h1 hw, ?_⟩))
      simp only [cv_cat, Bool.and_eq_true, Bool.not_eq_true', beq_eq_false_iff_ne, ne_eq, Bool.and_eq_false_iff]
      exact ⟨e, e1, by by_cases q : j + 1 = i; exact Or.inr (fun z => h2 ⟨q, z⟩); exact Or.inl q⟩
/-- fewer locals are known -/
def killL (ks : List Nat) (L : List Value) : List Value := ks.foldl (fun L k => L.set k (.float 0)) L
theorem lrel_kill1 {B : Nat} {adK : Nat → Nat} {ls : Array Slot} {nL : Nat} {L : List Value} (k : Nat) (h : lrel B adK ls nL L) : lrel B adK ls nL (L.set k (.float 0)) := by
  refine ⟨h.1, h.2.1, fun j w hj hw => ?_⟩
  by_cases e : j = k
  · subst e
    rw [List.getElem?_set] at hj
    simp at hj
    exact absurd hj.2.symm hw
  · rw [List.getElem?_set_ne (Ne.symm e)] at hj
    exact h.2.2 j w hj hw
theorem lrel_kill {B : Nat} {adK : Nat → Nat} {ls : Array Slot} {nL : Nat} : ∀ (ks : List Nat) {L : List Value}, lrel B adK ls nL L → lrel B adK ls nL (killL ks L)
  | [], _, h => h
  | k :: ks, _, h => lrel_kill ks (lrel_kill1 k h)
/-- the words that stay, whatever is resolved; and those that need a word of their own -/
def lw_g : List Cond := lw_tbl.filter goodWord
theorem lw_g_in {w : Cond} (h : w ∈ lw_g) : w ∈ lw_tbl := (List.mem_filter.mp h).1
theorem lw_g_ok {w : Cond} (h : w ∈ lw_g) : goodWord w = true := (List.mem_filter.mp h).2
theorem lw_g_of {w : Cond} (h : w ∈ lw_tbl) (hg : goodWord w = true) : w ∈ lw_g := List.mem_filter.mpr ⟨h, hg⟩
def nestW : List (String × Nat × MethodName) := [("HeadHill", 9, ⟨"HeadHill$RuleReader", "<init>", "()V"⟩), ("HeadHill$RuleReader", 11, ⟨"HeadHill$Text", "<init>", "()V"⟩), ("HeadHill", 35, ⟨"HeadHill$Town", "<init>", "()V"⟩), ("HeadHill$Town", 24, ⟨"HeadHill$Moment", "<init>", "()V"⟩), ("HeadHill", 53, ⟨"HeadHill$Future", "<init>", "()V"⟩), ("HeadHill$Future", 20, ⟨"HeadHill$Moment", "<init>", "()V"⟩), ("HeadHill", 60, ⟨"HeadHill$Choices", "<init>", "()V"⟩), ("HeadHill$Choices", 20, ⟨"HeadHill$Moment", "<init>", "()V"⟩), ("HeadHill", 67, ⟨"HeadHill$Witness", "<init>", "()V"⟩), ("HeadHill$Witness", 20, ⟨"HeadHill$Moment", "<init>", "()V"⟩), ("HeadHill", 74, ⟨"HeadHill$Purses", "<init>", "()V"⟩), ("HeadHill", 90, ⟨"HeadHill$Hill", "<init>", "()V"⟩)]
def AOA (t : FieldType) (U : State) : Prop := (Cond.arrayOver (.array t)).before #[] U = true
theorem AOA_moved {t : FieldType} {u U : State} (hvm : u.vm.Alike U.vm) (h : AOA t u) : AOA t U := by
  obtain ⟨comp, c, k, h1, h2, h3, h4, h5⟩ := arrayOverA_spec h
  obtain ⟨k', hk', he⟩ := hvm.2.2 _ _ h3
  have hi : (U.vm.classes.findIdx? fun (x : Class) => match x.kind with | .array component _ => component == comp | _ => false) = some c := by
    have hb : ∀ vm : Vm, (vm.bare.classes.findIdx? fun (x : Class) => match x.kind with | .array component _ => component == comp | _ => false) = (vm.classes.findIdx? fun (x : Class) => match x.kind with | .array component _ => component == comp | _ => false) := fun vm => by
      simp only [Vm.bare, Array.findIdx?_map]
      rfl
    rw [← hb]
    first | rw [hvm.bare_eq] | rw [← hvm.bare_eq]
    rw [hb]
    exact h2
  have hkind : k'.kind = .array comp (.array t) := by rw [he]; exact h4
  have f1 : U.vm.findClass (FieldType.array t).toString = some comp := by rw [hvm.findClass]; exact h1
  have f2 : U.vm.findClass ("[" ++ (FieldType.array t).toString) = some c := by rw [hvm.findClass]; exact h5
  unfold AOA Cond.before Cond.holds
  simp only [Cond.value]
  rw [f1, Option.bind_some]
  refine (congrArg (fun o : Option Nat => (o.bind (fun c => (U.vm.classes[c]?).map fun (k : Class) => match k.kind with | .array _ ty => decide (ty = FieldType.array t) && decide (U.vm.findClass ("[" ++ (FieldType.array t).toString) = some c) | _ => false) == some true)) hi).trans ?_
  simp [hk', hkind, f2]
def Hard (U : State) : Prop := (∀ q ∈ nestW, va_Nw (.methodLinkNest q.1 q.2.1 q.2.2 "HeadHill") U) ∧ va_AO RX6 U ∧ va_AO RX9 U ∧ va_AO RX4 U ∧ AOA .int U ∧ va_Nw (.castable "[I" "java/lang/Cloneable") U
theorem Hard.warm {s U : State} (hW : s.WarmedH U.vm) (h : Hard s) : Hard U := ⟨fun q hq => va_Nw.warmM hW (h.1 q hq), h.2.1.moved hW.alike, h.2.2.1.moved hW.alike, h.2.2.2.1.moved hW.alike, AOA_moved hW.alike h.2.2.2.2.1, va_Nw.warmC hW h.2.2.2.2.2⟩
theorem Hard.same {s U : State} (hv : s.vm = U.vm) (h : Hard s) : Hard U := ⟨fun q hq => va_Nw.same rfl hv (h.1 q hq), h.2.1.moved (by rw [hv]; exact Vm.Alike.refl _), h.2.2.1.moved (by rw [hv]; exact Vm.Alike.refl _), h.2.2.2.1.moved (by rw [hv]; exact Vm.Alike.refl _), AOA_moved (by rw [hv]; exact Vm.Alike.refl _) h.2.2.2.2.1, va_Nw.same rfl hv h.2.2.2.2.2⟩
/-- the texts -/
def strs : List (String × Nat × String) := [("HeadHill$Text", 53, "runner ware speed purse far worth rivals time lead wealth feast day hill run if and or not "), ("HeadHillModel", 277, "hill"), ("HeadHillModel", 160, "runner"), ("HeadHillModel", 162, "ware"), ("HeadHillModel", 315, "run"), ("HeadHillModel", 164, "speed"), ("HeadHillModel", 165, "purse"), ("HeadHillModel", 166, "far"), ("HeadHillModel", 167, "worth"), ("HeadHillModel", 168, "rivals"), ("HeadHillModel", 170, "time"), ("HeadHillModel", 172, "lead"), ("HeadHillModel", 174, "wealth"), ("HeadHillModel", 175, "feast"), ("HeadHillModel", 177, "day"), ("HeadHillModel", 317, "if"), ("HeadHillModel", 259, "not"), ("HeadHillModel", 273, "and"), ("HeadHillModel", 275, "or")]
def strLen : List Nat := [91, 4, 6, 4, 3, 5, 5, 3, 5, 6, 4, 4, 6, 5, 3, 2, 3, 3, 2]
def strB : List (List Int32) := [[114, 117, 110, 110, 101, 114, 32, 119, 97, 114, 101, 32, 115, 112, 101, 101, 100, 32, 112, 117, 114, 115, 101, 32, 102, 97, 114, 32, 119, 111, 114, 116, 104, 32, 114, 105, 118, 97, 108, 115, 32, 116, 105, 109, 101, 32, 108, 101, 97, 100, 32, 119, 101, 97, 108, 116, 104, 32, 102, 101, 97, 115, 116, 32, 100, 97, 121, 32, 104, 105, 108, 108, 32, 114, 117, 110, 32, 105, 102, 32, 97, 110, 100, 32, 111, 114, 32, 110, 111, 116, 32], [104, 105, 108, 108], [114, 117, 110, 110, 101, 114], [119, 97, 114, 101], [114, 117, 110], [115, 112, 101, 101, 100], [112, 117, 114, 115, 101], [102, 97, 114], [119, 111, 114, 116, 104], [114, 105, 118, 97, 108, 115], [116, 105, 109, 101], [108, 101, 97, 100], [119, 101, 97, 108, 116, 104], [102, 101, 97, 115, 116], [100, 97, 121], [105, 102], [110, 111, 116], [97, 110, 100], [111, 114]]
def Str (adK adV : Nat → Nat) (B : Nat) (U : State) : Prop := vk_S 19 strLen strB adK adV (AB B) U U.heap ∧ (∀ (i : Nat) (q : String × Nat × String), strs[i]? = some q → vk_R q.1 q.2.1 q.2.2 (adK i) U) ∧ va_Z "java/lang/String" "COMPACT_STRINGS" "Z" (.int 1) (AB B) U U.heap ∧ va_Zq "jdk/internal/util/Preconditions" "SIOOBE_FORMATTER" "Ljava/util/function/BiFunction;" (AB B) U U.heap ∧ Hard U
abbrev CX : Type := (Program × Launch × Env × Room × State × MethodId × Array Value × List Frame × Method × Code × (State → Prop)) × (Nat × va_G × (Nat → Nat) × (Nat → Nat) × (Nat → Nat)) × (Nat × Nat × Nat × Nat × Nat)
abbrev MX : Type := String × ByteArray × String × Nat × Option (Nat × (Nat → Int32))
def Ctx (X : CX) (M : MX) : Prop := match X, M with
  | ((p, l, e, R, s, m, args, below, meth, c, Qm), (B, D, cid, adK, adV), (nL, n0, u0, E1, E2)), (own, cc, mname, dep, scr) =>
    p.tables.exec = Jvm.exec ∧ c.code = cc ∧ c.maxLocals = nL ∧ s.vm.findClass own = some m.cls ∧ (∀ w ∈ lw_g, w.before args s = true) ∧ va_K D cl13 (tysOf cid) s ∧ Str adK adV B s ∧ (s.heap.size = B + n0 ∧ 1 ≤ n0) ∧ meth.name = mname ∧ (dep ≤ R.frames ∧ 64 * dep ≤ R.locals ∧ E1 - n0 ≤ R.cells ∧ E2 - u0 ≤ R.slots) ∧ (∀ (L : Nat) (xs : Nat → Int32), scr = some (L, xs) → va_X (adK 19) L xs s s.heap ∧ adK 19 ≤ B)
def Wst (X : CX) (f : Fr) (h : AH) : Prop := match X with
  | ((p, l, e, R, s, m, args, below, meth, c, Qm), (B, D, cid, adK, adV), (nL, n0, u0, E1, E2)) =>
    ∀ (H : Heap) (locs : List Loc) (ls : Array Slot), Rel B D cid h H → va_S (AB B) s.heap H locs → lrel B adK ls nL f.2.1 → (n0 ≤ hN h ∧ u0 ≤ hU h ∧ hN h ≤ E1 ∧ hU h ≤ E2) → W p l e R s m args below meth c H locs (hN h - n0) (hU h - u0) Qm (F0 m f.1 ls (f.2.2.map (cv B adK)))
theorem Wst.kill {X : CX} (ks : List Nat) {pc : Nat} {L st : List Value} {h : AH} (k : Wst X (pc, killL ks L, st) h) : Wst X (pc, L, st) h := by
  obtain ⟨⟨p, l, e, R, s, m, args, below, meth, c, Qm⟩, ⟨B, D, cid, adK, adV⟩, ⟨nL, n0, u0, E1, E2⟩⟩ := X
  exact fun H locs ls r1 r2 r3 r4 => k H locs ls r1 r2 (lrel_kill ks r3) r4
theorem st_iadd {X : CX} {M : MX} (C : Ctx X M) {pc : Nat} {L st : List Value} {h : AH} {x y : Int32} (hd : decode M.2.1 pc = .ok (.iadd, 1)) (k : Wst X (pc + 1, L, .int (x + y) :: st) h) : Wst X (pc, L, .int y :: .int x :: st) h := by
  obtain ⟨⟨p, l, e, R, s, m, args, below, meth, c, Qm⟩, ⟨B, D, cid, adK, adV⟩, ⟨nL, n0, u0, E1, E2⟩⟩ := X
  obtain ⟨own, cc, mname, dep, scr⟩ := M
  obtain ⟨hx, hb, hml, hown, hts, hK, hstr, hsz, hnm, hroom, hscr⟩ := C
  exact fun H locs ls r1 r2 r3 r4 => lv_iadd hx hb hd (k H locs ls r1 r2 r3 r4)
theorem st_isub {X : CX} {M : MX} (C : Ctx X M) {pc : Nat} {L st : List Value} {h : AH} {x y : Int32} (hd : decode M.2.1 pc = .ok (.isub, 1)) (k : Wst X (pc + 1, L, .int (x - y) :: st) h) : Wst X (pc, L, .int y :: .int x :: st) h := by
  obtain ⟨⟨p, l, e, R, s, m, args, below, meth, c, Qm⟩, ⟨B, D, cid, adK, adV⟩, ⟨nL, n0, u0, E1, E2⟩⟩ := X
  obtain ⟨own, cc, mname, dep, scr⟩ := M
  obtain ⟨hx, hb, hml, hown, hts, hK, hstr, hsz, hnm, hroom, hscr⟩ := C
  exact fun H locs ls r1 r2 r3 r4 => lv_isub hx hb hd (k H locs ls r1 r2 r3 r4)
theorem st_imul {X : CX} {M : MX} (C : Ctx X M) {pc : Nat} {L st : List Value} {h : AH} {x y : Int32} (hd : decode M.2.1 pc = .ok (.imul, 1)) (k : Wst X (pc + 1, L, .int (x * y) :: st) h) : Wst X (pc, L, .int y :: .int x :: st) h := by
  obtain ⟨⟨p, l, e, R, s, m, args, below, meth, c, Qm⟩, ⟨B, D, cid, adK, adV⟩, ⟨nL, n0, u0, E1, E2⟩⟩ := X
  obtain ⟨own, cc, mname, dep, scr⟩ := M
  obtain ⟨hx, hb, hml, hown, hts, hK, hstr, hsz, hnm, hroom, hscr⟩ := C
  exact fun H locs ls r1 r2 r3 r4 => lv_imul hx hb hd (k H locs ls r1 r2 r3 r4)
theorem st_iand {X : CX} {M : MX} (C : Ctx X M) {pc : Nat} {L st : List Value} {h : AH} {x y : Int32} (hd : decode M.2.1 pc = .ok (.iand, 1)) (k : Wst X (pc + 1, L, .int (x &&& y) :: st) h) : Wst X (pc, L, .int y :: .int x :: st) h := by
  obtain ⟨⟨p, l, e, R, s, m, args, below, meth, c, Qm⟩, ⟨B, D, cid, adK, adV⟩, ⟨nL, n0, u0, E1, E2⟩⟩ := X
  obtain ⟨own, cc, mname, dep, scr⟩ := M
  obtain ⟨hx, hb, hml, hown, hts, hK, hstr, hsz, hnm, hroom, hscr⟩ := C
  exact fun H locs ls r1 r2 r3 r4 => lv_iand hx hb hd (k H locs ls r1 r2 r3 r4)
theorem st_ior {X : CX} {M : MX} (C : Ctx X M) {pc : Nat} {L st : List Value} {h : AH} {x y : Int32} (hd : decode M.2.1 pc = .ok (.ior, 1)) (k : Wst X (pc + 1, L, .int (x ||| y) :: st) h) : Wst X (pc, L, .int y :: .int x :: st) h := by
  obtain ⟨⟨p, l, e, R, s, m, args, below, meth, c, Qm⟩, ⟨B, D, cid, adK, adV⟩, ⟨nL, n0, u0, E1, E2⟩⟩ := X
  obtain ⟨own, cc, mname, dep, scr⟩ := M
  obtain ⟨hx, hb, hml, hown, hts, hK, hstr, hsz, hnm, hroom, hscr⟩ := C
  exact fun H locs ls r1 r2 r3 r4 => lv_ior hx hb hd (k H locs ls r1 r2 r3 r4)
theorem st_ixor {X : CX} {M : MX} (C : Ctx X M) {pc : Nat} {L st : List Value} {h : AH} {x y : Int32} (hd : decode M.2.1 pc = .ok (.ixor, 1)) (k : Wst X (pc + 1, L, .int (x ^^^ y) :: st) h) : Wst X (pc, L, .int y :: .int x :: st) h := by
  obtain ⟨⟨p, l, e, R, s, m, args, below, meth, c, Qm⟩, ⟨B, D, cid, adK, adV⟩, ⟨nL, n0, u0, E1, E2⟩⟩ := X
  obtain ⟨own, cc, mname, dep, scr⟩ := M
  obtain ⟨hx, hb, hml, hown, hts, hK, hstr, hsz, hnm, hroom, hscr⟩ := C
  exact fun H locs ls r1 r2 r3 r4 => lv_ixor hx hb hd (k H locs ls r1 r2 r3 r4)
theorem st_ishl {X : CX} {M : MX} (C : Ctx X M) {pc : Nat} {L st : List Value} {h : AH} {x y : Int32} (hd : decode M.2.1 pc = .ok (.ishl, 1)) (k : Wst X (pc + 1, L, .int (x <<< (y &&& 31)) :: st) h) : Wst X (pc, L, .int y :: .int x :: st) h := by
  obtain ⟨⟨p, l, e, R, s, m, args, below, meth, c, Qm⟩, ⟨B, D, cid, adK, adV⟩, ⟨nL, n0, u0, E1, E2⟩⟩ := X
  obtain ⟨own, cc, mname, dep, scr⟩ := M
  obtain ⟨hx, hb, hml, hown, hts, hK, hstr, hsz, hnm, hroom, hscr⟩ := C
  exact fun H locs ls r1 r2 r3 r4 => lv_ishl hx hb hd (k H locs ls r1 r2 r3 r4)
theorem st_ishr {X : CX} {M : MX} (C : Ctx X M) {pc : Nat} {L st : List Value} {h : AH} {x y : Int32} (hd : decode M.2.1 pc = .ok (.ishr, 1)) (k : Wst X (pc + 1, L, .int (x >>> (y &&& 31)) :: st) h) : Wst X (pc, L, .int y :: .int x :: st) h := by
  obtain ⟨⟨p, l, e, R, s, m, args, below, meth, c, Qm⟩, ⟨B, D, cid, adK, adV⟩, ⟨nL, n0, u0, E1, E2⟩⟩ := X
  obtain ⟨own, cc, mname, dep, scr⟩ := M
  obtain ⟨hx, hb, hml, hown, hts, hK, hstr, hsz, hnm, hroom, hscr⟩ := C
  exact fun H locs ls r1 r2 r3 r4 => lv_ishr hx hb hd (k H locs ls r1 r2 r3 r4)
theorem st_idiv {X : CX} {M : MX} (C : Ctx X M) {pc : Nat} {L st : List Value} {h : AH} {x y : Int32} (hd : decode M.2.1 pc = .ok (.idiv, 1)) (hne : ¬ y = 0) (k : Wst X (pc + 1, L, .int (x / y) :: st) h) : Wst X (pc, L, .int y :: .int x :: st) h := by
  obtain ⟨⟨p, l, e, R, s, m, args, below, meth, c, Qm⟩, ⟨B, D, cid, adK, adV⟩, ⟨nL, n0, u0, E1, E2⟩⟩ := X
  obtain ⟨own, cc, mname, dep, scr⟩ := M
  obtain ⟨hx, hb, hml, hown, hts, hK, hstr, hsz, hnm, hroom, hscr⟩ := C
  exact fun H locs ls r1 r2 r3 r4 => lv_idiv hx hb hd hne (k H locs ls r1 r2 r3 r4)
theorem st_irem {X : CX} {M : MX} (C : Ctx X M) {pc : Nat} {L st : List Value} {h : AH} {x y : Int32} (hd : decode M.2.1 pc = .ok (.irem, 1)) (hne : ¬ y = 0) (k : Wst X (pc + 1, L, .int (x - x / y * y) :: st) h) : Wst X (pc, L, .int y :: .int x :: st) h := by
  obtain ⟨⟨p, l, e, R, s, m, args, below, meth, c, Qm⟩, ⟨B, D, cid, adK, adV⟩, ⟨nL, n0, u0, E1, E2⟩⟩ := X
  obtain ⟨own, cc, mname, dep, scr⟩ := M
  obtain ⟨hx, hb, hml, hown, hts, hK, hstr, hsz, hnm, hroom, hscr⟩ := C
  exact fun H locs ls r1 r2 r3 r4 => lv_irem hx hb hd hne (k H locs ls r1 r2 r3 r4)
theorem st_iushr {X : CX} {M : MX} (C : Ctx X M) {pc : Nat} {L st : List Value} {h : AH} {x y : Int32} (hd : decode M.2.1 pc = .ok (.iushr, 1)) (k : Wst X (pc + 1, L, .int ((x.toUInt32 >>> (y.toUInt32 &&& Int32.toUInt32 31)).toInt32) :: st) h) : Wst X (pc, L, .int y :: .int x :: st) h := by
  obtain ⟨⟨p, l, e, R, s, m, args, below, meth, c, Qm⟩, ⟨B, D, cid, adK, adV⟩, ⟨nL, n0, u0, E1, E2⟩⟩ := X
  obtain ⟨own, cc, mname, dep, scr⟩ := M
  obtain ⟨hx, hb, hml, hown, hts, hK, hstr, hsz, hnm, hroom, hscr⟩ := C
  exact fun H locs ls r1 r2 r3 r4 => lv_iushr hx hb hd rfl (k H locs ls r1 r2 r3 r4)
theorem st_ladd {X : CX} {M : MX} (C : Ctx X M) {pc : Nat} {L st : List Value} {h : AH} {x y : Int64} (hd : decode M.2.1 pc = .ok (.ladd, 1)) (k : Wst X (pc + 1, L, .long (x + y) :: st) h) : Wst X (pc, L, .long y :: .long x :: st) h := by
  obtain ⟨⟨p, l, e, R, s, m, args, below, meth, c, Qm⟩, ⟨B, D, cid, adK, adV⟩, ⟨nL, n0, u0, E1, E2⟩⟩ := X
  obtain ⟨own, cc, mname, dep, scr⟩ := M
  obtain ⟨hx, hb, hml, hown, hts, hK, hstr, hsz, hnm, hroom, hscr⟩ := C
  exact fun H locs ls r1 r2 r3 r4 => lv_ladd hx hb hd (k H locs ls r1 r2 r3 r4)
theorem st_lsub {X : CX} {M : MX} (C : Ctx X M) {pc : Nat} {L st : List Value} {h : AH} {x y : Int64} (hd : decode M.2.1 pc = .ok (.lsub, 1)) (k : Wst X (pc + 1, L, .long (x - y) :: st) h) : Wst X (pc, L, .long y :: .long x :: st) h := by
  obtain ⟨⟨p, l, e, R, s, m, args, below, meth, c, Qm⟩, ⟨B, D, cid, adK, adV⟩, ⟨nL, n0, u0, E1, E2⟩⟩ := X
  obtain ⟨own, cc, mname, dep, scr⟩ := M
  obtain ⟨hx, hb, hml, hown, hts, hK, hstr, hsz, hnm, hroom, hscr⟩ := C
  exact fun H locs ls r1 r2 r3 r4 => lv_lsub hx hb hd (k H locs ls r1 r2 r3 r4)
theorem st_lmul {X : CX} {M : MX} (C : Ctx X M) {pc : Nat} {L st : List Value} {h : AH} {x y : Int64} (hd : decode M.2.1 pc = .ok (.lmul, 1)) (k : Wst X (pc + 1, L, .long (x * y) :: st) h) : Wst X (pc, L, .long y :: .long x :: st) h := by
  obtain ⟨⟨p, l, e, R, s, m, args, below, meth, c, Qm⟩, ⟨B, D, cid, adK, adV⟩, ⟨nL, n0, u0, E1, E2⟩⟩ := X
  obtain ⟨own, cc, mname, dep, scr⟩ := M
  obtain ⟨hx, hb, hml, hown, hts, hK, hstr, hsz, hnm, hroom, hscr⟩ := C
  exact fun H locs ls r1 r2 r3 r4 => lv_lmul hx hb hd (k H locs ls r1 r2 r3 r4)
theorem st_land {X : CX} {M : MX} (C : Ctx X M) {pc : Nat} {L st : List Value} {h : AH} {x y : Int64} (hd : decode M.2.1 pc = .ok (.land, 1)) (k : Wst X (pc + 1, L, .long (x &&& y) :: st) h) : Wst X (pc, L, .long y :: .long x :: st) h := by
  obtain ⟨⟨p, l, e, R, s, m, args, below, meth, c, Qm⟩, ⟨B, D, cid, adK, adV⟩, ⟨nL, n0, u0, E1, E2⟩⟩ := X
  obtain ⟨own, cc, mname, dep, scr⟩ := M
  obtain ⟨hx, hb, hml, hown, hts, hK, hstr, hsz, hnm, hroom, hscr⟩ := C
  exact fun H locs ls r1 r2 r3 r4 => lv_land hx hb hd (k H locs ls r1 r2 r3 r4)
theorem st_lor {X : CX} {M : MX} (C : Ctx X M) {pc : Nat} {L st : List Value} {h : AH} {x y : Int64} (hd : decode M.2.1 pc = .ok (.lor, 1)) (k : Wst X (pc + 1, L, .long (x ||| y) :: st) h) : Wst X (pc, L, .long y :: .long x :: st) h := by
  obtain ⟨⟨p, l, e, R, s, m, args, below, meth, c, Qm⟩, ⟨B, D, cid, adK, adV⟩, ⟨nL, n0, u0, E1, E2⟩⟩ := X
  obtain ⟨own, cc, mname, dep, scr⟩ := M
  obtain ⟨hx, hb, hml, hown, hts, hK, hstr, hsz, hnm, hroom, hscr⟩ := C
  exact fun H locs ls r1 r2 r3 r4 => lv_lor hx hb hd (k H locs ls r1 r2 r3 r4)
theorem st_ldiv {X : CX} {M : MX} (C : Ctx X M) {pc : Nat} {L st : List Value} {h : AH} {x y : Int64} (hd : decode M.2.1 pc = .ok (.ldiv, 1)) (hne : ¬ y = 0) (k : Wst X (pc + 1, L, .long (x / y) :: st) h) : Wst X (pc, L, .long y :: .long x :: st) h := by
  obtain ⟨⟨p, l, e, R, s, m, args, below, meth, c, Qm⟩, ⟨B, D, cid, adK, adV⟩, ⟨nL, n0, u0, E1, E2⟩⟩ := X
  obtain ⟨own, cc, mname, dep, scr⟩ := M
  obtain ⟨hx, hb, hml, hown, hts, hK, hstr, hsz, hnm, hroom, hscr⟩ := C
  exact fun H locs ls r1 r2 r3 r4 => lv_ldiv hx hb hd hne (k H locs ls r1 r2 r3 r4)
theorem st_lrem {X : CX} {M : MX} (C : Ctx X M) {pc : Nat} {L st : List Value} {h : AH} {x y : Int64} (hd : decode M.2.1 pc = .ok (.lrem, 1)) (hne : ¬ y = 0) (k : Wst X (pc + 1, L, .long (x - x / y * y) :: st) h) : Wst X (pc, L, .long y :: .long x :: st) h := by
  obtain ⟨⟨p, l, e, R, s, m, args, below, meth, c, Qm⟩, ⟨B, D, cid, adK, adV⟩, ⟨nL, n0, u0, E1, E2⟩⟩ := X
  obtain ⟨own, cc, mname, dep, scr⟩ := M
  obtain ⟨hx, hb, hml, hown, hts, hK, hstr, hsz, hnm, hroom, hscr⟩ := C
  exact fun H locs ls r1 r2 r3 r4 => lv_lrem hx hb hd hne (k H locs ls r1 r2 r3 r4)
theorem st_i2l {X : CX} {M : MX} (C : Ctx X M) {pc : Nat} {L st : List Value} {h : AH} {x : Int32} (hd : decode M.2.1 pc = .ok (.i2l, 1)) (k : Wst X (pc + 1, L, .long x.toInt64 :: st) h) : Wst X (pc, L, .int x :: st) h := by
  obtain ⟨⟨p, l, e, R, s, m, args, below, meth, c, Qm⟩, ⟨B, D, cid, adK, adV⟩, ⟨nL, n0, u0, E1, E2⟩⟩ := X
  obtain ⟨own, cc, mname, dep, scr⟩ := M
  obtain ⟨hx, hb, hml, hown, hts, hK, hstr, hsz, hnm, hroom, hscr⟩ := C
  exact fun H locs ls r1 r2 r3 r4 => lv_i2l hx hb hd rfl (k H locs ls r1 r2 r3 r4)
theorem st_l2i {X : CX} {M : MX} (C : Ctx X M) {pc : Nat} {L st : List Value} {h : AH} {x : Int64} (hd : decode M.2.1 pc = .ok (.l2i, 1)) (k : Wst X (pc + 1, L, .int x.toInt32 :: st) h) : Wst X (pc, L, .long x :: st) h := by
  obtain ⟨⟨p, l, e, R, s, m, args, below, meth, c, Qm⟩, ⟨B, D, cid, adK, adV⟩, ⟨nL, n0, u0, E1, E2⟩⟩ := X
  obtain ⟨own, cc, mname, dep, scr⟩ := M
  obtain ⟨hx, hb, hml, hown, hts, hK, hstr, hsz, hnm, hroom, hscr⟩ := C
  exact fun H locs ls r1 r2 r3 r4 => lv_l2i hx hb hd rfl (k H locs ls r1 r2 r3 r4)
theorem st_i2b {X : CX} {M : MX} (C : Ctx X M) {pc : Nat} {L st : List Value} {h : AH} {x : Int32} (hd : decode M.2.1 pc = .ok (.i2b, 1)) (k : Wst X (pc + 1, L, .int x.toInt8.toInt32 :: st) h) : Wst X (pc, L, .int x :: st) h := by
  obtain ⟨⟨p, l, e, R, s, m, args, below, meth, c, Qm⟩, ⟨B, D, cid, adK, adV⟩, ⟨nL, n0, u0, E1, E2⟩⟩ := X
  obtain ⟨own, cc, mname, dep, scr⟩ := M
  obtain ⟨hx, hb, hml, hown, hts, hK, hstr, hsz, hnm, hroom, hscr⟩ := C
  exact fun H locs ls r1 r2 r3 r4 => lv_i2b hx hb hd rfl (k H locs ls r1 r2 r3 r4)
theorem st_iconst {X : CX} {M : MX} (C : Ctx X M) {pc : Nat} {L st : List Value} {h : AH} {n : Int} {v : Int32} (hd : decode M.2.1 pc = .ok (.iconst n, 1)) (hv : Int32.ofInt n = v) (k : Wst X (pc + 1, L, .int v :: st) h) : Wst X (pc, L, st) h := by
  obtain ⟨⟨p, l, e, R, s, m, args, below, meth, c, Qm⟩, ⟨B, D, cid, adK, adV⟩, ⟨nL, n0, u0, E1, E2⟩⟩ := X
  obtain ⟨own, cc, mname, dep, scr⟩ := M
  obtain ⟨hx, hb, hml, hown, hts, hK, hstr, hsz, hnm, hroom, hscr⟩ := C
  exact fun H locs ls r1 r2 r3 r4 => lv_iconst hx hb hd hv (k H locs ls r1 r2 r3 r4)
theorem st_bipush {X : CX} {M : MX} (C : Ctx X M) {pc : Nat} {L st : List Value} {h : AH} {n : Int} {v : Int32} (hd : decode M.2.1 pc = .ok (.bipush n, 2)) (hv : (Int8.ofInt n).toInt32 = v) (k : Wst X (pc + 2, L, .int v :: st) h) : Wst X (pc, L, st) h := by
  obtain ⟨⟨p, l, e, R, s, m, args, below, meth, c, Qm⟩, ⟨B, D, cid, adK, adV⟩, ⟨nL, n0, u0, E1, E2⟩⟩ := X
  obtain ⟨own, cc, mname, dep, scr⟩ := M
  obtain ⟨hx, hb, hml, hown, hts, hK, hstr, hsz, hnm, hroom, hscr⟩ := C
  exact fun H locs ls r1 r2 r3 r4 => lv_bipush hx hb hd hv (k H locs ls r1 r2 r3 r4)
theorem st_sipush {X : CX} {M : MX} (C : Ctx X M) {pc : Nat} {L st : List Value} {h : AH} {n : Int} {v : Int32} (hd : decode M.2.1 pc = .ok (.sipush n, 3)) (hv : (Int16.ofInt n).toInt32 = v) (k : Wst X (pc + 3, L, .int v :: st) h) : Wst X (pc, L, st) h := by
  obtain ⟨⟨p, l, e, R, s, m, args, below, meth, c, Qm⟩, ⟨B, D, cid, adK, adV⟩, ⟨nL, n0, u0, E1, E2⟩⟩ := X
  obtain ⟨own, cc, mname, dep, scr⟩ := M
  obtain ⟨hx, hb, hml, hown, hts, hK, hstr, hsz, hnm, hroom, hscr⟩ := C
  exact fun H locs ls r1 r2 r3 r4 => lv_sipush hx hb hd hv (k H locs ls r1 r2 r3 r4)
theorem st_lconst {X : CX} {M : MX} (C : Ctx X M) {pc : Nat} {L st : List Value} {h : AH} {n : Fin 2} {v : Int64} (hd : decode M.2.1 pc = .ok (.lconst n, 1)) (hv : Int64.ofNat (n : Nat) = v) (k : Wst X (pc + 1, L, .long v :: st) h) : Wst X (pc, L, st) h := by
  obtain ⟨⟨p, l, e, R, s, m, args, below, meth, c, Qm⟩, ⟨B, D, cid, adK, adV⟩, ⟨nL, n0, u0, E1, E2⟩⟩ := X
  obtain ⟨own, cc, mname, dep, scr⟩ := M
  obtain ⟨hx, hb, hml, hown, hts, hK, hstr, hsz, hnm, hroom, hscr⟩ := C
  exact fun H locs ls r1 r2 r3 r4 => lv_lconst hx hb hd hv (k H locs ls r1 r2 r3 r4)
theorem st_aconst {X : CX} {M : MX} (C : Ctx X M) {pc : Nat} {L st : List Value} {h : AH} (hd : decode M.2.1 pc = .ok (.aconst_null, 1)) (k : Wst X (pc + 1, L, .ref 0 :: st) h) : Wst X (pc, L, st) h := by
  obtain ⟨⟨p, l, e, R, s, m, args, below, meth, c, Qm⟩, ⟨B, D, cid, adK, adV⟩, ⟨nL, n0, u0, E1, E2⟩⟩ := X
  obtain ⟨own, cc, mname, dep, scr⟩ := M
  obtain ⟨hx, hb, hml, hown, hts, hK, hstr, hsz, hnm, hroom, hscr⟩ := C
  exact fun H locs ls r1 r2 r3 r4 => lv_null hx hb hd (k H locs ls r1 r2 r3 r4)
theorem st_dup {X : CX} {M : MX} (C : Ctx X M) {pc : Nat} {L st : List Value} {h : AH} {v : Value} (hd : decode M.2.1 pc = .ok (.dup, 1)) (hv : v.category = 1) (k : Wst X (pc + 1, L, v :: v :: st) h) : Wst X (pc, L, v :: st) h := by
  obtain ⟨⟨p, l, e, R, s, m, args, below, meth, c, Qm⟩, ⟨B, D, cid, adK, adV⟩, ⟨nL, n0, u0, E1, E2⟩⟩ := X
  obtain ⟨own, cc, mname, dep, scr⟩ := M
  obtain ⟨hx, hb, hml, hown, hts, hK, hstr, hsz, hnm, hroom, hscr⟩ := C
  exact fun H locs ls r1 r2 r3 r4 => lv_dup hx hb hd (by rw [cv_cat]; exact hv) (k H locs ls r1 r2 r3 r4)
theorem st_pop {X : CX} {M : MX} (C : Ctx X M) {pc : Nat} {L st : List Value} {h : AH} {v : Value} (hd : decode M.2.1 pc = .ok (.pop, 1)) (hv : v.category = 1) (k : Wst X (pc + 1, L, st) h) : Wst X (pc, L, v :: st) h := by
  obtain ⟨⟨p, l, e, R, s, m, args, below, meth, c, Qm⟩, ⟨B, D, cid, adK, adV⟩, ⟨nL, n0, u0, E1, E2⟩⟩ := X
  obtain ⟨own, cc, mname, dep, scr⟩ := M
  obtain ⟨hx, hb, hml, hown, hts, hK, hstr, hsz, hnm, hroom, hscr⟩ := C
  exact fun H locs ls r1 r2 r3 r4 => lv_pop hx hb hd (by rw [cv_cat]; exact hv) (k H locs ls r1 r2 r3 r4)
theorem st_dup2 {X : CX} {M : MX} (C : Ctx X M) {pc : Nat} {L st : List Value} {h : AH} {v w : Value} (hd : decode M.2.1 pc = .ok (.dup2, 1)) (hv : v.category = 1) (hw : w.category = 1) (k : Wst X (pc + 1, L, v :: w :: v :: w :: st) h) : Wst X (pc, L, v :: w :: st) h := by
  obtain ⟨⟨p, l, e, R, s, m, args, below, meth, c, Qm⟩, ⟨B, D, cid, adK, adV⟩, ⟨nL, n0, u0, E1, E2⟩⟩ := X
  obtain ⟨own, cc, mname, dep, scr⟩ := M
  obtain ⟨hx, hb, hml, hown, hts, hK, hstr, hsz, hnm, hroom, hscr⟩ := C
  exact fun H locs ls r1 r2 r3 r4 => lv_dup2_11 hx hb hd (by rw [cv_cat]; exact hv) (by rw [cv_cat]; exact hw) (k H locs ls r1 r2 r3 r4)
theorem st_lcmp {X : CX} {M : MX} (C : Ctx X M) {pc : Nat} {L st : List Value} {h : AH} {x y : Int64} (hd : decode M.2.1 pc = .ok (.lcmp, 1)) (k : Wst X (pc + 1, L, .int (lg_cmp x y) :: st) h) : Wst X (pc, L, .long y :: .long x :: st) h := by
  obtain ⟨⟨p, l, e, R, s, m, args, below, meth, c, Qm⟩, ⟨B, D, cid, adK, adV⟩, ⟨nL, n0, u0, E1, E2⟩⟩ := X
  obtain ⟨own, cc, mname, dep, scr⟩ := M
  obtain ⟨hx, hb, hml, hown, hts, hK, hstr, hsz, hnm, hroom, hscr⟩ := C
  exact fun H locs ls r1 r2 r3 r4 => W.lcmp hx hb hd (k H locs ls r1 r2 r3 r4)
theorem st_iload_n {X : CX} {M : MX} (C : Ctx X M) {pc : Nat} {L st : List Value} {h : AH} {i : Fin 4} {x : Int32} (hd : decode M.2.1 pc = .ok (.iload_n i, 1)) (hl : getL L i = .int x) (k : Wst X (pc + 1, L, .int x :: st) h) : Wst X (pc, L, st) h := by
  obtain ⟨⟨p, l, e, R, s, m, args, below, meth, c, Qm⟩, ⟨B, D, cid, adK, adV⟩, ⟨nL, n0, u0, E1, E2⟩⟩ := X
  obtain ⟨own, cc, mname, dep, scr⟩ := M
  obtain ⟨hx, hb, hml, hown, hts, hK, hstr, hsz, hnm, hroom, hscr⟩ := C
  exact fun H locs ls r1 r2 r3 r4 => lv_iload_n hx hb hd rfl (r3.2.2 _ _ (getL_some hl (by simp)) (by simp)) (k H locs ls r1 r2 r3 r4)
theorem st_iload {X : CX} {M : MX} (C : Ctx X M) {pc : Nat} {L st : List Value} {h : AH} {i : Nat} {x : Int32} (hd : decode M.2.1 pc = .ok (.iload i, 2)) (hl : getL L i = .int x) (k : Wst X (pc + 2, L, .int x :: st) h) : Wst X (pc, L, st) h := by
  obtain ⟨⟨p, l, e, R, s, m, args, below, meth, c, Qm⟩, ⟨B, D, cid, adK, adV⟩, ⟨nL, n0, u0, E1, E2⟩⟩ := X
  obtain ⟨own, cc, mname, dep, scr⟩ := M
  obtain ⟨hx, hb, hml, hown, hts, hK, hstr, hsz, hnm, hroom, hscr⟩ := C
  exact fun H locs ls r1 r2 r3 r4 => lv_iload hx hb hd (r3.2.2 _ _ (getL_some hl (by simp)) (by simp)) (k H locs ls r1 r2 r3 r4)
theorem st_lload_n {X : CX} {M : MX} (C : Ctx X M) {pc : Nat} {L st : List Value} {h : AH} {i : Fin 4} {x : Int64} (hd : decode M.2.1 pc = .ok (.lload_n i, 1)) (hl : getL L i = .long x) (k : Wst X (pc + 1, L, .long x :: st) h) : Wst X (pc, L, st) h := by
  obtain ⟨⟨p, l, e, R, s, m, args, below, meth, c, Qm⟩, ⟨B, D, cid, adK, adV⟩, ⟨nL, n0, u0, E1, E2⟩⟩ := X
  obtain ⟨own, cc, mname, dep, scr⟩ := M
  obtain ⟨hx, hb, hml, hown, hts, hK, hstr, hsz, hnm, hroom, hscr⟩ := C
  exact fun H locs ls r1 r2 r3 r4 => lv_lload_n hx hb hd rfl (r3.2.2 _ _ (getL_some hl (by simp)) (by simp)) (k H locs ls r1 r2 r3 r4)
theorem st_lload {X : CX} {M : MX} (C : Ctx X M) {pc : Nat} {L st : List Value} {h : AH} {i : Nat} {x : Int64} (hd : decode M.2.1 pc = .ok (.lload i, 2)) (hl : getL L i = .long x) (k : Wst X (pc + 2, L, .long x :: st) h) : Wst X (pc, L, st) h := by
  obtain ⟨⟨p, l, e, R, s, m, args, below, meth, c, Qm⟩, ⟨B, D, cid, adK, adV⟩, ⟨nL, n0, u0, E1, E2⟩⟩ := X
  obtain ⟨own, cc, mname, dep, scr⟩ := M
  obtain ⟨hx, hb, hml, hown, hts, hK, hstr, hsz, hnm, hroom, hscr⟩ := C
  exact fun H locs ls r1 r2 r3 r4 => lv_lload hx hb hd (r3.2.2 _ _ (getL_some hl (by simp)) (by simp)) (k H locs ls r1 r2 r3 r4)
theorem cv_ref (B : Nat) (adK : Nat → Nat) (r : Nat) : cv B adK (.ref r) = .null ∧ r = 0 ∨ cv B adK (.ref r) = .ref (B + r) ∧ r ≠ 0 := by
  by_cases e : r = 0
  · exact Or.inl ⟨by simp [cv, rfo, e, va_rf], e⟩
  · exact Or.inr ⟨by simp [cv, rfo, e, va_rf], e⟩
theorem st_aload_n {X : CX} {M : MX} (C : Ctx X M) {pc : Nat} {L st : List Value} {h : AH} {i : Fin 4} {r : Nat} (hd : decode M.2.1 pc = .ok (.aload_n i, 1)) (hl : getL L i = .ref r) (k : Wst X (pc + 1, L, .ref r :: st) h) : Wst X (pc, L, st) h := by
  obtain ⟨⟨p, l, e, R, s, m, args, below, meth, c, Qm⟩, ⟨B, D, cid, adK, adV⟩, ⟨nL, n0, u0, E1, E2⟩⟩ := X
  obtain ⟨own, cc, mname, dep, scr⟩ := M
  obtain ⟨hx, hb, hml, hown, hts, hK, hstr, hsz, hnm, hroom, hscr⟩ := C
  intro H locs ls r1 r2 r3 r4
  have k := k H locs ls r1 r2 r3 r4
  have hv := r3.2.2 _ _ (getL_some hl (by simp)) (by simp)
  simp only [List.map_cons] at k
  rcases cv_ref B adK r with ⟨e, -⟩ | ⟨e, -⟩
  · rw [e] at hv k
    exact lv_aload_nN hx hb hd rfl hv k
  · rw [e] at hv k
    exact lv_aload_n hx hb hd rfl hv k
theorem st_aload {X : CX} {M : MX} (C : Ctx X M) {pc : Nat} {L st : List Value} {h : AH} {i : Nat} {r : Nat} (hd : decode M.2.1 pc = .ok (.aload i, 2)) (hl : getL L i = .ref r) (k : Wst X (pc + 2, L, .ref r :: st) h) : Wst X (pc, L, st) h := by
  obtain ⟨⟨p, l, e, R, s, m, args, below, meth, c, Qm⟩, ⟨B, D, cid, adK, adV⟩, ⟨nL, n0, u0, E1, E2⟩⟩ := X
  obtain ⟨own, cc, mname, dep, scr⟩ := M
  obtain ⟨hx, hb, hml, hown, hts, hK, hstr, hsz, hnm, hroom, hscr⟩ := C
  intro H locs ls r1 r2 r3 r4
  have k := k H locs ls r1 r2 r3 r4
  have hv := r3.2.2 _ _ (getL_some hl (by simp)) (by simp)
  simp only [List.map_cons] at k
  rcases cv_ref B adK r with ⟨e, -⟩ | ⟨e, -⟩
  · rw [e] at hv k
    exact lv_aloadN hx hb hd hv k
  · rw [e] at hv k
    exact lv_aload hx hb hd hv k
theorem st_aload_nT {X : CX} {M : MX} (C : Ctx X M) {pc : Nat} {L st : List Value} {h : AH} {i : Fin 4} {r : Nat} (hd : decode M.2.1 pc = .ok (.aload_n i, 1)) (hl : getL L i = .retAddr r) (k : Wst X (pc + 1, L, .retAddr r :: st) h) : Wst X (pc, L, st) h := by
  obtain ⟨⟨p, l, e, R, s, m, args, below, meth, c, Qm⟩, ⟨B, D, cid, adK, adV⟩, ⟨nL, n0, u0, E1, E2⟩⟩ := X
  obtain ⟨own, cc, mname, dep, scr⟩ := M
  obtain ⟨hx, hb, hml, hown, hts, hK, hstr, hsz, hnm, hroom, hscr⟩ := C
  exact fun H locs ls r1 r2 r3 r4 => lv_aload_n hx hb hd rfl (r3.2.2 _ _ (getL_some hl (by simp)) (by simp)) (k H locs ls r1 r2 r3 r4)
theorem st_istore_n {X : CX} {M : MX} (C : Ctx X M) {pc : Nat} {L st : List Value} {h : AH} {i : Fin 4} {x : Int32} (hd : decode M.2.1 pc = .ok (.istore_n i, 1)) (hi : (i : Nat) < X.2.2.1) (k : Wst X (pc + 1, stL L i (.int x), st) h) : Wst X (pc, L, .int x :: st) h := by
  obtain ⟨⟨p, l, e, R, s, m, args, below, meth, c, Qm⟩, ⟨B, D, cid, adK, adV⟩, ⟨nL, n0, u0, E1, E2⟩⟩ := X
  obtain ⟨own, cc, mname, dep, scr⟩ := M
  obtain ⟨hx, hb, hml, hown, hts, hK, hstr, hsz, hnm, hroom, hscr⟩ := C
  exact fun H locs ls r1 r2 r3 r4 => lv_istore_n hx hb hd rfl (ents_has r3) hi rfl (fun ls' hl => k H locs ls' r1 r2 (lrel_st rfl hl) r4)
theorem st_istore {X : CX} {M : MX} (C : Ctx X M) {pc : Nat} {L st : List Value} {h : AH} {i : Nat} {x : Int32} (hd : decode M.2.1 pc = .ok (.istore i, 2)) (hi : i < X.2.2.1) (k : Wst X (pc + 2, stL L i (.int x), st) h) : Wst X (pc, L, .int x :: st) h := by
  obtain ⟨⟨p, l, e, R, s, m, args, below, meth, c, Qm⟩, ⟨B, D, cid, adK, adV⟩, ⟨nL, n0, u0, E1, E2⟩⟩ := X
  obtain ⟨own, cc, mname, dep, scr⟩ := M
  obtain ⟨hx, hb, hml, hown, hts, hK, hstr, hsz, hnm, hroom, hscr⟩ := C
  exact fun H locs ls r1 r2 r3 r4 => lv_istore hx hb hd (ents_has r3) hi rfl (fun ls' hl => k H locs ls' r1 r2 (lrel_st rfl hl) r4)
theorem st_lstore_n {X : CX} {M : MX} (C : Ctx X M) {pc : Nat} {L st : List Value} {h : AH} {i : Fin 4} {x : Int64} (hd : decode M.2.1 pc = .ok (.lstore_n i, 1)) (hi : (i : Nat) + 1 < X.2.2.1) (k : Wst X (pc + 1, stL2 L i (.long x), st) h) : Wst X (pc, L, .long x :: st) h := by
  obtain ⟨⟨p, l, e, R, s, m, args, below, meth, c, Qm⟩, ⟨B, D, cid, adK, adV⟩, ⟨nL, n0, u0, E1, E2⟩⟩ := X
  obtain ⟨own, cc, mname, dep, scr⟩ := M
  obtain ⟨hx, hb, hml, hown, hts, hK, hstr, hsz, hnm, hroom, hscr⟩ := C
  exact fun H locs ls r1 r2 r3 r4 => lv_lstore_n hx hb hd rfl (ents_has r3) hi rfl (fun ls' hl => k H locs ls' r1 r2 (lrel_st2 rfl hl) r4)
theorem st_lstore {X : CX} {M : MX} (C : Ctx X M) {pc : Nat} {L st : List Value} {h : AH} {i : Nat} {x : Int64} (hd : decode M.2.1 pc = .ok (.lstore i, 2)) (hi : i + 1 < X.2.2.1) (k : Wst X (pc + 2, stL2 L i (.long x), st) h) : Wst X (pc, L, .long x :: st) h := by
  obtain ⟨⟨p, l, e, R, s, m, args, below, meth, c, Qm⟩, ⟨B, D, cid, adK, adV⟩, ⟨nL, n0, u0, E1, E2⟩⟩ := X
  obtain ⟨own, cc, mname, dep, scr⟩ := M
  obtain ⟨hx, hb, hml, hown, hts, hK, hstr, hsz, hnm, hroom, hscr⟩ := C
  exact fun H locs ls r1 r2 r3 r4 => lv_lstore hx hb hd (ents_has r3) hi rfl (fun ls' hl => k H locs ls' r1 r2 (lrel_st2 rfl hl) r4)
theorem st_astore_n {X : CX} {M : MX} (C : Ctx X M) {pc : Nat} {L st : List Value} {h : AH} {i : Fin 4} {r : Nat} (hd : decode M.2.1 pc = .ok (.astore_n i, 1)) (hi : (i : Nat) < X.2.2.1) (k : Wst X (pc + 1, stL L i (.ref r), st) h) : Wst X (pc, L, .ref r :: st) h := by
  obtain ⟨⟨p, l, e, R, s, m, args, below, meth, c, Qm⟩, ⟨B, D, cid, adK, adV⟩, ⟨nL, n0, u0, E1, E2⟩⟩ := X
  obtain ⟨own, cc, mname, dep, scr⟩ := M
  obtain ⟨hx, hb, hml, hown, hts, hK, hstr, hsz, hnm, hroom, hscr⟩ := C
  intro H locs ls r1 r2 r3 r4
  simp only [List.map_cons]
  rcases cv_ref B adK r with ⟨e, -⟩ | ⟨e, -⟩
  · rw [e]
    exact lv_astore_nN hx hb hd rfl (ents_has r3) hi rfl (fun ls' hl => k H locs ls' r1 r2 (lrel_st e hl) r4)
  · rw [e]
    exact lv_astore_n hx hb hd rfl (ents_has r3) hi rfl (fun ls' hl => k H locs ls' r1 r2 (lrel_st e hl) r4)
theorem st_astore {X : CX} {M : MX} (C : Ctx X M) {pc : Nat} {L st : List Value} {h : AH} {i : Nat} {r : Nat} (hd : decode M.2.1 pc = .ok (.astore i, 2)) (hi : i < X.2.2.1) (k : Wst X (pc + 2, stL L i (.ref r), st) h) : Wst X (pc, L, .ref r :: st) h := by
  obtain ⟨⟨p, l, e, R, s, m, args, below, meth, c, Qm⟩, ⟨B, D, cid, adK, adV⟩, ⟨nL, n0, u0, E1, E2⟩⟩ := X
  obtain ⟨own, cc, mname, dep, scr⟩ := M
  obtain ⟨hx, hb, hml, hown, hts, hK, hstr, hsz, hnm, hroom, hscr⟩ := C
  intro H locs ls r1 r2 r3 r4
  simp only [List.map_cons]
  rcases cv_ref B adK r with ⟨e, -⟩ | ⟨e, -⟩
  · rw [e]
    exact lv_astoreN hx hb hd (ents_has r3) hi rfl (fun ls' hl => k H locs ls' r1 r2 (lrel_st e hl) r4)
  · rw [e]
    exact lv_astore hx hb hd (ents_has r3) hi rfl (fun ls' hl => k H locs ls' r1 r2 (lrel_st e hl) r4)
theorem st_iinc {X : CX} {M : MX} (C : Ctx X M) {pc : Nat} {L st : List Value} {h : AH} {i : Nat} {n : Int} {x v : Int32} (hd : decode M.2.1 pc = .ok (.iinc i n, 3)) (hi : i < X.2.2.1) (hv : Int32.ofInt n = v) (hl : getL L i = .int x) (k : Wst X (pc + 3, stL L i (.int (x + v)), st) h) : Wst X (pc, L, st) h := by
  obtain ⟨⟨p, l, e, R, s, m, args, below, meth, c, Qm⟩, ⟨B, D, cid, adK, adV⟩, ⟨nL, n0, u0, E1, E2⟩⟩ := X
  obtain ⟨own, cc, mname, dep, scr⟩ := M
  obtain ⟨hx, hb, hml, hown, hts, hK, hstr, hsz, hnm, hroom, hscr⟩ := C
  intro H locs ls r1 r2 r3 r4
  obtain ⟨j, hj⟩ := List.getElem?_of_mem (ents_in (B := B) (adK := adK) (getL_some hl (by simp)) (by simp))
  exact lv_iinc hx hb hd (ents_has r3) hj (by rw [hv]) hi rfl (fun ls' hl => k H locs ls' r1 r2 (lrel_st rfl hl) r4)
theorem st_if_eq {X : CX} {M : MX} (C : Ctx X M) {pc : Nat} {L st : List Value} {h : AH} {x : Int32} {off : Int} {tgt : Nat} (hd : decode M.2.1 pc = .ok (.ifCond .eq off, 3)) (ht : (pc : Int) + off = (tgt : Int)) (kt : x = 0 → Wst X (tgt, L, st) h) (kf : ¬ x = 0 → Wst X (pc + 3, L, st) h) : Wst X (pc, L, .int x :: st) h := by
  obtain ⟨⟨p, l, e, R, s, m, args, below, meth, c, Qm⟩, ⟨B, D, cid, adK, adV⟩, ⟨nL, n0, u0, E1, E2⟩⟩ := X
  obtain ⟨own, cc, mname, dep, scr⟩ := M
  obtain ⟨hx, hb, hml, hown, hts, hK, hstr, hsz, hnm, hroom, hscr⟩ := C
  exact fun H locs ls r1 r2 r3 r4 => lv_if_eq hx hb hd ht (fun q => kt q H locs ls r1 r2 r3 r4) (fun q => kf q H locs ls r1 r2 r3 r4)
theorem st_if_ne {X : CX} {M : MX} (C : Ctx X M) {pc : Nat} {L st : List Value} {h : AH} {x : Int32} {off : Int} {tgt : Nat} (hd : decode M.2.1 pc = .ok (.ifCond .ne off, 3)) (ht : (pc : Int) + off = (tgt : Int)) (kt : ¬ x = 0 → Wst X (tgt, L, st) h) (kf : x = 0 → Wst X (pc + 3, L, st) h) : Wst X (pc, L, .int x :: st) h := by
  obtain ⟨⟨p, l, e, R, s, m, args, below, meth, c, Qm⟩, ⟨B, D, cid, adK, adV⟩, ⟨nL, n0, u0, E1, E2⟩⟩ := X
  obtain ⟨own, cc, mname, dep, scr⟩ := M
  obtain ⟨hx, hb, hml, hown, hts, hK, hstr, hsz, hnm, hroom, hscr⟩ := C
  exact fun H locs ls r1 r2 r3 r4 => lv_if_ne hx hb hd ht (fun q => kt q H locs ls r1 r2 r3 r4) (fun q => kf q H locs ls r1 r2 r3 r4)
theorem st_if_lt {X : CX} {M : MX} (C : Ctx X M) {pc : Nat} {L st : List Value} {h : AH} {x : Int32} {off : Int} {tgt : Nat} (hd : decode M.2.1 pc = .ok (.ifCond .lt off, 3)) (ht : (pc : Int) + off = (tgt : Int)) (kt : x < 0 → Wst X (tgt, L, st) h) (kf : ¬ x < 0 → Wst X (pc + 3, L, st) h) : Wst X (pc, L, .int x :: st) h := by
  obtain ⟨⟨p, l, e, R, s, m, args, below, meth, c, Qm⟩, ⟨B, D, cid, adK, adV⟩, ⟨nL, n0, u0, E1, E2⟩⟩ := X
  obtain ⟨own, cc, mname, dep, scr⟩ := M
  obtain ⟨hx, hb, hml, hown, hts, hK, hstr, hsz, hnm, hroom, hscr⟩ := C
  exact fun H locs ls r1 r2 r3 r4 => lv_if_lt hx hb hd ht (fun q => kt q H locs ls r1 r2 r3 r4) (fun q => kf q H locs ls r1 r2 r3 r4)
theorem st_if_ge {X : CX} {M : MX} (C : Ctx X M) {pc : Nat} {L st : List Value} {h : AH} {x : Int32} {off : Int} {tgt : Nat} (hd : decode M.2.1 pc = .ok (.ifCond .ge off, 3)) (ht : (pc : Int) + off = (tgt : Int)) (kt : 0 ≤ x → Wst X (tgt, L, st) h) (kf : ¬ 0 ≤ x → Wst X (pc + 3, L, st) h) : Wst X (pc, L, .int x :: st) h := by
  obtain ⟨⟨p, l, e, R, s, m, args, below, meth, c, Qm⟩, ⟨B, D, cid, adK, adV⟩, ⟨nL, n0, u0, E1, E2⟩⟩ := X
  obtain ⟨own, cc, mname, dep, scr⟩ := M
  obtain ⟨hx, hb, hml, hown, hts, hK, hstr, hsz, hnm, hroom, hscr⟩ := C
  exact fun H locs ls r1 r2 r3 r4 => lv_if_ge hx hb hd ht (fun q => kt q H locs ls r1 r2 r3 r4) (fun q => kf q H locs ls r1 r2 r3 r4)
theorem st_if_gt {X : CX} {M : MX} (C : Ctx X M) {pc : Nat} {L st : List Value} {h : AH} {x : Int32} {off : Int} {tgt : Nat} (hd : decode M.2.1 pc = .ok (.ifCond .gt off, 3)) (ht : (pc : Int) + off = (tgt : Int)) (kt : 0 < x → Wst X (tgt, L, st) h) (kf : ¬ 0 < x → Wst X (pc + 3, L, st) h) : Wst X (pc, L, .int x :: st) h := by
  obtain ⟨⟨p, l, e, R, s, m, args, below, meth, c, Qm⟩, ⟨B, D, cid, adK, adV⟩, ⟨nL, n0, u0, E1, E2⟩⟩ := X
  obtain ⟨own, cc, mname, dep, scr⟩ := M
  obtain ⟨hx, hb, hml, hown, hts, hK, hstr, hsz, hnm, hroom, hscr⟩ := C
  exact fun H locs ls r1 r2 r3 r4 => lv_if_gt hx hb hd ht (fun q => kt q H locs ls r1 r2 r3 r4) (fun q => kf q H locs ls r1 r2 r3 r4)
theorem st_if_le {X : CX} {M : MX} (C : Ctx X M) {pc : Nat} {L st : List Value} {h : AH} {x : Int32} {off : Int} {tgt : Nat} (hd : decode M.2.1 pc = .ok (.ifCond .le off, 3)) (ht : (pc : Int) + off = (tgt : Int)) (kt : x ≤ 0 → Wst X (tgt, L, st) h) (kf : ¬ x ≤ 0 → Wst X (pc + 3, L, st) h) : Wst X (pc, L, .int x :: st) h := by
  obtain ⟨⟨p, l, e, R, s, m, args, below, meth, c, Qm⟩, ⟨B, D, cid, adK, adV⟩, ⟨nL, n0, u0, E1, E2⟩⟩ := X
  obtain ⟨own, cc, mname, dep, scr⟩ := M
  obtain ⟨hx, hb, hml, hown, hts, hK, hstr, hsz, hnm, hroom, hscr⟩ := C
  exact fun H locs ls r1 r2 r3 r4 => lv_if_le hx hb hd ht (fun q => kt q H locs ls r1 r2 r3 r4) (fun q => kf q H locs ls r1 r2 r3 r4)
theorem st_icmp_eq {X : CX} {M : MX} (C : Ctx X M) {pc : Nat} {L st : List Value} {h : AH} {x y : Int32} {off : Int} {tgt : Nat} (hd : decode M.2.1 pc = .ok (.if_icmp .eq off, 3)) (ht : (pc : Int) + off = (tgt : Int)) (kt : x = y → Wst X (tgt, L, st) h) (kf : ¬ x = y → Wst X (pc + 3, L, st) h) : Wst X (pc, L, .int y :: .int x :: st) h := by
  obtain ⟨⟨p, l, e, R, s, m, args, below, meth, c, Qm⟩, ⟨B, D, cid, adK, adV⟩, ⟨nL, n0, u0, E1, E2⟩⟩ := X
  obtain ⟨own, cc, mname, dep, scr⟩ := M
  obtain ⟨hx, hb, hml, hown, hts, hK, hstr, hsz, hnm, hroom, hscr⟩ := C
  exact fun H locs ls r1 r2 r3 r4 => lv_icmp_eq hx hb hd ht (fun q => kt q H locs ls r1 r2 r3 r4) (fun q => kf q H locs ls r1 r2 r3 r4)
theorem st_icmp_ne {X : CX} {M : MX} (C : Ctx X M) {pc : Nat} {L st : List Value} {h : AH} {x y : Int32} {off : Int} {tgt : Nat} (hd : decode M.2.1 pc = .ok (.if_icmp .ne off, 3)) (ht : (pc : Int) + off = (tgt : Int)) (kt : ¬ x = y → Wst X (tgt, L, st) h) (kf : x = y → Wst X (pc + 3, L, st) h) : Wst X (pc, L, .int y :: .int x :: st) h := by
  obtain ⟨⟨p, l, e, R, s, m, args, below, meth, c, Qm⟩, ⟨B, D, cid, adK, adV⟩, ⟨nL, n0, u0, E1, E2⟩⟩ := X
  obtain ⟨own, cc, mname, dep, scr⟩ := M
  obtain ⟨hx, hb, hml, hown, hts, hK, hstr, hsz, hnm, hroom, hscr⟩ := C
  exact fun H locs ls r1 r2 r3 r4 => lv_icmp_ne hx hb hd ht (fun q => kt q H locs ls r1 r2 r3 r4) (fun q => kf q H locs ls r1 r2 r3 r4)
theorem st_icmp_lt {X : CX} {M : MX} (C : Ctx X M) {pc : Nat} {L st : List Value} {h : AH} {x y : Int32} {off : Int} {tgt : Nat} (hd : decode M.2.1 pc = .ok (.if_icmp .lt off, 3)) (ht : (pc : Int) + off = (tgt : Int)) (kt : x < y → Wst X (tgt, L, st) h) (kf : ¬ x < y → Wst X (pc + 3, L, st) h) : Wst X (pc, L, .int y :: .int x :: st) h := by
  obtain ⟨⟨p, l, e, R, s, m, args, below, meth, c, Qm⟩, ⟨B, D, cid, adK, adV⟩, ⟨nL, n0, u0, E1, E2⟩⟩ := X
  obtain ⟨own, cc, mname, dep, scr⟩ := M
  obtain ⟨hx, hb, hml, hown, hts, hK, hstr, hsz, hnm, hroom, hscr⟩ := C
  exact fun H locs ls r1 r2 r3 r4 => lv_icmp_lt hx hb hd ht (fun q => kt q H locs ls r1 r2 r3 r4) (fun q => kf q H locs ls r1 r2 r3 r4)
theorem st_icmp_ge {X : CX} {M : MX} (C : Ctx X M) {pc : Nat} {L st : List Value} {h : AH} {x y : Int32} {off : Int} {tgt : Nat} (hd : decode M.2.1 pc = .ok (.if_icmp .ge off, 3)) (ht : (pc : Int) + off = (tgt : Int)) (kt : y ≤ x → Wst X (tgt, L, st) h) (kf : ¬ y ≤ x → Wst X (pc + 3, L, st) h) : Wst X (pc, L, .int y :: .int x :: st) h := by
  obtain ⟨⟨p, l, e, R, s, m, args, below, meth, c, Qm⟩, ⟨B, D, cid, adK, adV⟩, ⟨nL, n0, u0, E1, E2⟩⟩ := X
  obtain ⟨own, cc, mname, dep, scr⟩ := M
  obtain ⟨hx, hb, hml, hown, hts, hK, hstr, hsz, hnm, hroom, hscr⟩ := C
  exact fun H locs ls r1 r2 r3 r4 => lv_icmp_ge hx hb hd ht (fun q => kt q H locs ls r1 r2 r3 r4) (fun q => kf q H locs ls r1 r2 r3 r4)
theorem st_icmp_gt {X : CX} {M : MX} (C : Ctx X M) {pc : Nat} {L st : List Value} {h : AH} {x y : Int32} {off : Int} {tgt : Nat} (hd : decode M.2.1 pc = .ok (.if_icmp .gt off, 3)) (ht : (pc : Int) + off = (tgt : Int)) (kt : y < x → Wst X (tgt, L, st) h) (kf : ¬ y < x → Wst X (pc + 3, L, st) h) : Wst X (pc, L, .int y :: .int x :: st) h := by
  obtain ⟨⟨p, l, e, R, s, m, args, below, meth, c, Qm⟩, ⟨B, D, cid, adK, adV⟩, ⟨nL, n0, u0, E1, E2⟩⟩ := X
  obtain ⟨own, cc, mname, dep, scr⟩ := M
  obtain ⟨hx, hb, hml, hown, hts, hK, hstr, hsz, hnm, hroom, hscr⟩ := C
  exact fun H locs ls r1 r2 r3 r4 => lv_icmp_gt hx hb hd ht (fun q => kt q H locs ls r1 r2 r3 r4) (fun q => kf q H locs ls r1 r2 r3 r4)
theorem st_icmp_le {X : CX} {M : MX} (C : Ctx X M) {pc : Nat} {L st : List Value} {h : AH} {x y : Int32} {off : Int} {tgt : Nat} (hd : decode M.2.1 pc = .ok (.if_icmp .le off, 3)) (ht : (pc : Int) + off = (tgt : Int)) (kt : x ≤ y → Wst X (tgt, L, st) h) (kf : ¬ x ≤ y → Wst X (pc + 3, L, st) h) : Wst X (pc, L, .int y :: .int x :: st) h := by
  obtain ⟨⟨p, l, e, R, s, m, args, below, meth, c, Qm⟩, ⟨B, D, cid, adK, adV⟩, ⟨nL, n0, u0, E1, E2⟩⟩ := X
  obtain ⟨own, cc, mname, dep, scr⟩ := M
  obtain ⟨hx, hb, hml, hown, hts, hK, hstr, hsz, hnm, hroom, hscr⟩ := C
  exact fun H locs ls r1 r2 r3 r4 => lv_icmp_le hx hb hd ht (fun q => kt q H locs ls r1 r2 r3 r4) (fun q => kf q H locs ls r1 r2 r3 r4)
theorem st_goto {X : CX} {M : MX} (C : Ctx X M) {pc : Nat} {L st : List Value} {h : AH} {off : Int} {tgt : Nat} (hd : decode M.2.1 pc = .ok (.goto off, 3)) (ht : (pc : Int) + off = (tgt : Int)) (k : Wst X (tgt, L, st) h) : Wst X (pc, L, st) h := by
  obtain ⟨⟨p, l, e, R, s, m, args, below, meth, c, Qm⟩, ⟨B, D, cid, adK, adV⟩, ⟨nL, n0, u0, E1, E2⟩⟩ := X
  obtain ⟨own, cc, mname, dep, scr⟩ := M
  obtain ⟨hx, hb, hml, hown, hts, hK, hstr, hsz, hnm, hroom, hscr⟩ := C
  exact fun H locs ls r1 r2 r3 r4 => lv_goto hx hb hd ht (k H locs ls r1 r2 r3 r4)
theorem st_ifnull {X : CX} {M : MX} (C : Ctx X M) {pc : Nat} {L st : List Value} {h : AH} {r : Nat} {off : Int} {tgt : Nat} (hd : decode M.2.1 pc = .ok (.ifnull off, 3)) (ht : (pc : Int) + off = (tgt : Int)) (kt : r = 0 → Wst X (tgt, L, st) h) (kf : ¬ r = 0 → Wst X (pc + 3, L, st) h) : Wst X (pc, L, .ref r :: st) h := by
  obtain ⟨⟨p, l, e, R, s, m, args, below, meth, c, Qm⟩, ⟨B, D, cid, adK, adV⟩, ⟨nL, n0, u0, E1, E2⟩⟩ := X
  obtain ⟨own, cc, mname, dep, scr⟩ := M
  obtain ⟨hx, hb, hml, hown, hts, hK, hstr, hsz, hnm, hroom, hscr⟩ := C
  intro H locs ls r1 r2 r3 r4
  simp only [List.map_cons]
  rcases cv_ref B adK r with ⟨e, z⟩ | ⟨e, z⟩
  · rw [e]; exact lv_ifnullN hx hb hd ht (kt z H locs ls r1 r2 r3 r4)
  · rw [e]; exact lv_ifnull hx hb hd (kf z H locs ls r1 r2 r3 r4)
theorem st_ifnonnull {X : CX} {M : MX} (C : Ctx X M) {pc : Nat} {L st : List Value} {h : AH} {r : Nat} {off : Int} {tgt : Nat} (hd : decode M.2.1 pc = .ok (.ifnonnull off, 3)) (ht : (pc : Int) + off = (tgt : Int)) (kt : ¬ r = 0 → Wst X (tgt, L, st) h) (kf : r = 0 → Wst X (pc + 3, L, st) h) : Wst X (pc, L, .ref r :: st) h := by
  obtain ⟨⟨p, l, e, R, s, m, args, below, meth, c, Qm⟩, ⟨B, D, cid, adK, adV⟩, ⟨nL, n0, u0, E1, E2⟩⟩ := X
  obtain ⟨own, cc, mname, dep, scr⟩ := M
  obtain ⟨hx, hb, hml, hown, hts, hK, hstr, hsz, hnm, hroom, hscr⟩ := C
  intro H locs ls r1 r2 r3 r4
  simp only [List.map_cons]
  rcases cv_ref B adK r with ⟨e, z⟩ | ⟨e, z⟩
  · rw [e]; exact lv_ifnonnullN hx hb hd (kf z H locs ls r1 r2 r3 r4)
  · rw [e]; exact lv_ifnonnull hx hb hd ht (kt z H locs ls r1 r2 r3 r4)
theorem st_ldc {X : CX} {M : MX} (C : Ctx X M) {pc : Nat} {L st : List Value} {h : AH} {i : Nat} {v : Int32} (hd : decode M.2.1 pc = .ok (.ldc i, 2)) (hw : Cond.constant M.1 i v ∈ lw_g) (k : Wst X (pc + 2, L, .int v :: st) h) : Wst X (pc, L, st) h := by
  obtain ⟨⟨p, l, e, R, s, m, args, below, meth, c, Qm⟩, ⟨B, D, cid, adK, adV⟩, ⟨nL, n0, u0, E1, E2⟩⟩ := X
  obtain ⟨own, cc, mname, dep, scr⟩ := M
  obtain ⟨hx, hb, hml, hown, hts, hK, hstr, hsz, hnm, hroom, hscr⟩ := C
  exact fun H locs ls r1 r2 r3 r4 => lv_ldc hx hb hown (hts _ hw) hd (k H locs ls r1 r2 r3 r4)
theorem st_ldcw {X : CX} {M : MX} (C : Ctx X M) {pc : Nat} {L st : List Value} {h : AH} {i : Nat} {v : Int32} (hd : decode M.2.1 pc = .ok (.ldc_w i, 3)) (hw : Cond.constant M.1 i v ∈ lw_g) (k : Wst X (pc + 3, L, .int v :: st) h) : Wst X (pc, L, st) h := by
  obtain ⟨⟨p, l, e, R, s, m, args, below, meth, c, Qm⟩, ⟨B, D, cid, adK, adV⟩, ⟨nL, n0, u0, E1, E2⟩⟩ := X
  obtain ⟨own, cc, mname, dep, scr⟩ := M
  obtain ⟨hx, hb, hml, hown, hts, hK, hstr, hsz, hnm, hroom, hscr⟩ := C
  exact fun H locs ls r1 r2 r3 r4 => lv_ldcw hx hb hown (hts _ hw) hd (k H locs ls r1 r2 r3 r4)
theorem st_ldc2 {X : CX} {M : MX} (C : Ctx X M) {pc : Nat} {L st : List Value} {h : AH} {i : Nat} {v : Int64} (hd : decode M.2.1 pc = .ok (.ldc2_w i, 3)) (hw : Cond.constantLong M.1 i v ∈ lw_g) (k : Wst X (pc + 3, L, .long v :: st) h) : Wst X (pc, L, st) h := by
  obtain ⟨⟨p, l, e, R, s, m, args, below, meth, c, Qm⟩, ⟨B, D, cid, adK, adV⟩, ⟨nL, n0, u0, E1, E2⟩⟩ := X
  obtain ⟨own, cc, mname, dep, scr⟩ := M
  obtain ⟨hx, hb, hml, hown, hts, hK, hstr, hsz, hnm, hroom, hscr⟩ := C
  exact fun H locs ls r1 r2 r3 r4 => lv_ldc2 hx hb hown (hts _ hw) hd (k H locs ls r1 r2 r3 r4)
theorem st_ldcS {X : CX} {M : MX} (C : Ctx X M) {pc : Nat} {L st : List Value} {h : AH} {i j : Nat} {tx : String} (hd : decode M.2.1 pc = .ok (.ldc i, 2)) (hw : strs[j]? = some (M.1, i, tx)) (k : Wst X (pc + 2, L, .retAddr j :: st) h) : Wst X (pc, L, st) h := by
  obtain ⟨⟨p, l, e, R, s, m, args, below, meth, c, Qm⟩, ⟨B, D, cid, adK, adV⟩, ⟨nL, n0, u0, E1, E2⟩⟩ := X
  obtain ⟨own, cc, mname, dep, scr⟩ := M
  obtain ⟨hx, hb, hml, hown, hts, hK, hstr, hsz, hnm, hroom, hscr⟩ := C
  exact fun H locs ls r1 r2 r3 r4 => va_ldcS hx hb hown (hstr.2.1 _ _ hw) hd (k H locs ls r1 r2 r3 r4)
theorem st_ldcwS {X : CX} {M : MX} (C : Ctx X M) {pc : Nat} {L st : List Value} {h : AH} {i j : Nat} {tx : String} (hd : decode M.2.1 pc = .ok (.ldc_w i, 3)) (hw : strs[j]? = some (M.1, i, tx)) (k : Wst X (pc + 3, L, .retAddr j :: st) h) : Wst X (pc, L, st) h := by
  obtain ⟨⟨p, l, e, R, s, m, args, below, meth, c, Qm⟩, ⟨B, D, cid, adK, adV⟩, ⟨nL, n0, u0, E1, E2⟩⟩ := X
  obtain ⟨own, cc, mname, dep, scr⟩ := M
  obtain ⟨hx, hb, hml, hown, hts, hK, hstr, hsz, hnm, hroom, hscr⟩ := C
  intro H locs ls r1 r2 r3 r4 T hT Xs
  obtain ⟨t, a1, b1⟩ := k H locs ls r1 r2 r3 r4 T hT Xs
  have hZ := hstr.2.1 _ _ hw
  exact ⟨t, Xs.ldcStringW hx hown (text := tx) (a := adK j) hZ.1 hZ.2 (g := F0 m pc ls (st.map (cv B adK))) rfl (by rw [hb]; exact hd) t a1, b1⟩
