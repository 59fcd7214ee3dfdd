/-! The executor: what must hold at a place of a method's code, as a proposition; K: at the next place; Rt: at a return; cut places end a run. -/
abbrev AI : Type := Nat × Instr × Nat × Value × Nat × Nat × Nat × List (Int32 × Nat)
def pI (st : List Value) (k : Int32 → List Value → Prop) : Prop := match st with
  | .int x :: st => k x st
  | _ => False
def pL (st : List Value) (k : Int64 → List Value → Prop) : Prop := match st with
  | .long x :: st => k x st
  | _ => False
def pR (st : List Value) (k : Nat → List Value → Prop) : Prop := match st with
  | .ref x :: st => k x st
  | _ => False
/-- a value of one word -/
def pV (st : List Value) (k : Value → List Value → Prop) : Prop := match st with
  | .int x :: st => k (.int x) st
  | .ref x :: st => k (.ref x) st
  | .retAddr x :: st => k (.retAddr x) st
  | _ => False
def gI (v : Value) (k : Int32 → Prop) : Prop := match v with
  | .int x => k x
  | _ => False
def gL (v : Value) (k : Int64 → Prop) : Prop := match v with
  | .long x => k x
  | _ => False
def gR (v : Value) (k : Nat → Prop) (t : Nat → Prop) : Prop := match v with
  | .ref x => k x
  | .retAddr x => t x
  | _ => False
theorem pI_inv {st : List Value} {k : Int32 → List Value → Prop} (h : pI st k) : ∃ x st', st = .int x :: st' ∧ k x st' := by
  unfold pI at h; split at h
  · exact ⟨_, _, rfl, h⟩
  · exact h.elim
theorem pL_inv {st : List Value} {k : Int64 → List Value → Prop} (h : pL st k) : ∃ x st', st = .long x :: st' ∧ k x st' := by
  unfold pL at h; split at h
  · exact ⟨_, _, rfl, h⟩
  · exact h.elim
theorem pR_inv {st : List Value} {k : Nat → List Value → Prop} (h : pR st k) : ∃ x st', st = .ref x :: st' ∧ k x st' := by
  unfold pR at h; split at h
  · exact ⟨_, _, rfl, h⟩
  · exact h.elim
theorem pV_inv {st : List Value} {k : Value → List Value → Prop} (h : pV st k) : ∃ v st', st = v :: st' ∧ v.category = 1 ∧ k v st' := by
  unfold pV at h; split at h
  · exact ⟨_, _, rfl, rfl, h⟩
  · exact ⟨_, _, rfl, rfl, h⟩
  · exact ⟨_, _, rfl, rfl, h⟩
  · exact h.elim
theorem gI_inv {v : Value} {k : Int32 → Prop} (h : gI v k) : ∃ x, v = .int x ∧ k x := by
  unfold gI at h; split at h
  · exact ⟨_, rfl, h⟩
  · exact h.elim
theorem gL_inv {v : Value} {k : Int64 → Prop} (h : gL v k) : ∃ x, v = .long x ∧ k x := by
  unfold gL at h; split at h
  · exact ⟨_, rfl, h⟩
  · exact h.elim
theorem gR_inv {v : Value} {k t : Nat → Prop} (h : gR v k t) : (∃ x, v = .ref x ∧ k x) ∨ ∃ x, v = .retAddr x ∧ t x := by
  unfold gR at h; split at h
  · exact Or.inl ⟨_, rfl, h⟩
  · exact Or.inr ⟨_, rfl, h⟩
  · exact h.elim
/-- a call: by the method's number -/
def Calls (d y : Nat) (as : List Value) (h : AH) (E1 E2 : Nat) (Q : Option Value → AH → Prop) : Prop := ∃ q, mtl[y]? = some q ∧ CallsM d q as h E1 E2 Q
/-- a call that makes no cells, or one that makes some -/
def clK (d E1 E2 : Nat) (f : Value) (y : Nat) (as : List Value) (h : AH) (Q : Option Value → AH → Prop) : Prop := match f with
  | .int _ => Calls d y as h (hN h) (hU h) Q
  | _ => ∃ F1 F2, F1 ≤ E1 ∧ F2 ≤ E2 ∧ Calls d y as h F1 F2 Q
def clsOf (y : Nat) : Nat := match mtl[y]? with
  | some q => q.2.2.2.2.1
  | none => 0
/-- what a call answered: nothing, an int, a long, a cell, a text -/
def rV (r : Option Value) (k : Prop) : Prop := match r with
  | none => k
  | _ => False
def rI (r : Option Value) (k : Int32 → Prop) : Prop := match r with
  | some (.int x) => k x
  | _ => False
def rL (r : Option Value) (k : Int64 → Prop) : Prop := match r with
  | some (.long x) => k x
  | _ => False
def rR (r : Option Value) (k : Nat → Prop) : Prop := match r with
  | some (.ref x) => k x
  | _ => False
def rT (r : Option Value) (k : Nat → Prop) : Prop := match r with
  | some (.retAddr x) => k x
  | _ => False
def rK (n : Nat) (r : Option Value) (F : List Value → Prop) : Prop := match n with
  | 0 => rV r (F [])
  | 1 => rI r fun x => F [.int x]
  | 2 => rL r fun x => F [.long x]
  | 3 => rR r fun x => F [.ref x]
  | _ => rT r fun x => F [.retAddr x]
theorem rK_ok {n : Nat} {r : Option Value} {F : List Value → Prop} (h : rK n r F) : F r.toList := by
  unfold rK at h
  split at h
  · unfold rV at h; split at h
    · exact h
    · exact h.elim
  · unfold rI at h; split at h
    · exact h
    · exact h.elim
  · unfold rL at h; split at h
    · exact h
    · exact h.elim
  · unfold rR at h; split at h
    · exact h
    · exact h.elim
  · unfold rT at h; split at h
    · exact h
    · exact h.elim
/-- a new heap gets a name -/
def lH (e : AH) (K : AH → Prop) : Prop := ∀ h' : AH, h' = e → K h'
theorem lH_use {e : AH} {K : AH → Prop} (h : lH e K) : K e := h e rfl
def stp (d E1 E2 : Nat) (scr : Option (Nat × (Nat → Int32))) (K : Fr → AH → Prop) (Rt : Option Value → AH → Prop) (pc : Nat) (ins : Instr) (rv : Value) (r1 r2 : Nat) (sw : List (Int32 × Nat)) (L st : List Value) (h : AH) : Prop := match ins with
  | .iconst _ => gI rv fun v => K (pc + 1, L, .int v :: st) h
  | .bipush _ => gI rv fun v => K (pc + 2, L, .int v :: st) h
  | .sipush _ => gI rv fun v => K (pc + 3, L, .int v :: st) h
  | .lconst _ => gL rv fun v => K (pc + 1, L, .long v :: st) h
  | .aconst_null => K (pc + 1, L, .ref 0 :: st) h
  | .ldc _ => match rv with
    | .int v => K (pc + 2, L, .int v :: st) h
    | .retAddr j => K (pc + 2, L, .retAddr j :: st) h
    | _ => False
  | .ldc_w _ => match rv with
    | .int v => K (pc + 3, L, .int v :: st) h
    | .retAddr j => K (pc + 3, L, .retAddr j :: st) h
    | _ => False
  | .ldc2_w _ => gL rv fun v => K (pc + 3, L, .long v :: st) h
  | .iload_n i => gI (getL L i) fun x => K (pc + 1, L, .int x :: st) h
  | .iload i => gI (getL L i) fun x => K (pc + 2, L, .int x :: st) h
  | .lload_n i => gL (getL L i) fun x => K (pc + 1, L, .long x :: st) h
  | .lload i => gL (getL L i) fun x => K (pc + 2, L, .long x :: st) h
  | .aload_n i => gR (getL L i) (fun x => K (pc + 1, L, .ref x :: st) h) (fun x => K (pc + 1, L, .retAddr x :: st) h)
  | .aload i => gR (getL L i) (fun x => K (pc + 2, L, .ref x :: st) h) (fun _ => False)
  | .istore_n i => pI st fun x st => K (pc + 1, stL L i (.int x), st) h
  | .istore i => pI st fun x st => K (pc + 2, stL L i (.int x), st) h
  | .lstore_n i => pL st fun x st => K (pc + 1, stL2 L i (.long x), st) h
  | .lstore i => pL st fun x st => K (pc + 2, stL2 L i (.long x), st) h
  | .astore_n i => pR st fun x st => K (pc + 1, stL L i (.ref x), st) h
  | .astore i => pR st fun x st => K (pc + 2, stL L i (.ref x), st) h
  | .iinc i _ => gI (getL L i) fun x => gI rv fun v => K (pc + 3, stL L i (.int (x + v)), st) h
  | .dup => pV st fun v st => K (pc + 1, L, v :: v :: st) h
  | .pop => pV st fun _ st => K (pc + 1, L, st) h
  | .dup2 => pV st fun v st => pV st fun w st => K (pc + 1, L, v :: w :: v :: w :: st) h
  | .iadd => pI st fun y st => pI st fun x st => K (pc + 1, L, .int (x + y) :: st) h
  | .isub => pI st fun y st => pI st fun x st => K (pc + 1, L, .int (x - y) :: st) h
  | .imul => pI st fun y st => pI st fun x st => K (pc + 1, L, .int (x * y) :: st) h
  | .iand => pI st fun y st => pI st fun x st => K (pc + 1, L, .int (x &&& y) :: st) h
  | .ior => pI st fun y st => pI st fun x st => K (pc + 1, L, .int (x ||| y) :: st) h
  | .ixor => pI st fun y st => pI st fun x st => K (pc + 1, L, .int (x ^^^ y) :: st) h
  | .ishl => pI st fun y st => pI st fun x st => K (pc + 1, L, .int (x <<< (y &&& 31)) :: st) h
  | .ishr => pI st fun y st => pI st fun x st => K (pc + 1, L, .int (x >>> (y &&& 31)) :: st) h
  | .iushr => pI st fun y st => pI st fun x st => K (pc + 1, L, .int ((x.toUInt32 >>> (y.toUInt32 &&& Int32.toUInt32 31)).toInt32) :: st) h
  | .idiv => pI st fun y st => pI st fun x st => ¬ y = 0 ∧ K (pc + 1, L, .int (x / y) :: st) h
  | .irem => pI st fun y st => pI st fun x st => ¬ y = 0 ∧ K (pc + 1, L, .int (x - x / y * y) :: st) h
  | .ladd => pL st fun y st => pL st fun x st => K (pc + 1, L, .long (x + y) :: st) h
  | .lsub => pL st fun y st => pL st fun x st => K (pc + 1, L, .long (x - y) :: st) h
  | .lmul => pL st fun y st => pL st fun x st => K (pc + 1, L, .long (x * y) :: st) h
  | .land => pL st fun y st => pL st fun x st => K (pc + 1, L, .long (x &&& y) :: st) h
  | .lor => pL st fun y st => pL st fun x st => K (pc + 1, L, .long (x ||| y) :: st) h
  | .ldiv => pL st fun y st => pL st fun x st => ¬ y = 0 ∧ K (pc + 1, L, .long (x / y) :: st) h
  | .lrem => pL st fun y st => pL st fun x st => ¬ y = 0 ∧ K (pc + 1, L, .long (x - x / y * y) :: st) h
  | .lcmp => pL st fun y st => pL st fun x st => K (pc + 1, L, .int (lg_cmp x y) :: st) h
  | .i2l => pI st fun x st => K (pc + 1, L, .long x.toInt64 :: st) h
  | .i2b => pI st fun x st => K (pc + 1, L, .int x.toInt8.toInt32 :: st) h
  | .l2i => pL st fun x st => K (pc + 1, L, .int x.toInt32 :: st) h
  | .ifCond .eq _ => pI st fun x st => (x = 0 → K (r1, L, st) h) ∧ (¬ x = 0 → K (pc + 3, L, st) h)
  | .ifCond .ne _ => pI st fun x st => (¬ x = 0 → K (r1, L, st) h) ∧ (x = 0 → K (pc + 3, L, st) h)
  | .ifCond .lt _ => pI st fun x st => (x < 0 → K (r1, L, st) h) ∧ (¬ x < 0 → K (pc + 3, L, st) h)
  | .ifCond .ge _ => pI st fun x st => (0 ≤ x → K (r1, L, st) h) ∧ (¬ 0 ≤ x → K (pc + 3, L, st) h)
  | .ifCond .gt _ => pI st fun x st => (0 < x → K (r1, L, st) h) ∧ (¬ 0 < x → K (pc + 3, L, st) h)
  | .ifCond .le _ => pI st fun x st => (x ≤ 0 → K (r1, L, st) h) ∧ (¬ x ≤ 0 → K (pc + 3, L, st) h)
  | .if_icmp .eq _ => pI st fun y st => pI st fun x st => (x = y → K (r1, L, st) h) ∧ (¬ x = y → K (pc + 3, L, st) h)
  | .if_icmp .ne _ => pI st fun y st => pI st fun x st => (¬ x = y → K (r1, L, st) h) ∧ (x = y → K (pc + 3, L, st) h)
  | .if_icmp .lt _ => pI st fun y st => pI st fun x st => (x < y → K (r1, L, st) h) ∧ (¬ x < y → K (pc + 3, L, st) h)
  | .if_icmp .ge _ => pI st fun y st => pI st fun x st => (y ≤ x → K (r1, L, st) h) ∧ (¬ y ≤ x → K (pc + 3, L, st) h)
  | .if_icmp .gt _ => pI st fun y st => pI st fun x st => (y < x → K (r1, L, st) h) ∧ (¬ y < x → K (pc + 3, L, st) h)
  | .if_icmp .le _ => pI st fun y st => pI st fun x st => (x ≤ y → K (r1, L, st) h) ∧ (¬ x ≤ y → K (pc + 3, L, st) h)
  | .ifnull _ => pR st fun x st => (x = 0 → K (r1, L, st) h) ∧ (¬ x = 0 → K (pc + 3, L, st) h)
  | .ifnonnull _ => pR st fun x st => (¬ x = 0 → K (r1, L, st) h) ∧ (x = 0 → K (pc + 3, L, st) h)
  | .goto _ => K (r1, L, st) h
  | .tableswitch _ _ _ _ => pI st fun x st => swK x (fun t => K (t, L, st) h) r1 sw
  | .lookupswitch _ _ => pI st fun x st => swK x (fun t => K (t, L, st) h) r1 sw
  | .getfield _ => pR st fun a st => (hS h a).1 = 10 + r1 ∧ match rv with
    | .ref _ => K (pc + 3, L, .ref (hR h a r2) :: st) h
    | _ => K (pc + 3, L, .int (hI h a r2) :: st) h
  | .putfield _ => match rv with
    | .ref _ => pR st fun x st => pR st fun a st => (hS h a).1 = 10 + r1 ∧ lH (sR h a r2 x) fun hh => K (pc + 3, L, st) hh
    | .long _ => pI st fun x st => pR st fun a st => (hS h a).1 = 10 + r1 ∧ (x = 0 ∨ x = 1) ∧ lH (sI h a r2 x) fun hh => K (pc + 3, L, st) hh
    | _ => pI st fun x st => pR st fun a st => (hS h a).1 = 10 + r1 ∧ lH (sI h a r2 x) fun hh => K (pc + 3, L, st) hh
  | .iaload => pI st fun i st => gR (st.getD 0 (.float 0)) (fun a => (hS h a).1 = 1 ∧ vp_in i (hS h a).2 ∧ K (pc + 1, L, .int (hI h a i.toNatClampNeg) :: st.tail) h) (fun t => t = 19 ∧ match scr with
    | some q => vp_in i q.1 ∧ K (pc + 1, L, .int (q.2 i.toNatClampNeg) :: st.tail) h
    | none => False)
  | .arraylength => gR (st.getD 0 (.float 0)) (fun a => 1 ≤ (hS h a).1 ∧ (hS h a).1 ≤ 8 ∧ K (pc + 1, L, .int (Int32.ofNat (hS h a).2) :: st.tail) h) (fun t => t = 19 ∧ match scr with
    | some q => K (pc + 1, L, .int (Int32.ofNat q.1) :: st.tail) h
    | none => False)
  | .baload => pI st fun i st => pR st fun a st => ((hS h a).1 = 2 ∨ (hS h a).1 = 3) ∧ vp_in i (hS h a).2 ∧ K (pc + 1, L, .int (hI h a i.toNatClampNeg) :: st) h
  | .laload => pI st fun i st => pR st fun a st => (hS h a).1 = 4 ∧ vp_in i (hS h a).2 ∧ K (pc + 1, L, .long (hL h a i.toNatClampNeg) :: st) h
  | .aaload => pI st fun i st => pR st fun a st => 5 ≤ (hS h a).1 ∧ (hS h a).1 ≤ 8 ∧ vp_in i (hS h a).2 ∧ K (pc + 1, L, .ref (hR h a i.toNatClampNeg) :: st) h
  | .iastore => pI st fun x st => pI st fun i st => pR st fun a st => (hS h a).1 = 1 ∧ vp_in i (hS h a).2 ∧ lH (sI h a i.toNatClampNeg x) fun hh => K (pc + 1, L, st) hh
  | .bastore => pI st fun x st => pI st fun i st => pR st fun a st => ((hS h a).1 = 2 ∨ (hS h a).1 = 3) ∧ vp_in i (hS h a).2 ∧ ((hS h a).1 = 2 → lH (sI h a i.toNatClampNeg (vp_nar .byte x)) fun hh => K (pc + 1, L, st) hh) ∧ ((hS h a).1 = 3 → lH (sI h a i.toNatClampNeg (vp_nar .boolean x)) fun hh => K (pc + 1, L, st) hh)
  | .lastore => pL st fun x st => pI st fun i st => pR st fun a st => (hS h a).1 = 4 ∧ vp_in i (hS h a).2 ∧ lH (sL h a i.toNatClampNeg x) fun hh => K (pc + 1, L, st) hh
  | .aastore => pR st fun v st => pI st fun i st => pR st fun a st => (5 ≤ (hS h a).1 ∧ (hS h a).1 ≤ 7) ∧ vp_in i (hS h a).2 ∧ (hS h v).1 = 10 + qCl (hS h a).1 ∧ lH (sR h a i.toNatClampNeg v) fun hh => K (pc + 1, L, st) hh
  | .new _ => hN h + 1 ≤ E1 ∧ hU h + fN r1 ≤ E2 ∧ lH (nC h (10 + r1) (fN r1)) fun hh => K (pc + 3, L, .ref (hN h) :: st) hh
  | .newarray .int => pI st fun n st => ¬ n < 0 ∧ n.toNatClampNeg ≤ 65536 ∧ hN h + 1 ≤ E1 ∧ hU h + n.toNatClampNeg ≤ E2 ∧ lH (nC h 1 n.toNatClampNeg) fun hh => K (pc + 2, L, .ref (hN h) :: st) hh
  | .newarray .byte => pI st fun n st => ¬ n < 0 ∧ n.toNatClampNeg ≤ 65536 ∧ hN h + 1 ≤ E1 ∧ hU h + n.toNatClampNeg ≤ E2 ∧ lH (nC h 2 n.toNatClampNeg) fun hh => K (pc + 2, L, .ref (hN h) :: st) hh
  | .newarray .boolean => pI st fun n st => ¬ n < 0 ∧ n.toNatClampNeg ≤ 65536 ∧ hN h + 1 ≤ E1 ∧ hU h + n.toNatClampNeg ≤ E2 ∧ lH (nC h 3 n.toNatClampNeg) fun hh => K (pc + 2, L, .ref (hN h) :: st) hh
  | .newarray .long => pI st fun n st => ¬ n < 0 ∧ n.toNatClampNeg ≤ 65536 ∧ hN h + 1 ≤ E1 ∧ hU h + n.toNatClampNeg ≤ E2 ∧ lH (nC h 4 n.toNatClampNeg) fun hh => K (pc + 2, L, .ref (hN h) :: st) hh
  | .anewarray _ => pI st fun n st => ¬ n < 0 ∧ n.toNatClampNeg ≤ 65536 ∧ hN h + 1 ≤ E1 ∧ hU h + n.toNatClampNeg ≤ E2 ∧ lH (nC h r1 n.toNatClampNeg) fun hh => K (pc + 3, L, .ref (hN h) :: st) hh
  | .multianewarray _ _ => pI st fun k st => pI st fun n st => ¬ n < 0 ∧ ¬ k < 0 ∧ n.toNatClampNeg ≤ 65536 ∧ k.toNatClampNeg ≤ 65536 ∧ hN h + 1 + n.toNatClampNeg ≤ E1 ∧ hU h + n.toNatClampNeg + n.toNatClampNeg * k.toNatClampNeg ≤ E2 ∧ lH (nM h n.toNatClampNeg k.toNatClampNeg) fun hh => K (pc + 4, L, .ref (hN h) :: st) hh
  | .checkcast _ => pR st fun a st => (hS h a).1 = 1 ∧ K (pc + 3, L, .ref a :: st) h
  | .invokevirtual _ => cond (Nat.ble 1000 r1) (match r1 with
    | 1004 => pR st fun a st => cond (Nat.ble st.length 4) ((hS h a).1 = 1 ∧ hN h + 1 ≤ E1 ∧ hU h + (hS h a).2 ≤ E2 ∧ lH (nD h a) fun hh => K (pc + 3, L, .ref (hN h) :: st) hh) False
    | 1005 => gR (st.getD 0 (.float 0)) (fun _ => False) (fun t => cond (Nat.ble st.tail.length 4) (t < 19 ∧ K (pc + 3, L, .int (Int32.ofNat (strLen.getD t 0)) :: st.tail) h) False)
    | 1006 => pI st fun i st => gR (st.getD 0 (.float 0)) (fun _ => False) (fun t => cond (Nat.ble st.tail.length 4) (t < 19 ∧ vp_in i (strLen.getD t 0) ∧ K (pc + 3, L, .int ((strB.getD t []).getD i.toNatClampNeg 0) :: st.tail) h) False)
    | _ => False) (cond (Nat.ble r2 st.length && Nat.ble (st.drop r2).length 4) (match (st.take r2).reverse with
    | .ref a :: as => (hS h a).1 = 10 + (sw.getD 0 (0, 0)).2 ∧ clK d E1 E2 rv r1 (.ref a :: as) h (fun r h' => rK (sw.getD 1 (0, 0)).2 r (fun vs => K (pc + 3, L, vs ++ st.drop r2) h'))
    | _ => False) False)
  | .invokespecial _ => cond (Nat.ble 1000 r1) (match r1 with
    | 1000 => pR st fun a st => cond (Nat.ble st.length 4) ((hS h a).1 = 10 + (sw.getD 0 (0, 0)).2 ∧ K (pc + 3, L, st) h) False
    | _ => False) (cond (Nat.ble r2 st.length && Nat.ble (st.drop r2).length 4) (match (st.take r2).reverse with
    | .ref a :: as => (hS h a).1 = 10 + (sw.getD 0 (0, 0)).2 ∧ clK d E1 E2 rv r1 (.ref a :: as) h (fun r h' => rK (sw.getD 1 (0, 0)).2 r (fun vs => K (pc + 3, L, vs ++ st.drop r2) h'))
    | _ => False) False)
  | .invokestatic _ => cond (Nat.ble 1000 r1) (match r1 with
    | 1001 => pI st fun n st => pI st fun dp st => pR st fun b st => pI st fun sp st => pR st fun a st => cond (Nat.ble st.length 4) ((hS h a).1 = 1 ∧ (hS h b).1 = 1 ∧ ¬ sp < 0 ∧ ¬ dp < 0 ∧ ¬ n < 0 ∧ sp.toNatClampNeg + n.toNatClampNeg ≤ (hS h a).2 ∧ dp.toNatClampNeg + n.toNatClampNeg ≤ (hS h b).2 ∧ lH (cpI h a sp.toNatClampNeg b dp.toNatClampNeg n.toNatClampNeg) fun hh => K (pc + 3, L, st) hh) False
    | 1002 => pI st fun y st => pI st fun x st => cond (Nat.ble st.length 4) (K (pc + 3, L, .int (if x < y then y else x) :: st) h) False
    | 1003 => pI st fun y st => pI st fun x st => cond (Nat.ble st.length 4) (K (pc + 3, L, .int (if y < x then y else x) :: st) h) False
    | _ => False) (cond (Nat.ble r2 st.length && Nat.ble (st.drop r2).length 4) (clK d E1 E2 rv r1 (st.take r2).reverse h (fun r h' => rK (sw.getD 1 (0, 0)).2 r (fun vs => K (pc + 3, L, vs ++ st.drop r2) h'))) False)
  | .ireturn => pI st fun x st => cond st.isEmpty (Rt (some (.int x)) h) False
  | .lreturn => pL st fun x st => cond st.isEmpty (Rt (some (.long x)) h) False
  | .areturn => gR (st.getD 0 (.float 0)) (fun x => cond st.tail.isEmpty (Rt (some (.ref x)) h) False) (fun x => cond st.tail.isEmpty (Rt (some (.retAddr x)) h) False)
  | .return_ => cond st.isEmpty (Rt none h) False
  | _ => False
def strOkB (j : Nat) (own : String) (i : Nat) : Bool := match strs[j]? with
  | some q => decide (q.1 = own ∧ q.2.1 = i)
  | none => false
theorem strOk {j : Nat} {own : String} {i : Nat} (h : strOkB j own i = true) : ∃ q, strs[j]? = some q ∧ q.1 = own ∧ q.2.1 = i := by
  unfold strOkB at h
  split at h
  · rename_i q hq
    exact ⟨q, hq, by simpa using h⟩
  · cases h
/-- what is looked up once of each instruction -/
def chk (own mname : String) (nL pc : Nat) (ins : Instr) (len : Nat) (rv : Value) (r1 r2 r3 : Nat) (sw : List (Int32 × Nat)) : Bool := match ins with
  | .iconst n => decide (len = 1) && (match rv with | .int v => decide (Int32.ofInt n = v) | _ => false)
  | .bipush n => decide (len = 2) && (match rv with | .int v => decide ((Int8.ofInt n).toInt32 = v) | _ => false)
  | .sipush n => decide (len = 3) && (match rv with | .int v => decide ((Int16.ofInt n).toInt32 = v) | _ => false)
  | .lconst n => decide (len = 1) && (match rv with | .long v => decide (Int64.ofNat (n : Nat) = v) | _ => false)
  | .ldc i => decide (len = 2) && (match rv with | .int v => decide (conT[r3]? = some (own, i, v)) | .retAddr j => strOkB j own i | _ => false)
  | .ldc_w i => decide (len = 3) && (match rv with | .int v => decide (conT[r3]? = some (own, i, v)) | .retAddr j => strOkB j own i | _ => false)
  | .ldc2_w i => decide (len = 3) && (match rv with | .long v => decide (conLT[r3]? = some (own, i, v)) | _ => false)
  | .iload _ => decide (len = 2)
  | .lload _ => decide (len = 2)
  | .aload _ => decide (len = 2)
  | .istore_n i => decide (len = 1) && decide ((i : Nat) < nL)
  | .istore i => decide (len = 2) && decide (i < nL)
  | .lstore_n i => decide (len = 1) && decide ((i : Nat) + 1 < nL)
  | .lstore i => decide (len = 2) && decide (i + 1 < nL)
  | .astore_n i => decide (len = 1) && decide ((i : Nat) < nL)
  | .astore i => decide (len = 2) && decide (i < nL)
  | .iinc i n => decide (len = 3) && decide (i < nL) && (match rv with | .int v => decide (Int32.ofInt n = v) | _ => false)
  | .ifCond _ off => decide (len = 3) && decide ((pc : Int) + off = (r1 : Int))
  | .if_icmp _ off => decide (len = 3) && decide ((pc : Int) + off = (r1 : Int))
  | .ifnull off => decide (len = 3) && decide ((pc : Int) + off = (r1 : Int))
  | .ifnonnull off => decide (len = 3) && decide ((pc : Int) + off = (r1 : Int))
  | .goto off => decide (len = 3) && decide ((pc : Int) + off = (r1 : Int))
  | .tableswitch dflt lo hi offs => decide ((pc : Int) + dflt = (r1 : Int)) && decide (hi + 1 = lo + offs.size) && decide (sw.map (fun q => (q.1.toInt, (q.2 : Int))) = (List.range offs.size).map (fun (j : Nat) => (lo + (j : Int), (pc : Int) + offs.getD j 0)))
  | .lookupswitch dflt ps => decide ((pc : Int) + dflt = (r1 : Int)) && decide ((ps.toList.zip (ps.toList.drop 1)).all (fun (a, next) => a.1 < next.1) = true) && decide (sw.map (fun q => (q.1.toInt, (q.2 : Int) - pc)) = ps.toList)
  | .getfield i => decide (len = 3) && decide (fldT[r3]? = some (own, i, r1, r2)) && (match rv with | .ref _ => refTy (fTy r1 r2) | .int _ => decide (fTy r1 r2 = .int ∨ fTy r1 r2 = .boolean) | _ => false)
  | .putfield i => decide (len = 3) && decide (fldT[r3]? = some (own, i, r1, r2)) && ((match rv with | .ref _ => refTy (fTy r1 r2) | .long _ => decide (fTy r1 r2 = .boolean) | .int _ => decide (fTy r1 r2 = .int) | _ => false) && (match cl13[r1]? with | some q => !(q.2.1 r2).2.2.2 || (decide (mname = "<init>") && decide ((q.2.1 r2).1 = own)) | none => false))
  | .new i => decide (len = 3) && decide (clsT[r3]? = some (own, i, r1))
  | .newarray _ => decide (len = 2)
  | .anewarray i => decide (len = 3) && ((decide (r1 = 5) && decide (clsT[r3]? = some (own, i, 6))) || (decide (r1 = 6) && decide (clsT[r3]? = some (own, i, 9))) || (decide (r1 = 7) && decide (clsT[r3]? = some (own, i, 4))))
  | .multianewarray i dm => decide (len = 4) && decide (dm = 2) && decide (othT[r3]? = some (own, i, "[[I"))
  | .checkcast i => decide (len = 3) && decide (othT[r3]? = some (own, i, "[I"))
  | .invokevirtual i => decide (len = 3) && cond (Nat.ble 1000 r1) (decide (splT[r3]? = some (own, i, r1))) (decide (lnkT[r3]? = some (own, i, r1)) && (match mtl[r1]? with | some q => decide (q.2.2.2.2.2.1 = 1) && decide (r2 = q.2.2.2.2.2.2 + 1) && decide ((sw.getD 0 (0, 0)).2 = q.2.2.2.2.1) && (match cl13[q.2.2.2.2.1]? with | some qc => decide (qc.1 = q.1.cls) | none => false) | none => false))
  | .invokespecial i => decide (len = 3) && cond (Nat.ble 1000 r1) (decide (splT[r3]? = some (own, i, r1))) (match mtl[r1]? with | some q => decide (r2 = q.2.2.2.2.2.2 + 1) && ((decide (q.2.2.2.2.2.1 = 2) && decide (lnkT[r3]? = some (own, i, r1))) || (decide (q.2.2.2.2.2.1 = 3) && decide (nestW[r3]? = some (own, i, q.1)))) | none => false)
  | .invokestatic i => decide (len = 3) && cond (Nat.ble 1000 r1) (decide (splT[r3]? = some (own, i, r1))) (decide (lnkT[r3]? = some (own, i, r1)) && (match mtl[r1]? with | some q => decide (q.2.2.2.2.2.1 = 0) && decide (r2 = q.2.2.2.2.2.2) | none => false))
  | _ => decide (len = 1)
theorem cond_inv {b : Bool} {A : Prop} (h : cond b A False) : b = true ∧ A := by
  cases b
  · exact h.elim
  · exact ⟨rfl, h⟩
theorem getD_cons {l : List Value} {v : Value} (h : l.getD 0 (.float 0) = v) (hv : v ≠ .float 0) : ∃ r, l = v :: r := by
  cases l with
  | nil => exact absurd h.symm hv
  | cons a r => exact ⟨r, by rw [show a = v from h]⟩
theorem swK_mono {x : Int32} {K K' : Nat → Prop} {d : Nat} (hK : ∀ t, K t → K' t) : ∀ {l : List (Int32 × Nat)}, swK x K d l → swK x K' d l
  | [], h => hK _ h
  | q :: r, h => ⟨fun e => hK _ (h.1 e), fun e => swK_mono hK (h.2 e)⟩
theorem Wst.wf {X : CX} {f : Fr} {h : AH} (k : wfH h → Wst X f h) : Wst X f h := by
  obtain ⟨⟨p, l, e, R, s, m, args, below, meth, c, Qm⟩, ⟨B, D, cid, adK, adV⟩, ⟨nL, n0, u0, E1, E2⟩⟩ := X
  exact fun H locs ls r1 r2 r3 r4 => k r1.2 H locs ls r1 r2 r3 r4
theorem Wst.le {X : CX} {f : Fr} {h : AH} (k : hN h ≤ X.2.2.2.2.2.1 → hU h ≤ X.2.2.2.2.2.2 → Wst X f h) : Wst X f h := by
  obtain ⟨⟨p, l, e, R, s, m, args, below, meth, c, Qm⟩, ⟨B, D, cid, adK, adV⟩, ⟨nL, n0, u0, E1, E2⟩⟩ := X
  exact fun H locs ls r1 r2 r3 r4 => k r4.2.2.1 r4.2.2.2 H locs ls r1 r2 r3 r4
theorem clK_use {X : CX} {f : Fr} {h : AH} {d E1 E2 y : Nat} {rv : Value} {q : MT} {as : List Value} {Q : Option Value → AH → Prop} (hq : mtl[y]? = some q) (hE1 : X.2.2.2.2.2.1 = E1) (hE2 : X.2.2.2.2.2.2 = E2) (hs : clK d E1 E2 rv y as h Q) (k : ∀ F1 F2, F1 ≤ X.2.2.2.2.2.1 → F2 ≤ X.2.2.2.2.2.2 → CallsM d q as h F1 F2 Q → Wst X f h) : Wst X f h := by
  unfold clK at hs
  split at hs
  · obtain ⟨q2, hq2, hc⟩ := hs
    cases hq.symm.trans hq2
    exact Wst.le (fun g1 g2 => k _ _ g1 g2 hc)
  · obtain ⟨F1, F2, g1, g2, q2, hq2, hc⟩ := hs
    cases hq.symm.trans hq2
    exact k F1 F2 (by rw [hE1]; exact g1) (by rw [hE2]; exact g2) hc
theorem take_args {st as : List Value} {a r2 : Nat} (h7 : Nat.ble r2 st.length = true) (has : (st.take r2).reverse = .ref a :: as) : st = as.reverse ++ .ref a :: st.drop r2 := by
  have h1 := congrArg List.reverse has
  rw [List.reverse_reverse, List.reverse_cons] at h1
  have h2 := List.take_append_drop r2 st
  rw [h1, List.append_assoc] at h2
  exact h2.symm
theorem take_len {st as : List Value} {a r2 : Nat} (h7 : Nat.ble r2 st.length = true) (has : (st.take r2).reverse = .ref a :: as) : as.length + 1 = r2 := by
  have h1 := congrArg List.length has
  have := Nat.le_of_ble_eq_true h7
  simp only [List.length_reverse, List.length_take, List.length_cons] at h1
  omega
def retS (ins : Instr) (st : List Value) (v : Option Value) : Prop := match ins with
  | .ireturn => ∃ x, st = [.int x] ∧ v = some (.int x)
  | .lreturn => ∃ x, st = [.long x] ∧ v = some (.long x)
  | .areturn => ∃ x, (st = [.ref x] ∧ v = some (.ref x)) ∨ (st = [.retAddr x] ∧ v = some (.retAddr x))
  | .return_ => st = [] ∧ v = none
  | _ => False
set_option maxHeartbeats 4000000 in
theorem stp_ok {X : CX} {own mname : String} {cc : ByteArray} {d nL E1 E2 : Nat} {scr : Option (Nat × (Nat → Int32))} (C : Ctx X (own, cc, mname, d + 1, scr)) (hsd : 4 ≤ d) (hnL : X.2.2.1 = nL) (hE1 : X.2.2.2.2.2.1 = E1) (hE2 : X.2.2.2.2.2.2 = E2) {K : Fr → AH → Prop} {Rt : Option Value → AH → Prop} (hK : ∀ f h, K f h → Wst X f h) (hR : ∀ (pc : Nat) (ins : Instr) (L st : List Value) (v : Option Value) (h : AH), decode cc pc = .ok (ins, 1) → retS ins st v → Rt v h → Wst X (pc, L, st) h) {pc len r1 r2 r3 : Nat} {ins : Instr} {rv : Value} {sw : List (Int32 × Nat)} {L st : List Value} {h : AH} (hd : decode cc pc = .ok (ins, len)) (hc : chk own mname nL pc ins len rv r1 r2 r3 sw = true) (hs : stp d E1 E2 scr K Rt pc ins rv r1 r2 sw L st h) : Wst X (pc, L, st) h := by
  have hscr : ((own, cc, mname, d + 1, scr) : MX).2.2.2.2 = scr := rfl
  cases ins with
  | iconst n =>
    simp only [stp] at hs
    replace hs := gI_inv hs
    obtain ⟨v, rfl, hs⟩ := hs
    simp only [chk, Bool.and_eq_true, decide_eq_true_eq] at hc
    obtain ⟨rfl, hc⟩ := hc
    exact st_iconst C hd hc (hK _ _ hs)
  | bipush n =>
    simp only [stp] at hs
    replace hs := gI_inv hs
    obtain ⟨v, rfl, hs⟩ := hs
    simp only [chk, Bool.and_eq_true, decide_eq_true_eq] at hc
    obtain ⟨rfl, hc⟩ := hc
    exact st_bipush C hd hc (hK _ _ hs)
  | sipush n =>
    simp only [stp] at hs
    replace hs := gI_inv hs
    obtain ⟨v, rfl, hs⟩ := hs
    simp only [chk, Bool.and_eq_true, decide_eq_true_eq] at hc
    obtain ⟨rfl, hc⟩ := hc
    exact st_sipush C hd hc (hK _ _ hs)
  | lconst n =>
    simp only [stp] at hs
    replace hs := gL_inv hs
    obtain ⟨v, rfl, hs⟩ := hs
    simp only [chk, Bool.and_eq_true, decide_eq_true_eq] at hc
    obtain ⟨rfl, hc⟩ := hc
    exact st_lconst C hd hc (hK _ _ hs)
  | aconst_null =>
    simp only [stp] at hs
    simp only [chk, decide_eq_true_eq] at hc
    subst hc
    exact st_aconst C hd (hK _ _ hs)
  | ldc i =>
    simp only [stp] at hs
    cases rv with
    | int v =>
      simp only [chk, Bool.and_eq_true, decide_eq_true_eq] at hc
      obtain ⟨rfl, hc⟩ := hc
      exact st_ldc C hd (conT_ok hc) (hK _ _ hs)
    | retAddr j =>
      simp only [chk, Bool.and_eq_true, decide_eq_true_eq] at hc
      obtain ⟨rfl, hc⟩ := hc
      obtain ⟨⟨o1, i1, tx⟩, hq, e1, e2⟩ := strOk hc
      simp only at e1 e2
      subst e1; subst e2
      exact st_ldcS C hd hq (hK _ _ hs)
    | _ => exact hs.elim
  | ldc_w i =>
    simp only [stp] at hs
    cases rv with
    | int v =>
      simp only [chk, Bool.and_eq_true, decide_eq_true_eq] at hc
      obtain ⟨rfl, hc⟩ := hc
      exact st_ldcw C hd (conT_ok hc) (hK _ _ hs)
    | retAddr j =>
      simp only [chk, Bool.and_eq_true, decide_eq_true_eq] at hc
      obtain ⟨rfl, hc⟩ := hc
      obtain ⟨⟨o1, i1, tx⟩, hq, e1, e2⟩ := strOk hc
      simp only at e1 e2
      subst e1; subst e2
      exact st_ldcwS C hd hq (hK _ _ hs)
    | _ => exact hs.elim
  | ldc2_w i =>
    simp only [stp] at hs
    replace hs := gL_inv hs
    obtain ⟨v, rfl, hs⟩ := hs
    simp only [chk, Bool.and_eq_true, decide_eq_true_eq] at hc
    obtain ⟨rfl, hc⟩ := hc
    exact st_ldc2 C hd (conLT_ok hc) (hK _ _ hs)
  | iload_n i =>
    simp only [stp] at hs
    replace hs := gI_inv hs
    obtain ⟨x, hl, hs⟩ := hs
    simp only [chk, decide_eq_true_eq] at hc
    subst hc
    exact st_iload_n C hd hl (hK _ _ hs)
  | iload i =>
    simp only [stp] at hs
    replace hs := gI_inv hs
    obtain ⟨x, hl, hs⟩ := hs
    simp only [chk, decide_eq_true_eq] at hc
    subst hc
    exact st_iload C hd hl (hK _ _ hs)
  | lload_n i =>
    simp only [stp] at hs
    replace hs := gL_inv hs
    obtain ⟨x, hl, hs⟩ := hs
    simp only [chk, decide_eq_true_eq] at hc
    subst hc
    exact st_lload_n C hd hl (hK _ _ hs)
  | lload i =>
    simp only [stp] at hs
    replace hs := gL_inv hs
    obtain ⟨x, hl, hs⟩ := hs
    simp only [chk, decide_eq_true_eq] at hc
    subst hc
    exact st_lload C hd hl (hK _ _ hs)
  | aload_n i =>
    simp only [stp] at hs
    simp only [chk, decide_eq_true_eq] at hc
    subst hc
    replace hs := gR_inv hs
    rcases hs with ⟨x, hl, hs⟩ | ⟨x, hl, hs⟩
    · exact st_aload_n C hd hl (hK _ _ hs)
    · exact st_aload_nT C hd hl (hK _ _ hs)
  | aload i =>
    simp only [stp] at hs
    simp only [chk, decide_eq_true_eq] at hc
    subst hc
    replace hs := gR_inv hs
    rcases hs with ⟨x, hl, hs⟩ | ⟨x, hl, hs⟩
    · exact st_aload C hd hl (hK _ _ hs)
    · exact hs.elim
  | istore_n i =>
    simp only [stp] at hs
    replace hs := pI_inv hs
    obtain ⟨x, st, rfl, hs⟩ := hs
    simp only [chk, Bool.and_eq_true, decide_eq_true_eq] at hc
    obtain ⟨rfl, hc⟩ := hc
    exact st_istore_n C hd (by rw [hnL]; exact hc) (hK _ _ hs)
  | istore i =>
    simp only [stp] at hs
    replace hs := pI_inv hs
    obtain ⟨x, st, rfl, hs⟩ := hs
    simp only [chk, Bool.and_eq_true, decide_eq_true_eq] at hc
    obtain ⟨rfl, hc⟩ := hc
    exact st_istore C hd (by rw [hnL]; exact hc) (hK _ _ hs)
  | lstore_n i =>
    simp only [stp] at hs
    replace hs := pL_inv hs
    obtain ⟨x, st, rfl, hs⟩ := hs
    simp only [chk, Bool.and_eq_true, decide_eq_true_eq] at hc
    obtain ⟨rfl, hc⟩ := hc
    exact st_lstore_n C hd (by rw [hnL]; exact hc) (hK _ _ hs)
  | lstore i =>
    simp only [stp] at hs
    replace hs := pL_inv hs
    obtain ⟨x, st, rfl, hs⟩ := hs
    simp only [chk, Bool.and_eq_true, decide_eq_true_eq] at hc
    obtain ⟨rfl, hc⟩ := hc
    exact st_lstore C hd (by rw [hnL]; exact hc) (hK _ _ hs)
  | astore_n i =>
    simp only [stp] at hs
    replace hs := pR_inv hs
    obtain ⟨x, st, rfl, hs⟩ := hs
    simp only [chk, Bool.and_eq_true, decide_eq_true_eq] at hc
    obtain ⟨rfl, hc⟩ := hc
    exact st_astore_n C hd (by rw [hnL]; exact hc) (hK _ _ hs)
  | astore i =>
    simp only [stp] at hs
    replace hs := pR_inv hs
    obtain ⟨x, st, rfl, hs⟩ := hs
    simp only [chk, Bool.and_eq_true, decide_eq_true_eq] at hc
    obtain ⟨rfl, hc⟩ := hc
    exact st_astore C hd (by rw [hnL]; exact hc) (hK _ _ hs)
  | iinc i n =>
    simp only [stp] at hs
    replace hs := gI_inv hs
    obtain ⟨x, hl, hs⟩ := hs
    replace hs := gI_inv hs
    obtain ⟨v, rfl, hs⟩ := hs
    simp only [chk, Bool.and_eq_true, decide_eq_true_eq] at hc
    obtain ⟨⟨rfl, hc⟩, hc2⟩ := hc
    exact st_iinc C hd (by rw [hnL]; exact hc) hc2 hl (hK _ _ hs)
  | dup =>
    simp only [stp] at hs
    simp only [chk, decide_eq_true_eq] at hc
    subst hc
    replace hs := pV_inv hs
    obtain ⟨v, st, rfl, hv, hs⟩ := hs
    exact st_dup C hd hv (hK _ _ hs)
  | pop =>
    simp only [stp] at hs
    simp only [chk, decide_eq_true_eq] at hc
    subst hc
    replace hs := pV_inv hs
    obtain ⟨v, st, rfl, hv, hs⟩ := hs
    exact st_pop C hd hv (hK _ _ hs)
  | dup2 =>
    simp only [stp] at hs
    simp only [chk, decide_eq_true_eq] at hc
    subst hc
    replace hs := pV_inv hs
    obtain ⟨v, st, rfl, hv, hs⟩ := hs
    replace hs := pV_inv hs
    obtain ⟨w, st, rfl, hw, hs⟩ := hs
    exact st_dup2 C hd hv hw (hK _ _ hs)
  | iadd =>
    simp only [stp] at hs
    simp only [chk, decide_eq_true_eq] at hc
    subst hc
    replace hs := pI_inv hs
    obtain ⟨y, st, rfl, hs⟩ := hs
    replace hs := pI_inv hs
    obtain ⟨x, st, rfl, hs⟩ := hs
    exact st_iadd C hd (hK _ _ hs)
  | isub =>
    simp only [stp] at hs
    simp only [chk, decide_eq_true_eq] at hc
    subst hc
    replace hs := pI_inv hs
    obtain ⟨y, st, rfl, hs⟩ := hs
    replace hs := pI_inv hs
    obtain ⟨x, st, rfl, hs⟩ := hs
    exact st_isub C hd (hK _ _ hs)
  | imul =>
    simp only [stp] at hs
    simp only [chk, decide_eq_true_eq] at hc
    subst hc
    replace hs := pI_inv hs
    obtain ⟨y, st, rfl, hs⟩ := hs
    replace hs := pI_inv hs
    obtain ⟨x, st, rfl, hs⟩ := hs
    exact st_imul C hd (hK _ _ hs)
  | iand =>
    simp only [stp] at hs
    simp only [chk, decide_eq_true_eq] at hc
    subst hc
    replace hs := pI_inv hs
    obtain ⟨y, st, rfl, hs⟩ := hs
    replace hs := pI_inv hs
    obtain ⟨x, st, rfl, hs⟩ := hs
    exact st_iand C hd (hK _ _ hs)
  | ior =>
    simp only [stp] at hs
    simp only [chk, decide_eq_true_eq] at hc
    subst hc
    replace hs := pI_inv hs
    obtain ⟨y, st, rfl, hs⟩ := hs
    replace hs := pI_inv hs
    obtain ⟨x, st, rfl, hs⟩ := hs
    exact st_ior C hd (hK _ _ hs)
  | ixor =>
    simp only [stp] at hs
    simp only [chk, decide_eq_true_eq] at hc
    subst hc
    replace hs := pI_inv hs
    obtain ⟨y, st, rfl, hs⟩ := hs
    replace hs := pI_inv hs
    obtain ⟨x, st, rfl, hs⟩ := hs
    exact st_ixor C hd (hK _ _ hs)
  | ishl =>
    simp only [stp] at hs
    simp only [chk, decide_eq_true_eq] at hc
    subst hc
    replace hs := pI_inv hs
    obtain ⟨y, st, rfl, hs⟩ := hs
    replace hs := pI_inv hs
    obtain ⟨x, st, rfl, hs⟩ := hs
    exact st_ishl C hd (hK _ _ hs)
  | ishr =>
    simp only [stp] at hs
    simp only [chk, decide_eq_true_eq] at hc
    subst hc
    replace hs := pI_inv hs
    obtain ⟨y, st, rfl, hs⟩ := hs
    replace hs := pI_inv hs
    obtain ⟨x, st, rfl, hs⟩ := hs
    exact st_ishr C hd (hK _ _ hs)
  | iushr =>
    simp only [stp] at hs
    simp only [chk, decide_eq_true_eq] at hc
    subst hc
    replace hs := pI_inv hs
    obtain ⟨y, st, rfl, hs⟩ := hs
    replace hs := pI_inv hs
    obtain ⟨x, st, rfl, hs⟩ := hs
    exact st_iushr C hd (hK _ _ hs)
  | idiv =>
    simp only [stp] at hs
    simp only [chk, decide_eq_true_eq] at hc
    subst hc
    replace hs := pI_inv hs
    obtain ⟨y, st, rfl, hs⟩ := hs
    replace hs := pI_inv hs
    obtain ⟨x, st, rfl, hs⟩ := hs
    exact st_idiv C hd hs.1 (hK _ _ hs.2)
  | irem =>
    simp only [stp] at hs
    simp only [chk, decide_eq_true_eq] at hc
    subst hc
    replace hs := pI_inv hs
    obtain ⟨y, st, rfl, hs⟩ := hs
    replace hs := pI_inv hs
    obtain ⟨x, st, rfl, hs⟩ := hs
    exact st_irem C hd hs.1 (hK _ _ hs.2)
  | ladd =>
    simp only [stp] at hs
    simp only [chk, decide_eq_true_eq] at hc
    subst hc
    replace hs := pL_inv hs
    obtain ⟨y, st, rfl, hs⟩ := hs
    replace hs := pL_inv hs
    obtain ⟨x, st, rfl, hs⟩ := hs
    exact st_ladd C hd (hK _ _ hs)
  | lsub =>
    simp only [stp] at hs
    simp only [chk, decide_eq_true_eq] at hc
    subst hc
    replace hs := pL_inv hs
    obtain ⟨y, st, rfl, hs⟩ := hs
    replace hs := pL_inv hs
    obtain ⟨x, st, rfl, hs⟩ := hs
    exact st_lsub C hd (hK _ _ hs)
  | lmul =>
    simp only [stp] at hs
    simp only [chk, decide_eq_true_eq] at hc
    subst hc
    replace hs := pL_inv hs
    obtain ⟨y, st, rfl, hs⟩ := hs
    replace hs := pL_inv hs
    obtain ⟨x, st, rfl, hs⟩ := hs
    exact st_lmul C hd (hK _ _ hs)
  | land =>
    simp only [stp] at hs
    simp only [chk, decide_eq_true_eq] at hc
    subst hc
    replace hs := pL_inv hs
    obtain ⟨y, st, rfl, hs⟩ := hs
    replace hs := pL_inv hs
    obtain ⟨x, st, rfl, hs⟩ := hs
    exact st_land C hd (hK _ _ hs)
  | lor =>
    simp only [stp] at hs
    simp only [chk, decide_eq_true_eq] at hc
    subst hc
    replace hs := pL_inv hs
    obtain ⟨y, st, rfl, hs⟩ := hs
    replace hs := pL_inv hs
    obtain ⟨x, st, rfl, hs⟩ := hs
    exact st_lor C hd (hK _ _ hs)
  | ldiv =>
    simp only [stp] at hs
    simp only [chk, decide_eq_true_eq] at hc
    subst hc
    replace hs := pL_inv hs
    obtain ⟨y, st, rfl, hs⟩ := hs
    replace hs := pL_inv hs
    obtain ⟨x, st, rfl, hs⟩ := hs
    exact st_ldiv C hd hs.1 (hK _ _ hs.2)
  | lrem =>
    simp only [stp] at hs
    simp only [chk, decide_eq_true_eq] at hc
    subst hc
    replace hs := pL_inv hs
    obtain ⟨y, st, rfl, hs⟩ := hs
    replace hs := pL_inv hs
    obtain ⟨x, st, rfl, hs⟩ := hs
    exact st_lrem C hd hs.1 (hK _ _ hs.2)
  | lcmp =>
    simp only [stp] at hs
    simp only [chk, decide_eq_true_eq] at hc
    subst hc
    replace hs := pL_inv hs
    obtain ⟨y, st, rfl, hs⟩ := hs
    replace hs := pL_inv hs
    obtain ⟨x, st, rfl, hs⟩ := hs
    exact st_lcmp C hd (hK _ _ hs)
  | i2l =>
    simp only [stp] at hs
    simp only [chk, decide_eq_true_eq] at hc
    subst hc
    replace hs := pI_inv hs
    obtain ⟨x, st, rfl, hs⟩ := hs
    exact st_i2l C hd (hK _ _ hs)
  | i2b =>
    simp only [stp] at hs
    simp only [chk, decide_eq_true_eq] at hc
    subst hc
    replace hs := pI_inv hs
    obtain ⟨x, st, rfl, hs⟩ := hs
    exact st_i2b C hd (hK _ _ hs)
  | l2i =>
    simp only [stp] at hs
    simp only [chk, decide_eq_true_eq] at hc
    subst hc
    replace hs := pL_inv hs
    obtain ⟨x, st, rfl, hs⟩ := hs
    exact st_l2i C hd (hK _ _ hs)
  | ifCond cd off =>
    cases cd with
    | eq =>
      replace hs := pI_inv hs
      obtain ⟨x, st, rfl, hs⟩ := hs
      simp only [chk, Bool.and_eq_true, decide_eq_true_eq] at hc
      obtain ⟨rfl, hc⟩ := hc
      exact st_if_eq C hd hc (fun q => hK _ _ (hs.1 q)) (fun q => hK _ _ (hs.2 q))
    | ne =>
      replace hs := pI_inv hs
      obtain ⟨x, st, rfl, hs⟩ := hs
      simp only [chk, Bool.and_eq_true, decide_eq_true_eq] at hc
      obtain ⟨rfl, hc⟩ := hc
      exact st_if_ne C hd hc (fun q => hK _ _ (hs.1 q)) (fun q => hK _ _ (hs.2 q))
    | lt =>
      replace hs := pI_inv hs
      obtain ⟨x, st, rfl, hs⟩ := hs
      simp only [chk, Bool.and_eq_true, decide_eq_true_eq] at hc
      obtain ⟨rfl, hc⟩ := hc
      exact st_if_lt C hd hc (fun q => hK _ _ (hs.1 q)) (fun q => hK _ _ (hs.2 q))
    | ge =>
      replace hs := pI_inv hs
      obtain ⟨x, st, rfl, hs⟩ := hs
      simp only [chk, Bool.and_eq_true, decide_eq_true_eq] at hc
      obtain ⟨rfl, hc⟩ := hc
      exact st_if_ge C hd hc (fun q => hK _ _ (hs.1 q)) (fun q => hK _ _ (hs.2 q))
    | gt =>
      replace hs := pI_inv hs
      obtain ⟨x, st, rfl, hs⟩ := hs
      simp only [chk, Bool.and_eq_true, decide_eq_true_eq] at hc
      obtain ⟨rfl, hc⟩ := hc
      exact st_if_gt C hd hc (fun q => hK _ _ (hs.1 q)) (fun q => hK _ _ (hs.2 q))
    | le =>
      replace hs := pI_inv hs
      obtain ⟨x, st, rfl, hs⟩ := hs
      simp only [chk, Bool.and_eq_true, decide_eq_true_eq] at hc
      obtain ⟨rfl, hc⟩ := hc
      exact st_if_le C hd hc (fun q => hK _ _ (hs.1 q)) (fun q => hK _ _ (hs.2 q))
  | if_icmp cd off =>
    cases cd with
    | eq =>
      replace hs := pI_inv hs
      obtain ⟨y, st, rfl, hs⟩ := hs
      replace hs := pI_inv hs
      obtain ⟨x, st, rfl, hs⟩ := hs
      simp only [chk, Bool.and_eq_true, decide_eq_true_eq] at hc
      obtain ⟨rfl, hc⟩ := hc
      exact st_icmp_eq C hd hc (fun q => hK _ _ (hs.1 q)) (fun q => hK _ _ (hs.2 q))
    | ne =>
      replace hs := pI_inv hs
      obtain ⟨y, st, rfl, hs⟩ := hs
      replace hs := pI_inv hs
      obtain ⟨x, st, rfl, hs⟩ := hs
      simp only [chk, Bool.and_eq_true, decide_eq_true_eq] at hc
      obtain ⟨rfl, hc⟩ := hc
      exact st_icmp_ne C hd hc (fun q => hK _ _ (hs.1 q)) (fun q => hK _ _ (hs.2 q))
    | lt =>
      replace hs := pI_inv hs
      obtain ⟨y, st, rfl, hs⟩ := hs
      replace hs := pI_inv hs
      obtain ⟨x, st, rfl, hs⟩ := hs
      simp only [chk, Bool.and_eq_true, decide_eq_true_eq] at hc
      obtain ⟨rfl, hc⟩ := hc
      exact st_icmp_lt C hd hc (fun q => hK _ _ (hs.1 q)) (fun q => hK _ _ (hs.2 q))
    | ge =>
      replace hs := pI_inv hs
      obtain ⟨y, st, rfl, hs⟩ := hs
      replace hs := pI_inv hs
      obtain ⟨x, st, rfl, hs⟩ := hs
      simp only [chk, Bool.and_eq_true, decide_eq_true_eq] at hc
      obtain ⟨rfl, hc⟩ := hc
      exact st_icmp_ge C hd hc (fun q => hK _ _ (hs.1 q)) (fun q => hK _ _ (hs.2 q))
    | gt =>
      replace hs := pI_inv hs
      obtain ⟨y, st, rfl, hs⟩ := hs
      replace hs := pI_inv hs
      obtain ⟨x, st, rfl, hs⟩ := hs
      simp only [chk, Bool.and_eq_true, decide_eq_true_eq] at hc
      obtain ⟨rfl, hc⟩ := hc
      exact st_icmp_gt C hd hc (fun q => hK _ _ (hs.1 q)) (fun q => hK _ _ (hs.2 q))
    | le =>
      replace hs := pI_inv hs
      obtain ⟨y, st, rfl, hs⟩ := hs
      replace hs := pI_inv hs
      obtain ⟨x, st, rfl, hs⟩ := hs
      simp only [chk, Bool.and_eq_true, decide_eq_true_eq] at hc
      obtain ⟨rfl, hc⟩ := hc
      exact st_icmp_le C hd hc (fun q => hK _ _ (hs.1 q)) (fun q => hK _ _ (hs.2 q))
  | ifnull off =>
    simp only [stp] at hs
    simp only [chk, Bool.and_eq_true, decide_eq_true_eq] at hc
    obtain ⟨rfl, hc⟩ := hc
    replace hs := pR_inv hs
    obtain ⟨x, st, rfl, hs⟩ := hs
    exact st_ifnull C hd hc (fun q => hK _ _ (hs.1 q)) (fun q => hK _ _ (hs.2 q))
  | ifnonnull off =>
    simp only [stp] at hs
    simp only [chk, Bool.and_eq_true, decide_eq_true_eq] at hc
    obtain ⟨rfl, hc⟩ := hc
    replace hs := pR_inv hs
    obtain ⟨x, st, rfl, hs⟩ := hs
    exact st_ifnonnull C hd hc (fun q => hK _ _ (hs.1 q)) (fun q => hK _ _ (hs.2 q))
  | goto off =>
    simp only [stp] at hs
    simp only [chk, Bool.and_eq_true, decide_eq_true_eq] at hc
    obtain ⟨rfl, hc⟩ := hc
    exact st_goto C hd hc (hK _ _ hs)
  | tableswitch dflt lo hi offs =>
    simp only [stp] at hs
    replace hs := pI_inv hs
    obtain ⟨x, st, rfl, hs⟩ := hs
    simp only [chk, Bool.and_eq_true, decide_eq_true_eq] at hc
    obtain ⟨⟨hc1, hc2⟩, hc3⟩ := hc
    exact st_table C hd hc1 hc2 hc3 (swK_mono (fun t ht => hK _ _ ht) hs)
  | lookupswitch dflt ps =>
    simp only [stp] at hs
    replace hs := pI_inv hs
    obtain ⟨x, st, rfl, hs⟩ := hs
    simp only [chk, Bool.and_eq_true, decide_eq_true_eq] at hc
    obtain ⟨⟨hc1, hc2⟩, hc3⟩ := hc
    exact st_look C hd hc1 hc2 hc3 (swK_mono (fun t ht => hK _ _ ht) hs)
  | getfield i =>
    simp only [stp] at hs
    replace hs := pR_inv hs
    obtain ⟨a, st, rfl, hs⟩ := hs
    simp only [chk, Bool.and_eq_true, decide_eq_true_eq] at hc
    obtain ⟨⟨rfl, hc⟩, hc2⟩ := hc
    obtain ⟨q, hq, hk, hw⟩ := fldT_ok hc
    cases rv with
    | ref z => exact st_getR C hd hq hk hw hc2 hs.1 (hK _ _ hs.2)
    | int z => exact st_getI C hd hq hk hw (by simpa using hc2) hs.1 (hK _ _ hs.2)
    | _ => cases hc2
  | putfield i =>
    simp only [stp] at hs
    simp only [chk, Bool.and_eq_true, decide_eq_true_eq] at hc
    obtain ⟨⟨rfl, hc⟩, hc2, hc3⟩ := hc
    obtain ⟨q, hq, hk, hw⟩ := fldT_ok hc
    rw [hq] at hc3
    simp only [Bool.or_eq_true, Bool.and_eq_true, Bool.not_eq_true', decide_eq_true_eq] at hc3
    cases rv with
    | ref z =>
      replace hs := pR_inv hs
      obtain ⟨x, st, rfl, hs⟩ := hs
      replace hs := pR_inv hs
      obtain ⟨a, st, rfl, hs⟩ := hs
      by_cases hf : (q.2.1 r2).2.2.2 = false
      · exact st_putR C hd hq hk hw hf hc2 hs.1 (hK _ _ (lH_use hs.2))
      · have hc3 := hc3.resolve_left hf
        exact st_putRF C hd hq hk hw (by simpa using hf) (by rw [← hc3.1]) (by rw [hc3.2]) hc2 hs.1 (hK _ _ (lH_use hs.2))
    | long z =>
      replace hs := pI_inv hs
      obtain ⟨x, st, rfl, hs⟩ := hs
      replace hs := pR_inv hs
      obtain ⟨a, st, rfl, hs⟩ := hs
      by_cases hf : (q.2.1 r2).2.2.2 = false
      · exact st_putI C hd hq hk hw hf (Or.inr ⟨by simpa using hc2, hs.2.1⟩) hs.1 (hK _ _ (lH_use hs.2.2))
      · have hc3 := hc3.resolve_left hf
        exact st_putIF C hd hq hk hw (by simpa using hf) (by rw [← hc3.1]) (by rw [hc3.2]) (Or.inr ⟨by simpa using hc2, hs.2.1⟩) hs.1 (hK _ _ (lH_use hs.2.2))
    | int z =>
      replace hs := pI_inv hs
      obtain ⟨x, st, rfl, hs⟩ := hs
      replace hs := pR_inv hs
      obtain ⟨a, st, rfl, hs⟩ := hs
      by_cases hf : (q.2.1 r2).2.2.2 = false
      · exact st_putI C hd hq hk hw hf (Or.inl (by simpa using hc2)) hs.1 (hK _ _ (lH_use hs.2))
      · have hc3 := hc3.resolve_left hf
        exact st_putIF C hd hq hk hw (by simpa using hf) (by rw [← hc3.1]) (by rw [hc3.2]) (Or.inl (by simpa using hc2)) hs.1 (hK _ _ (lH_use hs.2))
    | _ => cases hc2
  | iaload =>
    simp only [stp] at hs
    simp only [chk, decide_eq_true_eq] at hc
    subst hc
    replace hs := pI_inv hs
    obtain ⟨i, st, rfl, hs⟩ := hs
    replace hs := gR_inv hs
    rcases hs with ⟨a, hl, hs⟩ | ⟨t, hl, hs⟩
    · obtain ⟨st, rfl⟩ := getD_cons hl (by simp)
      exact st_iald C hd hs.1 hs.2.1 (hK _ _ hs.2.2)
    · obtain ⟨st, rfl⟩ := getD_cons hl (by simp)
      obtain ⟨rfl, hs⟩ := hs
      cases hq : scr with
      | none => rw [hq] at hs; exact hs.elim
      | some q =>
        rw [hq] at hs
        exact st_sald C hd (n := q.1) (xs := q.2) (by rw [hscr, hq]) hs.1 (hK _ _ hs.2)
  | arraylength =>
    simp only [stp] at hs
    simp only [chk, decide_eq_true_eq] at hc
    subst hc
    replace hs := gR_inv hs
    rcases hs with ⟨a, hl, hs⟩ | ⟨t, hl, hs⟩
    · obtain ⟨st, rfl⟩ := getD_cons hl (by simp)
      exact st_alen C hd rfl hs.1 hs.2.1 (hK _ _ hs.2.2)
    · obtain ⟨st, rfl⟩ := getD_cons hl (by simp)
      obtain ⟨rfl, hs⟩ := hs
      cases hq : scr with
      | none => rw [hq] at hs; exact hs.elim
      | some q =>
        rw [hq] at hs
        exact st_slen C hd (n := q.1) (xs := q.2) (by rw [hscr, hq]) (hK _ _ hs)
  | baload =>
    simp only [stp] at hs
    simp only [chk, decide_eq_true_eq] at hc
    subst hc
    replace hs := pI_inv hs
    obtain ⟨i, st, rfl, hs⟩ := hs
    replace hs := pR_inv hs
    obtain ⟨a, st, rfl, hs⟩ := hs
    rcases hs.1 with e | e
    · exact st_bald C hd e hs.2.1 (hK _ _ hs.2.2)
    · exact st_zald C hd e hs.2.1 (hK _ _ hs.2.2)
  | laload =>
    simp only [stp] at hs
    simp only [chk, decide_eq_true_eq] at hc
    subst hc
    replace hs := pI_inv hs
    obtain ⟨i, st, rfl, hs⟩ := hs
    replace hs := pR_inv hs
    obtain ⟨a, st, rfl, hs⟩ := hs
    exact st_lald C hd hs.1 hs.2.1 (hK _ _ hs.2.2)
  | aaload =>
    simp only [stp] at hs
    simp only [chk, decide_eq_true_eq] at hc
    subst hc
    replace hs := pI_inv hs
    obtain ⟨i, st, rfl, hs⟩ := hs
    replace hs := pR_inv hs
    obtain ⟨a, st, rfl, hs⟩ := hs
    exact st_aald C hd rfl hs.1 hs.2.1 hs.2.2.1 (hK _ _ hs.2.2.2)
  | iastore =>
    simp only [stp] at hs
    simp only [chk, decide_eq_true_eq] at hc
    subst hc
    replace hs := pI_inv hs
    obtain ⟨x, st, rfl, hs⟩ := hs
    replace hs := pI_inv hs
    obtain ⟨i, st, rfl, hs⟩ := hs
    replace hs := pR_inv hs
    obtain ⟨a, st, rfl, hs⟩ := hs
    exact st_iast C hd hs.1 hs.2.1 (hK _ _ (lH_use hs.2.2))
  | bastore =>
    simp only [stp] at hs
    simp only [chk, decide_eq_true_eq] at hc
    subst hc
    replace hs := pI_inv hs
    obtain ⟨x, st, rfl, hs⟩ := hs
    replace hs := pI_inv hs
    obtain ⟨i, st, rfl, hs⟩ := hs
    replace hs := pR_inv hs
    obtain ⟨a, st, rfl, hs⟩ := hs
    rcases hs.1 with e | e
    · exact st_bast C hd e hs.2.1 (hK _ _ (lH_use (hs.2.2.1 e)))
    · exact st_zast C hd e hs.2.1 (hK _ _ (lH_use (hs.2.2.2 e)))
  | lastore =>
    simp only [stp] at hs
    simp only [chk, decide_eq_true_eq] at hc
    subst hc
    replace hs := pL_inv hs
    obtain ⟨x, st, rfl, hs⟩ := hs
    replace hs := pI_inv hs
    obtain ⟨i, st, rfl, hs⟩ := hs
    replace hs := pR_inv hs
    obtain ⟨a, st, rfl, hs⟩ := hs
    exact st_last C hd hs.1 hs.2.1 (hK _ _ (lH_use hs.2.2))
  | aastore =>
    simp only [stp] at hs
    simp only [chk, decide_eq_true_eq] at hc
    subst hc
    replace hs := pR_inv hs
    obtain ⟨x, st, rfl, hs⟩ := hs
    replace hs := pI_inv hs
    obtain ⟨i, st, rfl, hs⟩ := hs
    replace hs := pR_inv hs
    obtain ⟨a, st, rfl, hs⟩ := hs
    exact st_aast C hd rfl hs.1.1 hs.1.2 hs.2.1 hs.2.2.1 (hK _ _ (lH_use hs.2.2.2))
  | new i =>
    simp only [stp] at hs
    simp only [chk, Bool.and_eq_true, decide_eq_true_eq] at hc
    obtain ⟨rfl, hc⟩ := hc
    obtain ⟨q, hq, hw⟩ := clsT_ok hc
    have hf := (cl_ok hq).2.2.2.1
    rw [hf] at hs
    exact st_new C hd hq hw (by rw [hE1]; exact hs.1) (by rw [hE2]; exact hs.2.1) (hK _ _ (lH_use hs.2.2))
  | newarray at_ =>
    cases at_ with
    | int =>
      replace hs := pI_inv hs
      obtain ⟨n, st, rfl, hs⟩ := hs
      simp only [chk, decide_eq_true_eq] at hc
      subst hc
      exact st_new_int C hd hs.1 hs.2.1 (by rw [hE1]; exact hs.2.2.1) (by rw [hE2]; exact hs.2.2.2.1) (hK _ _ (lH_use hs.2.2.2.2))
    | byte =>
      replace hs := pI_inv hs
      obtain ⟨n, st, rfl, hs⟩ := hs
      simp only [chk, decide_eq_true_eq] at hc
      subst hc
      exact st_new_byte C hd hs.1 hs.2.1 (by rw [hE1]; exact hs.2.2.1) (by rw [hE2]; exact hs.2.2.2.1) (hK _ _ (lH_use hs.2.2.2.2))
    | boolean =>
      replace hs := pI_inv hs
      obtain ⟨n, st, rfl, hs⟩ := hs
      simp only [chk, decide_eq_true_eq] at hc
      subst hc
      exact st_new_bool C hd hs.1 hs.2.1 (by rw [hE1]; exact hs.2.2.1) (by rw [hE2]; exact hs.2.2.2.1) (hK _ _ (lH_use hs.2.2.2.2))
    | long =>
      replace hs := pI_inv hs
      obtain ⟨n, st, rfl, hs⟩ := hs
      simp only [chk, decide_eq_true_eq] at hc
      subst hc
      exact st_new_long C hd hs.1 hs.2.1 (by rw [hE1]; exact hs.2.2.1) (by rw [hE2]; exact hs.2.2.2.1) (hK _ _ (lH_use hs.2.2.2.2))
    | _ => exact hs.elim
  | anewarray i =>
    simp only [stp] at hs
    replace hs := pI_inv hs
    obtain ⟨n, st, rfl, hs⟩ := hs
    simp only [chk, Bool.and_eq_true, Bool.or_eq_true, decide_eq_true_eq] at hc
    obtain ⟨rfl, hc⟩ := hc
    rcases hc with (⟨rfl, hc⟩ | ⟨rfl, hc⟩) | ⟨rfl, hc⟩
    · obtain ⟨q, hq, hw⟩ := clsT_ok hc
      cases hq
      exact st_newq_Rule C hd hw hs.1 hs.2.1 (by rw [hE1]; exact hs.2.2.1) (by rw [hE2]; exact hs.2.2.2.1) (hK _ _ (lH_use hs.2.2.2.2))
    · obtain ⟨q, hq, hw⟩ := clsT_ok hc
      cases hq
      exact st_newq_Town C hd hw hs.1 hs.2.1 (by rw [hE1]; exact hs.2.2.1) (by rw [hE2]; exact hs.2.2.2.1) (hK _ _ (lH_use hs.2.2.2.2))
    · obtain ⟨q, hq, hw⟩ := clsT_ok hc
      cases hq
      exact st_newq_Moment C hd hw hs.1 hs.2.1 (by rw [hE1]; exact hs.2.2.1) (by rw [hE2]; exact hs.2.2.2.1) (hK _ _ (lH_use hs.2.2.2.2))
  | multianewarray i dm =>
    simp only [stp] at hs
    replace hs := pI_inv hs
    obtain ⟨k, st, rfl, hs⟩ := hs
    replace hs := pI_inv hs
    obtain ⟨n, st, rfl, hs⟩ := hs
    simp only [chk, Bool.and_eq_true, decide_eq_true_eq] at hc
    obtain ⟨⟨rfl, rfl⟩, hc⟩ := hc
    exact st_mna C hd (othT_ok hc) hs.1 hs.2.1 hs.2.2.1 hs.2.2.2.1 (by rw [hE1]; exact hs.2.2.2.2.1) (by rw [hE2]; exact hs.2.2.2.2.2.1) (hK _ _ (lH_use hs.2.2.2.2.2.2))
  | checkcast i =>
    simp only [stp] at hs
    replace hs := pR_inv hs
    obtain ⟨a, st, rfl, hs⟩ := hs
    simp only [chk, Bool.and_eq_true, decide_eq_true_eq] at hc
    obtain ⟨rfl, hc⟩ := hc
    exact st_castI C hd (othT_ok hc) hs.1 (hK _ _ hs.2)
  | invokevirtual i =>
    by_cases h9 : Nat.ble 1000 r1 = true
    · simp only [stp, h9, cond_true] at hs
      simp only [chk, h9, Bool.and_eq_true, cond_true, decide_eq_true_eq] at hc
      obtain ⟨rfl, hc⟩ := hc
      split at hs
      · replace hs := pR_inv hs
        obtain ⟨a, st, rfl, hs⟩ := hs
        obtain ⟨h8, hs⟩ := cond_inv hs
        exact st_clone C hd (splT_ok hc) hs.1 (Nat.le_of_ble_eq_true h8) (by simp) (by rw [hE1]; exact hs.2.1) (by rw [hE2]; exact hs.2.2.1) (hK _ _ (lH_use hs.2.2.2))
      · replace hs := gR_inv hs
        rcases hs with ⟨x, hl, hs⟩ | ⟨t, hl, hs⟩
        · exact hs.elim
        · obtain ⟨st, rfl⟩ := getD_cons hl (by simp)
          obtain ⟨h8, hs⟩ := cond_inv hs
          exact st_strLen C hd (splT_ok hc) hs.1 (Nat.le_of_ble_eq_true h8) hsd rfl (hK _ _ hs.2)
      · replace hs := pI_inv hs
        obtain ⟨i, st, rfl, hs⟩ := hs
        replace hs := gR_inv hs
        rcases hs with ⟨x, hl, hs⟩ | ⟨t, hl, hs⟩
        · exact hs.elim
        · obtain ⟨st, rfl⟩ := getD_cons hl (by simp)
          obtain ⟨h8, hs⟩ := cond_inv hs
          exact st_strAt C hd (splT_ok hc) hs.1 hs.2.1 (Nat.le_of_ble_eq_true h8) hsd rfl (hK _ _ hs.2.2)
      · exact hs.elim
    · simp only [Bool.not_eq_true] at h9
      simp only [stp, h9, cond_false] at hs
      simp only [chk, h9, Bool.and_eq_true, cond_false, decide_eq_true_eq] at hc
      obtain ⟨rfl, hc, hc2⟩ := hc
      obtain ⟨h8, hs⟩ := cond_inv hs
      simp only [Bool.and_eq_true] at h8
      obtain ⟨h7, h8⟩ := h8
      obtain ⟨q, hq, hw⟩ := lnkT_ok hc
      rw [hq] at hc2
      simp only [Bool.and_eq_true, decide_eq_true_eq] at hc2
      obtain ⟨⟨⟨hk1, hr2⟩, hci⟩, hc3⟩ := hc2
      split at hs
      · rename_i a as has
        have hst := take_args h7 has
        have hn : as.length = q.2.2.2.2.2.2 := by have := take_len h7 has; omega
        rw [hst]
        cases hqc : cl13[q.2.2.2.2.1]? with
        | none => rw [hqc] at hc3; cases hc3
        | some qc =>
          rw [hqc] at hc3
          simp only [decide_eq_true_eq] at hc3
          refine clK_use hq hE1 hE2 hs.2 (fun F1 F2 g1 g2 hc9 => ?_)
          exact st_callV C hd hk1 hw hqc hc3 (by rw [hs.1, hci]) hn (mtl_ok hq) (Nat.le_of_ble_eq_true h8) rfl g1 g2 (CallsM.mono hc9 (fun r h' k => hK _ _ (rK_ok k)))
      · exact hs.elim
  | invokespecial i =>
    by_cases h9 : Nat.ble 1000 r1 = true
    · simp only [stp, h9, cond_true] at hs
      simp only [chk, h9, Bool.and_eq_true, cond_true, decide_eq_true_eq] at hc
      obtain ⟨rfl, hc⟩ := hc
      split at hs
      · replace hs := pR_inv hs
        obtain ⟨a, st, rfl, hs⟩ := hs
        obtain ⟨h8, hs⟩ := cond_inv hs
        exact Wst.wf (fun w => st_objInit C hd (splT_ok hc) (w.2 a (by omega)).1 (Nat.le_of_ble_eq_true h8) (by simp) (hK _ _ hs.2))
      · exact hs.elim
    · simp only [Bool.not_eq_true] at h9
      simp only [stp, h9, cond_false] at hs
      simp only [chk, h9, Bool.and_eq_true, cond_false, decide_eq_true_eq] at hc
      obtain ⟨rfl, hc2⟩ := hc
      obtain ⟨h8, hs⟩ := cond_inv hs
      simp only [Bool.and_eq_true] at h8
      obtain ⟨h7, h8⟩ := h8
      cases hq : mtl[r1]? with
      | none => rw [hq] at hc2; cases hc2
      | some q =>
        rw [hq] at hc2
        simp only [Bool.and_eq_true, Bool.or_eq_true, decide_eq_true_eq] at hc2
        obtain ⟨hr2, hc3⟩ := hc2
        split at hs
        · rename_i a as has
          have hst := take_args h7 has
          have hn : as.length = q.2.2.2.2.2.2 := by have := take_len h7 has; omega
          rw [hst]
          refine clK_use hq hE1 hE2 hs.2 (fun F1 F2 g1 g2 hc9 => Wst.wf (fun w => ?_))
          have ha := (w.2 a (by omega)).1
          rcases hc3 with ⟨hk1, hc3⟩ | ⟨hk1, hc3⟩
          · obtain ⟨q2, hq2, hw⟩ := lnkT_ok hc3
            cases hq.symm.trans hq2
            exact st_callI C hd hk1 hw ha hn (mtl_ok hq) (Nat.le_of_ble_eq_true h8) rfl g1 g2 (CallsM.mono hc9 (fun r h' k => hK _ _ (rK_ok k)))
          · exact st_callN C hd hk1 (List.mem_of_getElem? hc3) ha hn (mtl_ok hq) (Nat.le_of_ble_eq_true h8) rfl g1 g2 (CallsM.mono hc9 (fun r h' k => hK _ _ (rK_ok k)))
        · exact hs.elim
  | invokestatic i =>
    by_cases h9 : Nat.ble 1000 r1 = true
    · simp only [stp, h9, cond_true] at hs
      simp only [chk, h9, Bool.and_eq_true, cond_true, decide_eq_true_eq] at hc
      obtain ⟨rfl, hc⟩ := hc
      split at hs
      · replace hs := pI_inv hs
        obtain ⟨n, st, rfl, hs⟩ := hs
        replace hs := pI_inv hs
        obtain ⟨dp, st, rfl, hs⟩ := hs
        replace hs := pR_inv hs
        obtain ⟨b, st, rfl, hs⟩ := hs
        replace hs := pI_inv hs
        obtain ⟨sp, st, rfl, hs⟩ := hs
        replace hs := pR_inv hs
        obtain ⟨a, st, rfl, hs⟩ := hs
        obtain ⟨h8, hs⟩ := cond_inv hs
        exact st_copy C hd (splT_ok hc) hs.1 hs.2.1 hs.2.2.1 hs.2.2.2.1 hs.2.2.2.2.1 hs.2.2.2.2.2.1 hs.2.2.2.2.2.2.1 (Nat.le_of_ble_eq_true h8) (by simp) (hK _ _ (lH_use hs.2.2.2.2.2.2.2))
      · replace hs := pI_inv hs
        obtain ⟨y, st, rfl, hs⟩ := hs
        replace hs := pI_inv hs
        obtain ⟨x, st, rfl, hs⟩ := hs
        obtain ⟨h8, hs⟩ := cond_inv hs
        exact st_max C hd (splT_ok hc) (Nat.le_of_ble_eq_true h8) (by simp) (hK _ _ hs)
      · replace hs := pI_inv hs
        obtain ⟨y, st, rfl, hs⟩ := hs
        replace hs := pI_inv hs
        obtain ⟨x, st, rfl, hs⟩ := hs
        obtain ⟨h8, hs⟩ := cond_inv hs
        exact st_min C hd (splT_ok hc) (Nat.le_of_ble_eq_true h8) (by simp) (hK _ _ hs)
      · exact hs.elim
    · simp only [Bool.not_eq_true] at h9
      simp only [stp, h9, cond_false] at hs
      simp only [chk, h9, Bool.and_eq_true, cond_false, decide_eq_true_eq] at hc
      obtain ⟨rfl, hc, hc2⟩ := hc
      obtain ⟨h8, hs⟩ := cond_inv hs
      simp only [Bool.and_eq_true] at h8
      obtain ⟨h7, h8⟩ := h8
      obtain ⟨q, hq, hw⟩ := lnkT_ok hc
      rw [hq] at hc2
      simp only [Bool.and_eq_true, decide_eq_true_eq] at hc2
      obtain ⟨hk1, hr2⟩ := hc2
      have hst : st = (st.take r2).reverse.reverse ++ st.drop r2 := by rw [List.reverse_reverse, List.take_append_drop]
      have hn : (st.take r2).reverse.length = q.2.2.2.2.2.2 := by
        have := Nat.le_of_ble_eq_true h7
        simp only [List.length_reverse, List.length_take]
        omega
      refine clK_use hq hE1 hE2 hs (fun F1 F2 g1 g2 hc9 => ?_)
      rw [hst]
      exact st_callS C hd hk1 hw hn (mtl_ok hq) (Nat.le_of_ble_eq_true h8) rfl g1 g2 (CallsM.mono hc9 (fun r h' k => hK _ _ (rK_ok k)))
  | ireturn =>
    simp only [stp] at hs
    simp only [chk, decide_eq_true_eq] at hc
    subst hc
    replace hs := pI_inv hs
    obtain ⟨x, st, rfl, hs⟩ := hs
    obtain ⟨h8, hs⟩ := cond_inv hs
    cases List.isEmpty_iff.mp h8
    exact hR _ _ _ _ _ _ hd ⟨x, rfl, rfl⟩ hs
  | lreturn =>
    simp only [stp] at hs
    simp only [chk, decide_eq_true_eq] at hc
    subst hc
    replace hs := pL_inv hs
    obtain ⟨x, st, rfl, hs⟩ := hs
    obtain ⟨h8, hs⟩ := cond_inv hs
    cases List.isEmpty_iff.mp h8
    exact hR _ _ _ _ _ _ hd ⟨x, rfl, rfl⟩ hs
  | areturn =>
    simp only [stp] at hs
    simp only [chk, decide_eq_true_eq] at hc
    subst hc
    replace hs := gR_inv hs
    rcases hs with ⟨x, hl, hs⟩ | ⟨x, hl, hs⟩
    · obtain ⟨st, rfl⟩ := getD_cons hl (by simp)
      obtain ⟨h8, hs⟩ := cond_inv hs
      cases List.isEmpty_iff.mp h8
      exact hR _ _ _ _ _ _ hd ⟨x, Or.inl ⟨rfl, rfl⟩⟩ hs
    · obtain ⟨st, rfl⟩ := getD_cons hl (by simp)
      obtain ⟨h8, hs⟩ := cond_inv hs
      cases List.isEmpty_iff.mp h8
      exact hR _ _ _ _ _ _ hd ⟨x, Or.inr ⟨rfl, rfl⟩⟩ hs
  | return_ =>
    simp only [stp] at hs
    simp only [chk, decide_eq_true_eq] at hc
    subst hc
    obtain ⟨h8, hs⟩ := cond_inv hs
    cases List.isEmpty_iff.mp h8
    exact hR _ _ _ _ _ _ hd ⟨rfl, rfl⟩ hs
  | _ => exact hs.elim
