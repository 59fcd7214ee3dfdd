/-! Runs of the executor; what a method comes to (Reach); a method's contract out of its entry. -/
def findA (code : List AI) (pc : Nat) : Option AI := match code with
  | [] => none
  | q :: r => cond (Nat.beq q.1 pc) (some q) (findA r pc)
def cutA (cut : List (Nat × List Nat)) (pc : Nat) : Option (List Nat) := match cut with
  | [] => none
  | q :: r => cond (Nat.beq q.1 pc) (some q.2) (cutA r pc)
def runP (d E1 E2 : Nat) (scr : Option (Nat × (Nat → Int32))) (Kc : Fr → AH → Prop) (Rt : Option Value → AH → Prop) (code : List AI) (cut : List (Nat × List Nat)) : Nat → Fr → AH → Prop
  | 0, f, h => Kc f h
  | n + 1, f, h => match findA code f.1 with
    | some q => stp d E1 E2 scr (fun f' h' => match cutA cut f'.1 with
      | some ks => Kc (f'.1, killL ks f'.2.1, f'.2.2) h'
      | none => runP d E1 E2 scr Kc Rt code cut n f' h') Rt q.1 q.2.1 q.2.2.2.1 q.2.2.2.2.1 q.2.2.2.2.2.1 q.2.2.2.2.2.2.2 f.2.1 f.2.2 h
    | none => False
def okB (own mname : String) (cc : ByteArray) (nL : Nat) (code : List AI) : Bool := code.all (fun q => decide (decode cc q.1 = .ok (q.2.1, q.2.2.1)) && chk own mname nL q.1 q.2.1 q.2.2.1 q.2.2.2.1 q.2.2.2.2.1 q.2.2.2.2.2.1 q.2.2.2.2.2.2.1 q.2.2.2.2.2.2.2)
theorem findA_in : ∀ {code : List AI} {pc : Nat} {q : AI}, findA code pc = some q → q ∈ code ∧ q.1 = pc
  | [], _, _, h => by cases h
  | x :: r, pc, q, h => by
    unfold findA at h
    by_cases e : Nat.beq x.1 pc = true
    · rw [e] at h
      cases h
      exact ⟨List.mem_cons_self, Nat.eq_of_beq_eq_true e⟩
    · simp only [Bool.not_eq_true] at e
      rw [e] at h
      exact ⟨List.mem_cons_of_mem _ (findA_in h).1, (findA_in h).2⟩
theorem runP_ok {X : CX} {own mname : String} {cc : ByteArray} {d nL E1 E2 : Nat} {scr : Option (Nat × (Nat → Int32))} (C : Ctx X (own, cc, mname, d + 1, scr)) (hsd : 4 ≤ d) (hnL : X.2.2.1 = nL) (hE1 : X.2.2.2.2.2.1 = E1) (hE2 : X.2.2.2.2.2.2 = E2) {Kc : Fr → AH → Prop} {Rt : Option Value → AH → Prop} (hK : ∀ f h, Kc f h → Wst X f h) (hR : ∀ (pc : Nat) (ins : Instr) (L st : List Value) (v : Option Value) (h : AH), decode cc pc = .ok (ins, 1) → retS ins st v → Rt v h → Wst X (pc, L, st) h) {code : List AI} {cut : List (Nat × List Nat)} (hok : okB own mname cc nL code = true) : ∀ (n : Nat) (f : Fr) (h : AH), runP d E1 E2 scr Kc Rt code cut n f h → Wst X f h
  | 0, f, h, hs => hK f h hs
  | n + 1, (pc, L, st), h, hs => by
    simp only [runP] at hs
    cases hq : findA code pc with
    | none => rw [hq] at hs; exact hs.elim
    | some q =>
      rw [hq] at hs
      obtain ⟨hin, hpc⟩ := findA_in hq
      have h1 := List.all_eq_true.mp hok q hin
      simp only [Bool.and_eq_true, decide_eq_true_eq] at h1
      have key := stp_ok C hsd hnL hE1 hE2 (K := fun f' h' => match cutA cut f'.1 with
        | some ks => Kc (f'.1, killL ks f'.2.1, f'.2.2) h'
        | none => runP d E1 E2 scr Kc Rt code cut n f' h') (Rt := Rt) (fun f' h' hk => ?_) hR h1.1 h1.2 hs
      · rw [hpc] at key
        exact key
      · obtain ⟨pc', L', st'⟩ := f'
        simp only at hk
        split at hk
        · rename_i ks hks
          exact Wst.kill ks (hK _ _ hk)
        · exact runP_ok C hsd hnL hE1 hE2 hK hR hok n _ _ hk
/-- what a return must answer, by the method's type -/
def rQ (ret : Option FieldType) (v : Option Value) (P : Prop) : Prop := match ret, v with
  | some .boolean, some (.int x) => (x = 0 ∨ x = 1) ∧ P
  | some .int, some (.int _) => P
  | some .long, some (.long _) => P
  | some (.object _), some (.ref _) => P
  | some (.object _), some (.retAddr _) => P
  | some (.array _), some (.ref _) => P
  | none, none => P
  | _, _ => False
def RtOf (ret : Option FieldType) (E1 E2 : Nat) (Q : Option Value → AH → Prop) (v : Option Value) (h : AH) : Prop := hN h = E1 ∧ hU h = E2 ∧ rQ ret v (Q v h)
def Act (d : Nat) (q : MT) (E1 E2 : Nat) (Q : Option Value → AH → Prop) (X : CX) : Prop := Ctx X (q.1.cls, q.2.1, q.1.name, d + 1, none) ∧ X.2.2.1 = q.2.2.1 ∧ X.2.2.2.2.2 = (E1, E2) ∧ (match X with
  | ((p, l, e, R, s, m, args, below, meth, c, Qm), (B, D, cid, adK, adV), (nL, n0, u0, F1, F2)) => Qm = MQ below (Qout B D cid adK F1 F2 Q) args s (F1 - n0) (F2 - u0) (AB B) ∧ meth.sig.returnType = q.2.2.2.1 ∧ meth.locks = false)
theorem ret_ok {d : Nat} {q : MT} {E1 E2 : Nat} {Q : Option Value → AH → Prop} {X : CX} (A : Act d q E1 E2 Q X) (pc : Nat) (ins : Instr) (L st : List Value) (v : Option Value) (h : AH) (hd : decode q.2.1 pc = .ok (ins, 1)) (hs : retS ins st v) (hr : RtOf q.2.2.2.1 E1 E2 Q v h) : Wst X (pc, L, st) h := by
  obtain ⟨⟨p, l, e, R, s, m, args, below, meth, c, Qm⟩, ⟨B, D, cid, adK, adV⟩, ⟨nL, n0, u0, F1, F2⟩⟩ := X
  obtain ⟨C, hnL, hE, hQm, hret, hlocks⟩ := A
  obtain ⟨hx, hb, hml, hown, hts, hK, hstr, hsz, hnm, hroom, hscr⟩ := C
  simp only [Prod.mk.injEq] at hE
  obtain ⟨rfl, rfl⟩ := hE
  subst hQm
  obtain ⟨h1, h2, h3⟩ := hr
  intro H locs ls r1 r2 r3 r4
  rw [h1, h2]
  have hq : ∀ (P : Q v h) (t : State), t.heap = H → Qout B D cid adK F1 F2 Q args s (.returned (v.map (cv B adK))) t := fun P t ht => ⟨⟨v, h, rfl, P, by rw [ht]; exact r1, h1, h2⟩, by rw [ht]; exact r2.1, fun a a1 a2 => by rw [ht]; exact r2.2.1 a a1 a2⟩
  cases ins with
  | ireturn =>
    obtain ⟨x, rfl, rfl⟩ := hs
    cases hrt : q.2.2.2.1 with
    | none => rw [hrt] at h3; exact h3.elim
    | some ty =>
      rw [hrt] at h3 hret
      cases ty with
      | boolean => exact W.zret (ty := .boolean) hx hb hret (by rcases h3.1 with rfl | rfl <;> rfl) (fun t ht _ => hq h3.2 t ht) r2.2.2 hd
      | int => exact W.iret hx hb hret (fun t ht _ => hq h3 t ht) r2.2.2 hd
      | _ => exact h3.elim
  | lreturn =>
    obtain ⟨x, rfl, rfl⟩ := hs
    cases hrt : q.2.2.2.1 with
    | none => rw [hrt] at h3; exact h3.elim
    | some ty =>
      rw [hrt] at h3 hret
      cases ty with
      | long => exact W.lret hx hb hret (fun t ht _ => hq h3 t ht) r2.2.2 hd
      | _ => exact h3.elim
  | areturn =>
    obtain ⟨x, ⟨rfl, rfl⟩ | ⟨rfl, rfl⟩⟩ := hs
    · have hv : cv B adK (.ref x) = .null ∨ ∃ a, cv B adK (.ref x) = .ref a := (cv_ref B adK x).elim (fun z => Or.inl z.1) (fun z => Or.inr ⟨_, z.1⟩)
      cases hrt : q.2.2.2.1 with
      | none => rw [hrt] at h3; exact h3.elim
      | some ty =>
        rw [hrt] at h3 hret
        cases ty with
        | object n => exact W.aret hx hb hret (Or.inl ⟨n, rfl⟩) hv (fun t ht _ => hq h3 t ht) r2.2.2 hd
        | array n => exact W.aret hx hb hret (Or.inr ⟨n, rfl⟩) hv (fun t ht _ => hq h3 t ht) r2.2.2 hd
        | _ => exact h3.elim
    · cases hrt : q.2.2.2.1 with
      | none => rw [hrt] at h3; exact h3.elim
      | some ty =>
        rw [hrt] at h3 hret
        cases ty with
        | object n => exact W.aret (v := .ref (adK x)) hx hb hret (Or.inl ⟨n, rfl⟩) (Or.inr ⟨_, rfl⟩) (fun t ht _ => hq h3 t ht) r2.2.2 hd
        | _ => exact h3.elim
  | return_ =>
    obtain ⟨rfl, rfl⟩ := hs
    cases hrt : q.2.2.2.1 with
    | none =>
      rw [hrt] at h3 hret
      exact W.vret hx hb hret (fun t ht _ => hq h3 t ht) r2.2.2 hd
    | some ty => rw [hrt] at h3; cases ty <;> exact h3.elim
  | _ => exact hs.elim
/-- from a place f of method y, over heap h, it returns with Q -/
def Reach (d y : Nat) (f : Fr) (h : AH) (E1 E2 : Nat) (Q : Option Value → AH → Prop) : Prop := ∀ (q : MT) (X : CX), mtl[y]? = some q → Act d q E1 E2 Q X → Wst X f h
def codeOk (y : Nat) (code : List AI) : Prop := ∃ q, mtl[y]? = some q ∧ okB q.1.cls q.1.name q.2.1 q.2.2.1 code = true
theorem reach_rule {d y E1 E2 : Nat} {Q : Option Value → AH → Prop} {code : List AI} {q : MT} (cut : List (Nat × List Nat)) (n : Nat) {f : Fr} {h : AH} (hok : codeOk y code) (hq : mtl[y]? = some q) (hsd : 4 ≤ d) (hs : runP d E1 E2 none (fun f h => Reach d y f h E1 E2 Q) (RtOf q.2.2.2.1 E1 E2 Q) code cut n f h) : Reach d y f h E1 E2 Q := by
  intro q1 X hq1 A
  cases hq.symm.trans hq1
  obtain ⟨q2, hq2, hok⟩ := hok
  cases hq.symm.trans hq2
  exact runP_ok A.1 hsd A.2.1 (by rw [A.2.2.1]) (by rw [A.2.2.1]) (fun f h k => k q X hq A) (fun pc ins L st v h h1 h2 h3 => ret_ok A pc ins L st v h h1 h2 h3) hok n f h hs
def layL : List Value → List Value
  | [] => []
  | v :: r => cond (isL2 v) (v :: .float 0 :: layL r) (v :: layL r)
def entL (as : List Value) (nL : Nat) : List Value := layL as ++ List.replicate (nL - (layL as).length) (.float 0)
theorem isL2_cat (v : Value) : isL2 v = true ↔ v.category = 2 := by cases v <;> simp [isL2, Value.category]
theorem lay_at (B : Nat) (adK : Nat → Nat) : ∀ (as : List Value) (k i : Nat) (v : Value), (layL as)[i]? = some v → v ≠ .float 0 → (k + i, cv B adK v) ∈ lv_args k (as.map (cv B adK))
  | [], _, _, _, h, _ => by simp [layL] at h
  | a :: r, k, i, v, h, hv => by
    simp only [layL] at h
    simp only [List.map_cons, lv_args, cv_cat]
    by_cases e : isL2 a = true
    · rw [e] at h
      simp only [cond_true] at h
      rw [if_pos ((isL2_cat a).mp e)]
      cases i with
      | zero => simp at h; subst h; exact List.mem_cons_self
      | succ i =>
        cases i with
        | zero => simp at h; exact absurd h.symm hv
        | succ i =>
          have := lay_at B adK r (k + 2) i v (by simpa using h) hv
          refine List.mem_cons_of_mem _ ?_
          rw [show k + (i + 1 + 1) = k + 2 + i by omega]
          exact this
    · have e2 : ¬ a.category = 2 := fun z => e ((isL2_cat a).mpr z)
      simp only [Bool.not_eq_true] at e
      rw [e] at h
      simp only [cond_false] at h
      rw [if_neg e2]
      cases i with
      | zero => simp at h; subst h; exact List.mem_cons_self
      | succ i =>
        have := lay_at B adK r (k + 1) i v (by simpa using h) hv
        refine List.mem_cons_of_mem _ ?_
        rw [show k + (i + 1) = k + 1 + i by omega]
        exact this
theorem lay_len (B : Nat) (adK : Nat → Nat) : ∀ as : List Value, (lg_sl (as.map (cv B adK))).length = (layL as).length
  | [] => rfl
  | a :: r => by
    have ih := lay_len B adK r
    simp only [lg_sl] at ih
    simp only [List.map_cons, lg_sl, List.flatMap_cons, List.length_append, layL, cv_cat, ih]
    by_cases e : isL2 a = true
    · rw [e, if_pos ((isL2_cat a).mp e)]
      simp only [cond_true, List.length_cons, List.length_nil]
      omega
    · have e2 : ¬ a.category = 2 := fun z => e ((isL2_cat a).mpr z)
      simp only [Bool.not_eq_true] at e
      rw [e, if_neg e2]
      simp only [cond_false, List.length_cons, List.length_nil]
      omega
theorem ent_rel {B : Nat} {adK : Nat → Nat} {ls : Array Slot} {as : List Value} {nL : Nat} (h : lv_has ls nL (lv_args 0 (as.map (cv B adK)))) : lrel B adK ls nL (entL as nL) := by
  refine ⟨h.1, h.2.1, fun i v hv hn => ?_⟩
  unfold entL at hv
  by_cases hl : i < (layL as).length
  · rw [List.getElem?_append_left hl] at hv
    have := lay_at B adK as 0 i v hv hn
    rw [Nat.zero_add] at this
    exact h.2.2 _ this
  · rw [List.getElem?_append_right (by omega)] at hv
    have := List.eq_of_mem_replicate (List.mem_of_getElem? hv)
    exact absurd this hn
theorem calls_intro {d y E1 E2 : Nat} {Q : Option Value → AH → Prop} {q : MT} {as : List Value} {h : AH} (hq : mtl[y]? = some q) (h1 : hN h ≤ E1) (h2 : hU h ≤ E2) (hl : (layL as).length ≤ q.2.2.1) (k : Reach d y (0, entL as q.2.2.1, []) h E1 E2 Q) : Calls (d + 1) y as h E1 E2 Q := by
  refine ⟨q, hq, h1, h2, fun l B D cid adK adV => ?_⟩
  have hok := mtl_ok hq
  refine Met.ofW (cc := q.2.1) (maxL := q.2.2.1) (ret := q.2.2.2.1) hok.1 rfl ?_
  intro p e s m args below meth c s₁ Bd hml hv
  obtain ⟨rfl, hp1, hp2, hp3, hp4⟩ := hv
  have hts0 := atoms_spec (ws := wsY q) Bd.pre
  have hts : ∀ w ∈ lw_g, w.before (as.map (cv B adK)).toArray s = true := fun w hw => hts0 w (List.mem_cons_of_mem _ hw)
  have hlv := lv_entry (as.map (cv B adK)) (n := q.2.2.1) (by rw [lay_len]; exact hl)
  rw [lg_entry_eq]
  generalize (lg_sl (as.map (cv B adK)) ++ List.replicate (q.2.2.1 - (lg_sl (as.map (cv B adK))).length) Slot.unset).toArray = ls at hlv ⊢
  have key := k q ((p, l, e, (headSpec (wsY q) (rmOf (d + 1) (E1 - hN h) (E2 - hU h))).room, s, m, (as.map (cv B adK)).toArray, below, meth, c, MQ below (Qout B D cid adK E1 E2 Q) (as.map (cv B adK)).toArray s (E1 - hN h) (E2 - hU h) (AB B)), (B, D, cid, adK, adV), (q.2.2.1, hN h, hU h, E1, E2)) hq
    ⟨⟨Bd.exec, Bd.bytes, hml, findClass_of_methodNamed Bd.named, hts, hp3, hp4, ⟨hp1, hp2.2.1⟩, (name_of_methodNamed Bd.named Bd.method).1, ⟨Nat.le_refl _, Nat.le_refl _, Nat.le_refl _, Nat.le_refl _⟩, fun L xs hz => by cases hz⟩, rfl, rfl, rfl, Bd.returns, Bd.notSynchronized⟩
  have := key s.heap [] ls hp2 va_S.rf (ent_rel hlv) ⟨Nat.le_refl _, Nat.le_refl _, h1, h2⟩
  rw [Nat.sub_self, Nat.sub_self] at this
  exact this
