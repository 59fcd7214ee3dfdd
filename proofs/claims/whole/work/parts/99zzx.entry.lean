/-! what holds at the law's entry -/
theorem tb {w : Cond} (a : Nat × Nat) (h : (tblC a.1)[a.2]? = some w) : w ∈ lw_tbl := tblC_in (List.mem_of_getElem? h)
def nrw : List Cond := flatC (Jvm.Cond.and given_1 narrow_1)
def sqS (i : Nat) : String × Nat × String := strs.getD i ("", 0, "")
def tmS (i : Nat) : Term := .string (sqS i).1 (sqS i).2.1
def bsS : List Nat := [48, 143, 152, 164, 175, 186, 200, 215, 229, 246, 265, 283, 302, 324, 346, 367, 388, 411, 435]
def plS : List (Nat × Nat) := [(2, 231), (6, 80), (6, 81), (6, 82), (6, 138), (6, 162), (6, 163), (6, 164), (6, 165), (6, 166), (6, 167), (6, 168), (6, 169), (6, 170), (6, 171), (6, 172), (6, 185), (6, 202), (6, 203)]
def plN : List (Nat × Nat) := [(1, 32), (1, 38), (1, 112), (1, 118), (1, 238), (2, 5), (2, 25), (2, 32), (2, 71), (2, 78), (2, 100), (2, 160)]
set_option maxRecDepth 100000 in
theorem n_ex : ∀ i, i < 19 → nrw[bsS.getD i 0]? = some (Cond.exactly (tmS i) "java/lang/String") := by decide +kernel
set_option maxRecDepth 100000 in
theorem n_co : ∀ i, i < 19 → nrw[bsS.getD i 0 + 1]? = some (Cond.eq (.field (tmS i) "java/lang/String" "coder" "B") (.int 0)) := by decide +kernel
set_option maxRecDepth 100000 in
theorem n_ar : ∀ i, i < 19 → nrw[bsS.getD i 0 + 2]? = some (Cond.arrayOf (.field (tmS i) "java/lang/String" "value" "[B") .byte) := by decide +kernel
set_option maxRecDepth 100000 in
theorem n_le : ∀ i, i < 19 → nrw[bsS.getD i 0 + 3]? = some (Cond.eq (.length (.field (tmS i) "java/lang/String" "value" "[B")) (.int (Int32.ofNat (strLen.getD i 0)))) := by decide +kernel
set_option maxRecDepth 100000 in
theorem n_el : ∀ i, i < 19 → ∀ j, j < strLen.getD i 0 → nrw[bsS.getD i 0 + 4 + j]? = some (Cond.eq (.elem (.field (tmS i) "java/lang/String" "value" "[B") (.int (Int32.ofNat j))) (.int ((strB.getD i []).getD j 0))) := by decide +kernel
set_option maxRecDepth 100000 in
theorem n_ne : ∀ j, j < 19 → ∀ i, i < j → nrw[bsS.getD j 0 + 4 + strLen.getD j 0 + i]? = some (Cond.not (Cond.eq (tmS i) (tmS j))) := by decide +kernel
set_option maxRecDepth 100000 in
theorem n_st : ∀ i, i < 19 → (tblC (plS.getD i (0, 0)).1)[(plS.getD i (0, 0)).2]? = some (Cond.stringRef (sqS i).1 (sqS i).2.1 (sqS i).2.2) := by decide +kernel
def nqN (i : Nat) : String × Nat × MethodName := nestW.getD i ("", 0, ⟨"", "", ""⟩)
set_option maxRecDepth 100000 in
theorem n_nw : ∀ i, i < 12 → (tblC (plN.getD i (0, 0)).1)[(plN.getD i (0, 0)).2]? = some (Cond.methodLinkNest (nqN i).1 (nqN i).2.1 (nqN i).2.2 "HeadHill") := by decide +kernel
theorem getD_of {α : Type} {l : List α} {i : Nat} {a d : α} (h : l[i]? = some a) : l.getD i d = a := by rw [List.getD_eq_getElem?_getD, h]; rfl
section ENTRY
variable {s : State} {b : Nat}
theorem e_hard (hts : ∀ w ∈ lw_tbl, w.before #[Value.ref b] s = true) : Hard s := by
  refine ⟨fun q hq => ?_, va_AO.of (hts _ (tb (1, 109) (by decide +kernel))), va_AO.of (hts _ (tb (1, 211) (by decide +kernel))), va_AO.of (hts _ (tb (1, 163) (by decide +kernel))), hts (.arrayOver (.array .int)) (tb (2, 34) (by decide +kernel)), va_Nw.of rfl (hts (.castable "[I" "java/lang/Cloneable") (tb (3, 167) (by decide +kernel)))⟩
  obtain ⟨i, hi⟩ := List.getElem?_of_mem hq
  have hl : i < 12 := (List.getElem?_eq_some_iff.mp hi).1
  have e : nqN i = q := getD_of hi
  have := hts _ (tb _ (n_nw i hl))
  rw [e] at this
  exact va_Nw.of rfl this
theorem e_str (hts : ∀ w ∈ lw_tbl, w.before #[Value.ref b] s = true) (hgv : (Jvm.Cond.and given_1 narrow_1).before #[Value.ref b] s = true) {A : Nat → Prop} (hA : ∀ a : Nat, a < s.heap.size → ¬ A a) : ∃ adK adV : Nat → Nat, vk_S 19 strLen strB adK adV A s s.heap ∧ ∀ (i : Nat) (q : String × Nat × String), strs[i]? = some q → vk_R q.1 q.2.1 q.2.2 (adK i) s := by
  have hs : ∀ {k : Nat} {w : Cond}, nrw[k]? = some w → w.before #[Value.ref b] s = true := fun h => flat_of_before _ hgv _ (List.mem_of_getElem? h)
  obtain ⟨adK, adV, h1, h2⟩ := vk_Sof (args := #[Value.ref b]) (s := s) (N := 19) (tm := tmS) (len := strLen) (byt := strB) (A := A) (by decide) (fun i hi => hs (n_ex i hi)) (fun i hi => hs (n_co i hi)) (fun i hi => hs (n_ar i hi)) (fun i hi => hs (n_le i hi)) (fun i hi j hj => hs (n_el i hi j hj)) (fun i j hi hj hne => by
    rcases Nat.lt_or_ge i j with h | h
    · exact Or.inl (hs (n_ne j hj i h))
    · exact Or.inr (hs (n_ne i hi j (by omega)))) hA
  refine ⟨adK, adV, h1, fun i q hq => ?_⟩
  have hl : i < 19 := (List.getElem?_eq_some_iff.mp hq).1
  have e : sqS i = q := getD_of hq
  have a1 := hts _ (tb _ (n_st i hl))
  have a2 := h2 i hl
  unfold tmS at a2
  rw [e] at a1 a2
  exact vk_R.of a1 a2
theorem e_cid (hts : ∀ w ∈ lw_tbl, w.before #[Value.ref b] s = true) : ∃ cid : Nat → ClassId, ∀ (k : Nat) (q : ClassId × FieldType), (tysOf cid)[k]? = some q → ArrOfT s q.1 q.2 ∧ va_RA s q.1 q.2 := by
  obtain ⟨c1, k1, p1, f1, g1, e1⟩ := Cond.arrayClass_spec (hts (.arrayClass .int) (tb (1, 107) (by decide +kernel)))
  obtain ⟨c2, k2, p2, f2, g2, e2⟩ := Cond.arrayClass_spec (hts (.arrayClass .byte) (tb (1, 71) (by decide +kernel)))
  obtain ⟨c3, k3, p3, f3, g3, e3⟩ := Cond.arrayClass_spec (hts (.arrayClass .boolean) (tb (6, 40) (by decide +kernel)))
  obtain ⟨c4, k4, p4, f4, g4, e4⟩ := Cond.arrayClass_spec (hts (.arrayClass .long) (tb (1, 235) (by decide +kernel)))
  obtain ⟨p5, c5, k5, m5, -, g5, e5, f5⟩ := Cond.arrayOver_spec (hts (.arrayOver (.object RX6)) (tb (1, 109) (by decide +kernel)))
  obtain ⟨p6, c6, k6, m6, -, g6, e6, f6⟩ := Cond.arrayOver_spec (hts (.arrayOver (.object RX9)) (tb (1, 211) (by decide +kernel)))
  obtain ⟨p7, c7, k7, m7, -, g7, e7, f7⟩ := Cond.arrayOver_spec (hts (.arrayOver (.object RX4)) (tb (1, 163) (by decide +kernel)))
  obtain ⟨p8, c8, k8, -, g8, e8, f8⟩ := Cond.arrayOver_specA (hts (.arrayOver (.array .int)) (tb (2, 34) (by decide +kernel)))
  refine ⟨fun k => match k with
    | 1 => c1
    | 2 => c2
    | 3 => c3
    | 4 => c4
    | 5 => c5
    | 6 => c6
    | 7 => c7
    | _ => c8, fun k q hq => ?_⟩
  match k, hq with
  | 0, hq => cases hq; exact ⟨fun n z => ⟨(fun k h => by cases h), k1, g1, p1, e1⟩, f1⟩
  | 1, hq => cases hq; exact ⟨fun n z => ⟨(fun k h => by cases h), k2, g2, p2, e2⟩, f2⟩
  | 2, hq => cases hq; exact ⟨fun n z => ⟨(fun k h => by cases h), k3, g3, p3, e3⟩, f3⟩
  | 3, hq => cases hq; exact ⟨fun n z => ⟨(fun k h => by cases h), k4, g4, p4, e4⟩, f4⟩
  | 4, hq => cases hq; exact ⟨fun n z => ⟨(fun k h => by cases h), k5, g5, p5, e5⟩, k5, p5, g5, e5, m5, f5⟩
  | 5, hq => cases hq; exact ⟨fun n z => ⟨(fun k h => by cases h), k6, g6, p6, e6⟩, k6, p6, g6, e6, m6, f6⟩
  | 6, hq => cases hq; exact ⟨fun n z => ⟨(fun k h => by cases h), k7, g7, p7, e7⟩, k7, p7, g7, e7, m7, f7⟩
  | 7, hq => cases hq; exact ⟨fun n z => ⟨(fun k h => by cases h), k8, g8, p8, e8⟩, f8⟩
  | k + 8, hq => simp [tysOf] at hq
theorem e_cls (hts : ∀ w ∈ lw_g, w.before #[Value.ref b] s = true) : ∃ D : va_G, ∀ (c : Nat) (q : vw_C), cl13[c]? = some q → u_Kn s q.1 q.2.1 q.2.2 (D.1 c) (D.2 c) := by
  have h0 : ∀ c : Nat, ∃ r : ClassId × (Nat → Nat), ∀ q : vw_C, cl13[c]? = some q → u_Kn s q.1 q.2.1 q.2.2 r.1 r.2 := by
    intro c
    cases h : cl13[c]? with
    | none => exact ⟨(0, fun _ => 0), fun q hq => by cases hq⟩
    | some q =>
      have ok := cl_ok h
      obtain ⟨cC, iS, hk⟩ := u_known (C := q.1) (T := q.2.1) (N := q.2.2) (n := q.2.2) hts ok.1 (hts _ ok.2.2.2.2.1)
      exact ⟨(cC, iS), fun q' hq => by cases hq; exact hk⟩
  obtain ⟨f, hf⟩ := Classical.axiomOfChoice h0
  exact ⟨(fun c => (f c).1, fun c => (f c).2), fun c q hq => hf c q hq⟩
theorem e_all (hts : ∀ w ∈ lw_tbl, w.before #[Value.ref b] s = true) (hgv : (Jvm.Cond.and given_1 narrow_1).before #[Value.ref b] s = true) {B : Nat} (hB : s.heap.size = B + 1) : ∃ (D : va_G) (cid adK adV : Nat → Nat), va_K D cl13 (tysOf cid) s ∧ Str adK adV B s ∧ adK 19 = b := by
  have hA : ∀ a : Nat, a < s.heap.size → ¬ AB B a := fun a ha => by unfold AB; omega
  have htg : ∀ w ∈ lw_g, w.before #[Value.ref b] s = true := fun w hw => hts w (List.mem_filter.mp hw).1
  have hs := flat_of_before _ hgv
  obtain ⟨D, hD⟩ := e_cls htg
  obtain ⟨cid, hC⟩ := e_cid hts
  obtain ⟨adK, adV, h1, h2⟩ := e_str hts hgv hA
  refine ⟨D, cid, fun i => if i = 19 then b else adK i, adV, ⟨hD, hC⟩, ⟨⟨fun i hi => ?_, fun i j hi hj e => ?_⟩, fun i q hq => ?_, ?_, ?_, e_hard hts⟩, if_pos rfl⟩
  · dsimp only; rw [if_neg (show ¬ i = 19 by omega)]; exact h1.1 i hi
  · dsimp only at e; rw [if_neg (show ¬ i = 19 by omega), if_neg (show ¬ j = 19 by omega)] at e; exact h1.2 i j hi hj e
  · have hl : i < 19 := (List.getElem?_eq_some_iff.mp hq).1
    dsimp only
    rw [if_neg (show ¬ i = 19 by omega)]
    exact h2 i q hq
  · exact va_Zof (hts _ (tb (3, 1) (by decide +kernel))) (hts _ (tb (1, 14) (by decide +kernel))) (va_eqi (hs _ (List.mem_of_getElem? (i := 4) (by decide +kernel)))) hA
  · exact va_Zqof (hts _ (tb (3, 17) (by decide +kernel))) (hts _ (tb (1, 16) (by decide +kernel))) (hs _ (List.mem_of_getElem? (i := 5) (by decide +kernel))) hA
end ENTRY
