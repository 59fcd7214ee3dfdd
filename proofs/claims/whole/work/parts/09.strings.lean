/-! length and charAt of a text -/
def qJ0_length_8abf5 : MT := (yJ0_length_8abf5, cJ0_length_8abf5, 1, (some .int), 99, 1, 0)
theorem dJ0_length_8abf5_0 : decode cJ0_length_8abf5 0 = .ok (.aload_n 0, 1) := by decide +kernel
theorem dJ0_length_8abf5_1 : decode cJ0_length_8abf5 1 = .ok (.getfield 9, 3) := by decide +kernel
theorem dJ0_length_8abf5_4 : decode cJ0_length_8abf5 4 = .ok (.arraylength, 1) := by decide +kernel
theorem dJ0_length_8abf5_5 : decode cJ0_length_8abf5 5 = .ok (.aload_n 0, 1) := by decide +kernel
theorem dJ0_length_8abf5_6 : decode cJ0_length_8abf5 6 = .ok (.invokevirtual 335, 3) := by decide +kernel
theorem dJ0_length_8abf5_9 : decode cJ0_length_8abf5 9 = .ok (.ishr, 1) := by decide +kernel
theorem dJ0_length_8abf5_10 : decode cJ0_length_8abf5 10 = .ok (.ireturn, 1) := by decide +kernel
def qJ0_charAt_5068e : MT := (yJ0_charAt_5068e, cJ0_charAt_5068e, 2, (some .char), 99, 1, 1)
theorem dJ0_charAt_5068e_0 : decode cJ0_charAt_5068e 0 = .ok (.aload_n 0, 1) := by decide +kernel
theorem dJ0_charAt_5068e_1 : decode cJ0_charAt_5068e 1 = .ok (.invokevirtual 492, 3) := by decide +kernel
theorem dJ0_charAt_5068e_4 : decode cJ0_charAt_5068e 4 = .ok (.ifCond .eq 12, 3) := by decide +kernel
theorem dJ0_charAt_5068e_7 : decode cJ0_charAt_5068e 7 = .ok (.aload_n 0, 1) := by decide +kernel
theorem dJ0_charAt_5068e_8 : decode cJ0_charAt_5068e 8 = .ok (.getfield 9, 3) := by decide +kernel
theorem dJ0_charAt_5068e_11 : decode cJ0_charAt_5068e 11 = .ok (.iload_n 1, 1) := by decide +kernel
theorem dJ0_charAt_5068e_12 : decode cJ0_charAt_5068e 12 = .ok (.invokestatic 495, 3) := by decide +kernel
theorem dJ0_charAt_5068e_15 : decode cJ0_charAt_5068e 15 = .ok (.ireturn, 1) := by decide +kernel
theorem dJ0_charAt_5068e_16 : decode cJ0_charAt_5068e 16 = .ok (.aload_n 0, 1) := by decide +kernel
theorem dJ0_charAt_5068e_17 : decode cJ0_charAt_5068e 17 = .ok (.getfield 9, 3) := by decide +kernel
theorem dJ0_charAt_5068e_20 : decode cJ0_charAt_5068e 20 = .ok (.iload_n 1, 1) := by decide +kernel
theorem dJ0_charAt_5068e_21 : decode cJ0_charAt_5068e 21 = .ok (.invokestatic 498, 3) := by decide +kernel
theorem dJ0_charAt_5068e_24 : decode cJ0_charAt_5068e 24 = .ok (.ireturn, 1) := by decide +kernel
def qJ0_coder_7d493 : MT := (yJ0_coder_7d493, cJ0_coder_7d493, 1, (some .byte), 99, 1, 0)
theorem dJ0_coder_7d493_0 : decode cJ0_coder_7d493 0 = .ok (.getstatic 38, 3) := by decide +kernel
theorem dJ0_coder_7d493_3 : decode cJ0_coder_7d493 3 = .ok (.ifCond .eq 10, 3) := by decide +kernel
theorem dJ0_coder_7d493_6 : decode cJ0_coder_7d493 6 = .ok (.aload_n 0, 1) := by decide +kernel
theorem dJ0_coder_7d493_7 : decode cJ0_coder_7d493 7 = .ok (.getfield 15, 3) := by decide +kernel
theorem dJ0_coder_7d493_10 : decode cJ0_coder_7d493 10 = .ok (.goto 4, 3) := by decide +kernel
theorem dJ0_coder_7d493_13 : decode cJ0_coder_7d493 13 = .ok (.iconst 1, 1) := by decide +kernel
theorem dJ0_coder_7d493_14 : decode cJ0_coder_7d493 14 = .ok (.ireturn, 1) := by decide +kernel
def qJ0_isLatin1_aae02 : MT := (yJ0_isLatin1_aae02, cJ0_isLatin1_aae02, 1, (some .boolean), 99, 1, 0)
theorem dJ0_isLatin1_aae02_0 : decode cJ0_isLatin1_aae02 0 = .ok (.getstatic 38, 3) := by decide +kernel
theorem dJ0_isLatin1_aae02_3 : decode cJ0_isLatin1_aae02 3 = .ok (.ifCond .eq 14, 3) := by decide +kernel
theorem dJ0_isLatin1_aae02_6 : decode cJ0_isLatin1_aae02 6 = .ok (.aload_n 0, 1) := by decide +kernel
theorem dJ0_isLatin1_aae02_7 : decode cJ0_isLatin1_aae02 7 = .ok (.getfield 15, 3) := by decide +kernel
theorem dJ0_isLatin1_aae02_10 : decode cJ0_isLatin1_aae02 10 = .ok (.ifCond .ne 7, 3) := by decide +kernel
theorem dJ0_isLatin1_aae02_13 : decode cJ0_isLatin1_aae02 13 = .ok (.iconst 1, 1) := by decide +kernel
theorem dJ0_isLatin1_aae02_14 : decode cJ0_isLatin1_aae02 14 = .ok (.goto 4, 3) := by decide +kernel
theorem dJ0_isLatin1_aae02_17 : decode cJ0_isLatin1_aae02 17 = .ok (.iconst 0, 1) := by decide +kernel
theorem dJ0_isLatin1_aae02_18 : decode cJ0_isLatin1_aae02 18 = .ok (.ireturn, 1) := by decide +kernel
def qJ1_charAt_3b067 : MT := (yJ1_charAt_3b067, cJ1_charAt_3b067, 2, (some .char), 99, 0, 2)
theorem dJ1_charAt_3b067_0 : decode cJ1_charAt_3b067 0 = .ok (.iload_n 1, 1) := by decide +kernel
theorem dJ1_charAt_3b067_1 : decode cJ1_charAt_3b067 1 = .ok (.aload_n 0, 1) := by decide +kernel
theorem dJ1_charAt_3b067_2 : decode cJ1_charAt_3b067 2 = .ok (.arraylength, 1) := by decide +kernel
theorem dJ1_charAt_3b067_3 : decode cJ1_charAt_3b067 3 = .ok (.invokestatic 9, 3) := by decide +kernel
theorem dJ1_charAt_3b067_6 : decode cJ1_charAt_3b067 6 = .ok (.aload_n 0, 1) := by decide +kernel
theorem dJ1_charAt_3b067_7 : decode cJ1_charAt_3b067 7 = .ok (.iload_n 1, 1) := by decide +kernel
theorem dJ1_charAt_3b067_8 : decode cJ1_charAt_3b067 8 = .ok (.baload, 1) := by decide +kernel
theorem dJ1_charAt_3b067_9 : decode cJ1_charAt_3b067 9 = .ok (.sipush 255, 3) := by decide +kernel
theorem dJ1_charAt_3b067_12 : decode cJ1_charAt_3b067 12 = .ok (.iand, 1) := by decide +kernel
theorem dJ1_charAt_3b067_13 : decode cJ1_charAt_3b067 13 = .ok (.i2c, 1) := by decide +kernel
theorem dJ1_charAt_3b067_14 : decode cJ1_charAt_3b067 14 = .ok (.ireturn, 1) := by decide +kernel
def qJ0_checkIndex_df160 : MT := (yJ0_checkIndex_df160, cJ0_checkIndex_df160, 2, none, 99, 0, 2)
theorem dJ0_checkIndex_df160_0 : decode cJ0_checkIndex_df160 0 = .ok (.iload_n 0, 1) := by decide +kernel
theorem dJ0_checkIndex_df160_1 : decode cJ0_checkIndex_df160 1 = .ok (.iload_n 1, 1) := by decide +kernel
theorem dJ0_checkIndex_df160_2 : decode cJ0_checkIndex_df160 2 = .ok (.getstatic 1053, 3) := by decide +kernel
theorem dJ0_checkIndex_df160_5 : decode cJ0_checkIndex_df160 5 = .ok (.invokestatic 1059, 3) := by decide +kernel
theorem dJ0_checkIndex_df160_8 : decode cJ0_checkIndex_df160 8 = .ok (.pop, 1) := by decide +kernel
theorem dJ0_checkIndex_df160_9 : decode cJ0_checkIndex_df160 9 = .ok (.return_, 1) := by decide +kernel
def qJ3_checkIndex_8e157 : MT := (yJ3_checkIndex_8e157, cJ3_checkIndex_8e157, 3, (some .int), 99, 0, 3)
theorem dJ3_checkIndex_8e157_0 : decode cJ3_checkIndex_8e157 0 = .ok (.iload_n 0, 1) := by decide +kernel
theorem dJ3_checkIndex_8e157_1 : decode cJ3_checkIndex_8e157 1 = .ok (.ifCond .lt 8, 3) := by decide +kernel
theorem dJ3_checkIndex_8e157_4 : decode cJ3_checkIndex_8e157 4 = .ok (.iload_n 0, 1) := by decide +kernel
theorem dJ3_checkIndex_8e157_5 : decode cJ3_checkIndex_8e157 5 = .ok (.iload_n 1, 1) := by decide +kernel
theorem dJ3_checkIndex_8e157_6 : decode cJ3_checkIndex_8e157 6 = .ok (.if_icmp .lt 10, 3) := by decide +kernel
theorem dJ3_checkIndex_8e157_9 : decode cJ3_checkIndex_8e157 9 = .ok (.aload_n 2, 1) := by decide +kernel
theorem dJ3_checkIndex_8e157_10 : decode cJ3_checkIndex_8e157 10 = .ok (.iload_n 0, 1) := by decide +kernel
theorem dJ3_checkIndex_8e157_11 : decode cJ3_checkIndex_8e157 11 = .ok (.iload_n 1, 1) := by decide +kernel
theorem dJ3_checkIndex_8e157_12 : decode cJ3_checkIndex_8e157 12 = .ok (.invokestatic 95, 3) := by decide +kernel
theorem dJ3_checkIndex_8e157_15 : decode cJ3_checkIndex_8e157 15 = .ok (.athrow, 1) := by decide +kernel
theorem dJ3_checkIndex_8e157_16 : decode cJ3_checkIndex_8e157 16 = .ok (.iload_n 0, 1) := by decide +kernel
theorem dJ3_checkIndex_8e157_17 : decode cJ3_checkIndex_8e157 17 = .ok (.ireturn, 1) := by decide +kernel
theorem qJ0_length_8abf5_ok : mOk qJ0_length_8abf5 := mtl_ok (y := 249) rfl
theorem qJ0_charAt_5068e_ok : mOk qJ0_charAt_5068e := mtl_ok (y := 250) rfl
theorem qJ0_coder_7d493_ok : mOk qJ0_coder_7d493 := mtl_ok (y := 251) rfl
theorem qJ0_isLatin1_aae02_ok : mOk qJ0_isLatin1_aae02 := mtl_ok (y := 252) rfl
theorem qJ1_charAt_3b067_ok : mOk qJ1_charAt_3b067 := mtl_ok (y := 253) rfl
theorem qJ0_checkIndex_df160_ok : mOk qJ0_checkIndex_df160 := mtl_ok (y := 254) rfl
theorem qJ3_checkIndex_8e157_ok : mOk qJ3_checkIndex_8e157 := mtl_ok (y := 255) rfl
theorem wS_38 : Cond.fieldLink RJ0 38 "java/lang/String" "COMPACT_STRINGS" "Z" ∈ lw_g := inA_ok (a := (3, 0)) (by decide +kernel)
theorem wS_15 : Cond.fieldLink RJ0 15 "java/lang/String" "coder" "B" ∈ lw_g := inA_ok (a := (8, 10)) (by decide +kernel)
theorem wS_9 : Cond.fieldLink RJ0 9 "java/lang/String" "value" "[B" ∈ lw_g := inA_ok (a := (8, 9)) (by decide +kernel)
theorem wS_335 : Cond.methodLink RJ0 335 yJ0_coder_7d493 ∈ lw_g := inA_ok (a := (2, 236)) (by decide +kernel)
theorem wS_492 : Cond.methodLink RJ0 492 yJ0_isLatin1_aae02 ∈ lw_g := inA_ok (a := (3, 6)) (by decide +kernel)
theorem wS_495 : Cond.methodLink RJ0 495 yJ1_charAt_3b067 ∈ lw_g := inA_ok (a := (3, 10)) (by decide +kernel)
theorem wS_1053 : Cond.fieldLink RJ0 1053 "jdk/internal/util/Preconditions" "SIOOBE_FORMATTER" "Ljava/util/function/BiFunction;" ∈ lw_g := inA_ok (a := (3, 16)) (by decide +kernel)
theorem wS_1059 : Cond.methodLink RJ0 1059 yJ3_checkIndex_8e157 ∈ lw_g := inA_ok (a := (3, 18)) (by decide +kernel)
theorem wL_9 : Cond.methodLink RJ1 9 yJ0_checkIndex_df160 ∈ lw_g := inA_ok (a := (3, 13)) (by decide +kernel)
def QS (v : Option Value) : Array Value → State → Outcome → State → Prop := fun _ st oc t => oc = .returned v ∧ t.heap = st.heap
theorem run_pure {p : Program} {l : Launch} {e : Env} {R : Room} {s : State} {m : MethodId} {args : Array Value} {below : List Frame} {meth : Method} {c : Code} {H : Heap} {locs : List Loc} {cells slots : Nat} {Qm : State → Prop} {pc : Nat} {ls : Array Slot} {st0 rest : List Value} {a : Array Value} {v : Option Value}
    (hr : va_Run p l e R s m args below meth c H locs cells slots 0 0 (F0 m pc ls st0) rest (QS v a) (fun _ => False)) (kk : ∀ locs1 : List Loc, (∀ q ∈ locs1, q ∈ locs) → W p l e R s m args below meth c H locs1 cells slots Qm (F0 m (pc + 3) ls (v.toList ++ rest))) : W p l e R s m args below meth c H locs cells slots Qm (F0 m pc ls st0) := by
  intro T hT X
  obtain ⟨v', st₀, t, T', L, h0, X', hL, e1, e2, ⟨hv, hh⟩, st⟩ := hr T hT X
  cases hv
  obtain ⟨t2, a1, b1⟩ := kk (locs ++ L) (fun q hq => (List.mem_append.mp hq).elim id (fun h => (hL q h).elim)) T' (by rw [e1, hh, h0]) X'
  exact ⟨t2, st t2 a1, b1⟩
theorem S_blind (adK adV : Nat → Nat) (B : Nat) (av : List Value) : FrameBlind (va_Pc av (Str adK adV B)) := fun a U g mk q => ⟨q.1, Str.same (s := U) (U := U.calling g mk a) rfl rfl q.2⟩
theorem GoodIn_V {own : String} {i : Nat} {q : MT} (hq : mOk q) (hk : q.2.2.2.2.2.1 = 1) (hw : Cond.methodLink own i q.1 ∈ lw_g) : GoodIn lw_g (wsV own i q.1.cls q.1 (wsY q)) := fun w hw2 => by
  obtain ⟨o1, o2, o3, o4, o5, o6, o7, o8, o9⟩ := hq
  rcases List.mem_append.mp hw2 with h9 | h9
  · simp only [List.mem_cons, List.not_mem_nil, or_false] at h9
    rcases h9 with rfl | rfl | rfl | rfl
    · exact ⟨hw, good_of_word (lw_g_ok hw)⟩
    · exact ⟨o7 (by omega), good_of_word (lw_g_ok (o7 (by omega)))⟩
    · exact ⟨o8 hk, good_of_word (lw_g_ok (o8 hk))⟩
    · exact ⟨o3, good_of_word (lw_g_ok o3)⟩
  · exact wsY_good ⟨o1, o2, o3, o4, o5, o6, o7, o8, o9⟩ w h9
theorem GoodIn_S {own : String} {i : Nat} {q : MT} (hq : mOk q) (hk : q.2.2.2.2.2.1 = 0) (hw : Cond.methodLink own i q.1 ∈ lw_g) : GoodIn lw_g (va_wsS own i q.1 (wsY q)) := fun w hw2 => by
  obtain ⟨o1, o2, o3, o4, o5, o6, o7, o8, o9⟩ := hq
  rcases List.mem_append.mp hw2 with h9 | h9
  · simp only [List.mem_cons, List.not_mem_nil, or_false] at h9
    rcases h9 with rfl | rfl | rfl
    · exact ⟨hw, good_of_word (lw_g_ok hw)⟩
    · exact ⟨o6 hk, good_of_word (lw_g_ok (o6 hk))⟩
    · exact ⟨o3, good_of_word (lw_g_ok o3)⟩
  · exact wsY_good ⟨o1, o2, o3, o4, o5, o6, o7, o8, o9⟩ w h9
set_option maxHeartbeats 4000000 in
theorem m_coder (l : Launch) (adK adV : Nat → Nat) (B k : Nat) (hk : k < 19) : Met l yJ0_coder_7d493 (wsY qJ0_coder_7d493) (rmOf 1 0 0) (va_Pc [.ref (adK k)] (Str adK adV B)) (QS (some (.int 0))) 0 0 (fun _ => False) := by
  refine Met.ofW (cc := cJ0_coder_7d493) (maxL := 1) (ret := some .byte) (by decide) rfl ?_
  intro p e s m args below meth c s₁ Bd hml hv
  obtain ⟨rfl, hstr⟩ := hv
  have hx := Bd.exec
  have hb := Bd.bytes
  have hr := Bd.returns
  have hts0 := atoms_spec (ws := wsY qJ0_coder_7d493) Bd.pre
  have hts : ∀ w ∈ lw_g, w.before ([.ref (adK k)] : List Value).toArray s = true := fun w hw => hts0 w (List.mem_cons_of_mem _ hw)
  have hown := findClass_of_methodNamed Bd.named
  have hlocks := Bd.notSynchronized
  have hS : va_S (AB B) s.heap s.heap [] := va_S.rf
  have hl := lv_entry ([.ref (adK k)]) (n := 1) (Nat.le_of_ble_eq_true rfl)
  rw [lg_entry_eq]
  generalize (lg_sl ([.ref (adK k)]) ++ List.replicate (1 - (lg_sl ([.ref (adK k)])).length) Slot.unset).toArray = ls at hl ⊢
  have hl : lv_has ls 1 [(0, .ref (adK k))] := hl
  refine va_gets hx hb hstr.2.2.1 hS hown (hts _ wS_38) (fun x h => h) dJ0_coder_7d493_0 ?_
  refine lv_if_eq (tgt := 13) hx hb dJ0_coder_7d493_3 (by decide) (fun q => absurd q (by decide)) (fun q => ?_)
  refine lv_aload_n hx hb dJ0_coder_7d493_6 rfl (lv_at hl 0 rfl) ?_
  refine vk_getf hx hb (hstr.1.1 k hk).2.1 hS hown (hts _ wS_15) (fun x h => h) dJ0_coder_7d493_7 ?_
  refine lv_goto (tgt := 14) hx hb dJ0_coder_7d493_10 (by decide) ?_
  exact W.zret (ty := .byte) hx hb hr rfl (fun t ht _ => ⟨rfl, ht⟩) (fun q hq => absurd hq List.not_mem_nil) dJ0_coder_7d493_14
set_option maxHeartbeats 4000000 in
theorem m_latin (l : Launch) (adK adV : Nat → Nat) (B k : Nat) (hk : k < 19) : Met l yJ0_isLatin1_aae02 (wsY qJ0_isLatin1_aae02) (rmOf 1 0 0) (va_Pc [.ref (adK k)] (Str adK adV B)) (QS (some (.int 1))) 0 0 (fun _ => False) := by
  refine Met.ofW (cc := cJ0_isLatin1_aae02) (maxL := 1) (ret := some .boolean) (by decide) rfl ?_
  intro p e s m args below meth c s₁ Bd hml hv
  obtain ⟨rfl, hstr⟩ := hv
  have hx := Bd.exec
  have hb := Bd.bytes
  have hr := Bd.returns
  have hts0 := atoms_spec (ws := wsY qJ0_isLatin1_aae02) Bd.pre
  have hts : ∀ w ∈ lw_g, w.before ([.ref (adK k)] : List Value).toArray s = true := fun w hw => hts0 w (List.mem_cons_of_mem _ hw)
  have hown := findClass_of_methodNamed Bd.named
  have hlocks := Bd.notSynchronized
  have hS : va_S (AB B) s.heap s.heap [] := va_S.rf
  have hl := lv_entry ([.ref (adK k)]) (n := 1) (Nat.le_of_ble_eq_true rfl)
  rw [lg_entry_eq]
  generalize (lg_sl ([.ref (adK k)]) ++ List.replicate (1 - (lg_sl ([.ref (adK k)])).length) Slot.unset).toArray = ls at hl ⊢
  have hl : lv_has ls 1 [(0, .ref (adK k))] := hl
  refine va_gets hx hb hstr.2.2.1 hS hown (hts _ wS_38) (fun x h => h) dJ0_isLatin1_aae02_0 ?_
  refine lv_if_eq (tgt := 17) hx hb dJ0_isLatin1_aae02_3 (by decide) (fun q => absurd q (by decide)) (fun q => ?_)
  refine lv_aload_n hx hb dJ0_isLatin1_aae02_6 rfl (lv_at hl 0 rfl) ?_
  refine vk_getf hx hb (hstr.1.1 k hk).2.1 hS hown (hts _ wS_15) (fun x h => h) dJ0_isLatin1_aae02_7 ?_
  refine lv_if_ne (tgt := 17) hx hb dJ0_isLatin1_aae02_10 (by decide) (fun q => absurd rfl q) (fun q => ?_)
  refine lv_iconst (v := 1) hx hb dJ0_isLatin1_aae02_13 (by decide) ?_
  refine lv_goto (tgt := 18) hx hb dJ0_isLatin1_aae02_14 (by decide) ?_
  exact W.zret (ty := .boolean) hx hb hr rfl (fun t ht _ => ⟨rfl, ht⟩) (fun q hq => absurd hq List.not_mem_nil) dJ0_isLatin1_aae02_18
set_option maxHeartbeats 4000000 in
theorem m_length (l : Launch) (adK adV : Nat → Nat) (B k : Nat) (hk : k < 19) : Met l yJ0_length_8abf5 (wsY qJ0_length_8abf5) (rmOf 2 0 0) (va_Pc [.ref (adK k)] (Str adK adV B)) (QS (some (.int (Int32.ofNat (strLen.getD k 0))))) 0 0 (fun _ => False) := by
  refine Met.ofW (cc := cJ0_length_8abf5) (maxL := 1) (ret := some .int) (by decide) rfl ?_
  intro p e s m args below meth c s₁ Bd hml hv
  obtain ⟨rfl, hstr⟩ := hv
  have hx := Bd.exec
  have hb := Bd.bytes
  have hr := Bd.returns
  have hts0 := atoms_spec (ws := wsY qJ0_length_8abf5) Bd.pre
  have hts : ∀ w ∈ lw_g, w.before ([.ref (adK k)] : List Value).toArray s = true := fun w hw => hts0 w (List.mem_cons_of_mem _ hw)
  have hown := findClass_of_methodNamed Bd.named
  have hlocks := Bd.notSynchronized
  have hS : va_S (AB B) s.heap s.heap [] := va_S.rf
  have hl := lv_entry ([.ref (adK k)]) (n := 1) (Nat.le_of_ble_eq_true rfl)
  rw [lg_entry_eq]
  generalize (lg_sl ([.ref (adK k)]) ++ List.replicate (1 - (lg_sl ([.ref (adK k)])).length) Slot.unset).toArray = ls at hl ⊢
  have hl : lv_has ls 1 [(0, .ref (adK k))] := hl
  obtain ⟨g1, g2, g3, g4⟩ := hstr.1.1 k hk
  refine lv_aload_n hx hb dJ0_length_8abf5_0 rfl (lv_at hl 0 rfl) ?_
  refine vk_getf hx hb g3 hS hown (hts _ wS_9) (fun x h => h) dJ0_length_8abf5_1 ?_
  refine va_tlen hx hb g4 hS rfl dJ0_length_8abf5_4 ?_
  refine lv_aload_n hx hb dJ0_length_8abf5_5 rfl (lv_at hl 0 rfl) ?_
  refine run_pure (va_runV (As := []) (rest := [.int (Int32.ofNat (strLen.getD k 0))]) ⟨hx, hb, hml, hown, hts⟩ (m_coder l adK adV B k hk) (cwV 0 hts (GoodIn_V qJ0_coder_7d493_ok rfl wS_335) rfl rfl rfl ⟨rfl, qJ0_coder_7d493_ok.2.2.2.1⟩ ⟨by decide, by decide⟩) ⟨S_blind adK adV B _, vk_recv hstr.1 hk hS, fun U hU hW => ⟨rfl, Str.warm hW (fun a _ _ => by rw [hU]) hstr⟩⟩ rfl rfl hl.1 rfl (lv_room (Nat.le_of_ble_eq_true rfl)) dJ0_length_8abf5_6 ⟨by decide, by decide⟩) (fun locs1 hl1 => ?_)
  refine lv_ishr hx hb dJ0_length_8abf5_9 ?_
  have e9 : Int32.ofNat (strLen.getD k 0) >>> ((0 : Int32) &&& 31) = Int32.ofNat (strLen.getD k 0) := by
    have : ∀ j, j < 19 → Int32.ofNat (strLen.getD j 0) >>> ((0 : Int32) &&& 31) = Int32.ofNat (strLen.getD j 0) := by decide
    exact this k hk
  rw [e9]
  exact W.iret hx hb hr (fun t ht _ => ⟨rfl, ht⟩) (fun q hq => absurd (hl1 q hq) List.not_mem_nil) dJ0_length_8abf5_10
set_option maxHeartbeats 4000000 in
theorem m_prec (l : Launch) (adK adV : Nat → Nat) (B n : Nat) (i : Int32) (z : Value) (hz : z = .null ∨ ∃ a, z = .ref a) (hn : n < 2 ^ 31) (hi : vp_in i n) : Met l yJ3_checkIndex_8e157 (wsY qJ3_checkIndex_8e157) (rmOf 1 0 0) (va_Pc [.int i, .int (Int32.ofNat n), z] (Str adK adV B)) (QS (some (.int i))) 0 0 (fun _ => False) := by
  refine Met.ofW (cc := cJ3_checkIndex_8e157) (maxL := 3) (ret := some .int) (by decide) rfl ?_
  intro p e s m args below meth c s₁ Bd hml hv
  obtain ⟨rfl, hstr⟩ := hv
  have hx := Bd.exec
  have hb := Bd.bytes
  have hr := Bd.returns
  have hts0 := atoms_spec (ws := wsY qJ3_checkIndex_8e157) Bd.pre
  have hts : ∀ w ∈ lw_g, w.before ([.int i, .int (Int32.ofNat n), z] : List Value).toArray s = true := fun w hw => hts0 w (List.mem_cons_of_mem _ hw)
  have hown := findClass_of_methodNamed Bd.named
  have hlocks := Bd.notSynchronized
  have hS : va_S (AB B) s.heap s.heap [] := va_S.rf
  have hl := lv_entry ([.int i, .int (Int32.ofNat n), z]) (n := 3) (by rcases hz with rfl | ⟨a, rfl⟩ <;> exact Nat.le_of_ble_eq_true rfl)
  rw [lg_entry_eq]
  generalize (lg_sl ([.int i, .int (Int32.ofNat n), z]) ++ List.replicate (3 - (lg_sl ([.int i, .int (Int32.ofNat n), z])).length) Slot.unset).toArray = ls at hl ⊢
  have hl : lv_has ls 3 [(0, .int i), (1, .int (Int32.ofNat n)), (2, z)] := hl
  refine lv_iload_n hx hb dJ3_checkIndex_8e157_0 rfl (lv_at hl 0 rfl) ?_
  refine lv_if_lt (tgt := 9) hx hb dJ3_checkIndex_8e157_1 (by decide) (fun q => absurd (Or.inl q) hi) (fun q => ?_)
  refine lv_iload_n hx hb dJ3_checkIndex_8e157_4 rfl (lv_at hl 0 rfl) ?_
  refine lv_iload_n hx hb dJ3_checkIndex_8e157_5 rfl (lv_at hl 1 rfl) ?_
  have hlt : i < Int32.ofNat n := by
    obtain ⟨j, hj, rfl⟩ := vp_in_of hi hn
    exact nI_lt hj hn
  refine lv_icmp_lt (tgt := 16) hx hb dJ3_checkIndex_8e157_6 (by decide) (fun q => ?_) (fun q => absurd hlt q)
  refine lv_iload_n hx hb dJ3_checkIndex_8e157_16 rfl (lv_at hl 0 rfl) ?_
  exact W.iret hx hb hr (fun t ht _ => ⟨rfl, ht⟩) (fun q hq => absurd hq List.not_mem_nil) dJ3_checkIndex_8e157_17
set_option maxHeartbeats 4000000 in
theorem m_chk (l : Launch) (adK adV : Nat → Nat) (B n : Nat) (i : Int32) (hn : n < 2 ^ 31) (hi : vp_in i n) : Met l yJ0_checkIndex_df160 (wsY qJ0_checkIndex_df160) (rmOf 2 0 0) (va_Pc [.int i, .int (Int32.ofNat n)] (Str adK adV B)) (QS none) 0 0 (fun _ => False) := by
  refine Met.ofW (cc := cJ0_checkIndex_df160) (maxL := 2) (ret := none) (by decide) rfl ?_
  intro p e s m args below meth c s₁ Bd hml hv
  obtain ⟨rfl, hstr⟩ := hv
  have hx := Bd.exec
  have hb := Bd.bytes
  have hr := Bd.returns
  have hts0 := atoms_spec (ws := wsY qJ0_checkIndex_df160) Bd.pre
  have hts : ∀ w ∈ lw_g, w.before ([.int i, .int (Int32.ofNat n)] : List Value).toArray s = true := fun w hw => hts0 w (List.mem_cons_of_mem _ hw)
  have hown := findClass_of_methodNamed Bd.named
  have hlocks := Bd.notSynchronized
  have hS : va_S (AB B) s.heap s.heap [] := va_S.rf
  have hl := lv_entry ([.int i, .int (Int32.ofNat n)]) (n := 2) (Nat.le_of_ble_eq_true rfl)
  rw [lg_entry_eq]
  generalize (lg_sl ([.int i, .int (Int32.ofNat n)]) ++ List.replicate (2 - (lg_sl ([.int i, .int (Int32.ofNat n)])).length) Slot.unset).toArray = ls at hl ⊢
  have hl : lv_has ls 2 [(0, .int i), (1, .int (Int32.ofNat n))] := hl
  refine lv_iload_n hx hb dJ0_checkIndex_df160_0 rfl (lv_at hl 0 rfl) ?_
  refine lv_iload_n hx hb dJ0_checkIndex_df160_1 rfl (lv_at hl 1 rfl) ?_
  have key : ∀ z : Value, (z = .null ∨ ∃ a, z = .ref a) → W p l e (headSpec (wsY qJ0_checkIndex_df160) (rmOf 2 0 0)).room s m ([.int i, .int (Int32.ofNat n)] : List Value).toArray below meth c s.heap [] 0 0 (MQ below (QS none) ([.int i, .int (Int32.ofNat n)] : List Value).toArray s 0 0 (fun _ => False)) (F0 m (2 + 3) ls (z :: .int (Int32.ofNat n) :: .int i :: [])) := fun z hz => by
    refine run_pure (va_runS (As := [.int i, .int (Int32.ofNat n), z]) (rest := []) ⟨hx, hb, hml, hown, hts⟩ (m_prec l adK adV B n i z hz hn hi) (va_cwS 3 hts (GoodIn_S qJ3_checkIndex_8e157_ok rfl wS_1059) rfl rfl rfl qJ3_checkIndex_8e157_ok.2.2.2.1 ⟨by decide, by decide⟩) ⟨S_blind adK adV B _, fun U hU hW => ⟨rfl, Str.warm hW (fun a _ _ => by rw [hU]) hstr⟩⟩ rfl rfl hl.1 rfl (lv_room (by decide)) dJ0_checkIndex_df160_5 ⟨by decide, by decide⟩) (fun locs1 hl1 => ?_)
    refine lv_pop hx hb dJ0_checkIndex_df160_8 rfl ?_
    exact W.vret hx hb hr (fun t ht _ => ⟨rfl, ht⟩) (fun q hq => absurd (hl1 q hq) List.not_mem_nil) dJ0_checkIndex_df160_9
  rcases hstr.2.2.2.1 with hz | ⟨a, hz⟩
  · exact va_gets hx hb hz hS hown (hts _ wS_1053) (fun x h => h) dJ0_checkIndex_df160_2 (key .null (Or.inl rfl))
  · exact va_gets hx hb hz hS hown (hts _ wS_1053) (fun x h => h) dJ0_checkIndex_df160_2 (key (.ref a) (Or.inr ⟨a, rfl⟩))
set_option maxHeartbeats 4000000 in
theorem m_charL (l : Launch) (adK adV : Nat → Nat) (B k : Nat) (hk : k < 19) (i : Int32) (hi : vp_in i (strLen.getD k 0)) : Met l yJ1_charAt_3b067 (wsY qJ1_charAt_3b067) (rmOf 3 0 0) (va_Pc [.ref (adV k), .int i] (Str adK adV B)) (QS (some (.int ((strB.getD k []).getD i.toNatClampNeg 0)))) 0 0 (fun _ => False) := by
  refine Met.ofW (cc := cJ1_charAt_3b067) (maxL := 2) (ret := some .char) (by decide) rfl ?_
  intro p e s m args below meth c s₁ Bd hml hv
  obtain ⟨rfl, hstr⟩ := hv
  have hx := Bd.exec
  have hb := Bd.bytes
  have hr := Bd.returns
  have hts0 := atoms_spec (ws := wsY qJ1_charAt_3b067) Bd.pre
  have hts : ∀ w ∈ lw_g, w.before ([.ref (adV k), .int i] : List Value).toArray s = true := fun w hw => hts0 w (List.mem_cons_of_mem _ hw)
  have hown := findClass_of_methodNamed Bd.named
  have hlocks := Bd.notSynchronized
  have hS : va_S (AB B) s.heap s.heap [] := va_S.rf
  have hl := lv_entry ([.ref (adV k), .int i]) (n := 2) (Nat.le_of_ble_eq_true rfl)
  rw [lg_entry_eq]
  generalize (lg_sl ([.ref (adV k), .int i]) ++ List.replicate (2 - (lg_sl ([.ref (adV k), .int i])).length) Slot.unset).toArray = ls at hl ⊢
  have hl : lv_has ls 2 [(0, .ref (adV k)), (1, .int i)] := hl
  obtain ⟨g1, g2, g3, g4⟩ := hstr.1.1 k hk
  have hn : strLen.getD k 0 < 2 ^ 31 := by
    have : ∀ j, j < 19 → strLen.getD j 0 < 2 ^ 31 := by decide
    exact this k hk
  refine lv_iload_n hx hb dJ1_charAt_3b067_0 rfl (lv_at hl 1 rfl) ?_
  refine lv_aload_n hx hb dJ1_charAt_3b067_1 rfl (lv_at hl 0 rfl) ?_
  refine va_tlen hx hb g4 hS rfl dJ1_charAt_3b067_2 ?_
  refine run_pure (va_runS (As := [.int i, .int (Int32.ofNat (strLen.getD k 0))]) (rest := []) ⟨hx, hb, hml, hown, hts⟩ (m_chk l adK adV B (strLen.getD k 0) i hn hi) (va_cwS 2 hts (GoodIn_S qJ0_checkIndex_df160_ok rfl wL_9) rfl rfl rfl qJ0_checkIndex_df160_ok.2.2.2.1 ⟨by decide, by decide⟩) ⟨S_blind adK adV B _, fun U hU hW => ⟨rfl, Str.warm hW (fun a _ _ => by rw [hU]) hstr⟩⟩ rfl rfl hl.1 rfl (lv_room (by decide)) dJ1_charAt_3b067_3 ⟨by decide, by decide⟩) (fun locs1 hl1 => ?_)
  have hS1 : va_S (AB B) s.heap s.heap locs1 := ⟨Nat.le_refl _, fun _ _ _ => rfl, fun q hq => absurd (hl1 q hq) List.not_mem_nil⟩
  refine lv_aload_n hx hb dJ1_charAt_3b067_6 rfl (lv_at hl 0 rfl) ?_
  refine lv_iload_n hx hb dJ1_charAt_3b067_7 rfl (lv_at hl 1 rfl) ?_
  refine va_tb hx hb g4 hS1 hi rfl dJ1_charAt_3b067_8 ?_
  refine lv_sipush (v := 255) hx hb dJ1_charAt_3b067_9 (by decide) ?_
  refine lv_iand hx hb dJ1_charAt_3b067_12 ?_
  refine lv_i2c hx hb dJ1_charAt_3b067_13 rfl ?_
  have e9 : (((strB.getD k []).getD i.toNatClampNeg 0 &&& 255).toUInt32 % 65536).toInt32 = (strB.getD k []).getD i.toNatClampNeg 0 ∧ narrow .char (.int ((strB.getD k []).getD i.toNatClampNeg 0)) = .int ((strB.getD k []).getD i.toNatClampNeg 0) := by
    have : ∀ j, j < 19 → ∀ x, x < strLen.getD j 0 → (((strB.getD j []).getD x 0 &&& 255).toUInt32 % 65536).toInt32 = (strB.getD j []).getD x 0 ∧ narrow .char (.int ((strB.getD j []).getD x 0)) = .int ((strB.getD j []).getD x 0) := by decide +kernel
    exact this k hk _ (Nat.not_le.mp fun q => hi (Or.inr q))
  rw [e9.1]
  exact W.zret (ty := .char) hx hb hr e9.2 (fun t ht _ => ⟨rfl, ht⟩) (fun q hq => absurd (hl1 q hq) List.not_mem_nil) dJ1_charAt_3b067_14
set_option maxHeartbeats 4000000 in
theorem m_charAt (l : Launch) (adK adV : Nat → Nat) (B k : Nat) (hk : k < 19) (i : Int32) (hi : vp_in i (strLen.getD k 0)) : Met l yJ0_charAt_5068e (wsY qJ0_charAt_5068e) (rmOf 4 0 0) (va_Pc [.ref (adK k), .int i] (Str adK adV B)) (QS (some (.int ((strB.getD k []).getD i.toNatClampNeg 0)))) 0 0 (fun _ => False) := by
  refine Met.ofW (cc := cJ0_charAt_5068e) (maxL := 2) (ret := some .char) (by decide) rfl ?_
  intro p e s m args below meth c s₁ Bd hml hv
  obtain ⟨rfl, hstr⟩ := hv
  have hx := Bd.exec
  have hb := Bd.bytes
  have hr := Bd.returns
  have hts0 := atoms_spec (ws := wsY qJ0_charAt_5068e) Bd.pre
  have hts : ∀ w ∈ lw_g, w.before ([.ref (adK k), .int i] : List Value).toArray s = true := fun w hw => hts0 w (List.mem_cons_of_mem _ hw)
  have hown := findClass_of_methodNamed Bd.named
  have hlocks := Bd.notSynchronized
  have hS : va_S (AB B) s.heap s.heap [] := va_S.rf
  have hl := lv_entry ([.ref (adK k), .int i]) (n := 2) (Nat.le_of_ble_eq_true rfl)
  rw [lg_entry_eq]
  generalize (lg_sl ([.ref (adK k), .int i]) ++ List.replicate (2 - (lg_sl ([.ref (adK k), .int i])).length) Slot.unset).toArray = ls at hl ⊢
  have hl : lv_has ls 2 [(0, .ref (adK k)), (1, .int i)] := hl
  obtain ⟨g1, g2, g3, g4⟩ := hstr.1.1 k hk
  refine lv_aload_n hx hb dJ0_charAt_5068e_0 rfl (lv_at hl 0 rfl) ?_
  refine run_pure (va_runV (As := []) (rest := []) ⟨hx, hb, hml, hown, hts⟩ (m_latin l adK adV B k hk) (cwV 0 hts (GoodIn_V qJ0_isLatin1_aae02_ok rfl wS_492) rfl rfl rfl ⟨rfl, qJ0_isLatin1_aae02_ok.2.2.2.1⟩ ⟨by decide, by decide⟩) ⟨S_blind adK adV B _, vk_recv hstr.1 hk hS, fun U hU hW => ⟨rfl, Str.warm hW (fun a _ _ => by rw [hU]) hstr⟩⟩ rfl rfl hl.1 rfl (lv_room (by decide)) dJ0_charAt_5068e_1 ⟨by decide, by decide⟩) (fun locs1 hl1 => ?_)
  have hS1 : va_S (AB B) s.heap s.heap locs1 := ⟨Nat.le_refl _, fun _ _ _ => rfl, fun q hq => absurd (hl1 q hq) List.not_mem_nil⟩
  refine lv_if_eq (tgt := 16) hx hb dJ0_charAt_5068e_4 (by decide) (fun q => absurd q (by decide)) (fun q => ?_)
  refine lv_aload_n hx hb dJ0_charAt_5068e_7 rfl (lv_at hl 0 rfl) ?_
  refine vk_getf hx hb g3 hS1 hown (hts _ wS_9) (fun x h => h) dJ0_charAt_5068e_8 ?_
  refine lv_iload_n hx hb dJ0_charAt_5068e_11 rfl (lv_at hl 1 rfl) ?_
  refine run_pure (va_runS (As := [.ref (adV k), .int i]) (rest := []) ⟨hx, hb, hml, hown, hts⟩ (m_charL l adK adV B k hk i hi) (va_cwS 2 hts (GoodIn_S qJ1_charAt_3b067_ok rfl wS_495) rfl rfl rfl qJ1_charAt_3b067_ok.2.2.2.1 ⟨by decide, by decide⟩) ⟨S_blind adK adV B _, fun U hU hW => ⟨rfl, Str.warm hW (fun a _ _ => by rw [hU]) hstr⟩⟩ rfl rfl hl.1 rfl (lv_room (by decide)) dJ0_charAt_5068e_12 ⟨by decide, by decide⟩) (fun locs2 hl2 => ?_)
  have e9 : narrow .char (.int ((strB.getD k []).getD i.toNatClampNeg 0)) = .int ((strB.getD k []).getD i.toNatClampNeg 0) := by
    have : ∀ j, j < 19 → ∀ x, x < strLen.getD j 0 → narrow .char (.int ((strB.getD j []).getD x 0)) = .int ((strB.getD j []).getD x 0) := by decide +kernel
    exact this k hk _ (Nat.not_le.mp fun q => hi (Or.inr q))
  exact W.zret (ty := .char) hx hb hr e9 (fun t ht _ => ⟨rfl, ht⟩) (fun q hq => absurd (hl1 q (hl2 q hq)) List.not_mem_nil) dJ0_charAt_5068e_15
theorem st_strLen {X : CX} {M : MX} (C : Ctx X M) {pc : Nat} {L st : List Value} {h : AH} {i k d : Nat} (hd : decode M.2.1 pc = .ok (.invokevirtual i, 3)) (hw : Cond.methodLink M.1 i yJ0_length_8abf5 ∈ lw_g) (hk : k < 19) (hl : st.length ≤ 4) (hsd : 4 ≤ d) (hdep : M.2.2.2.1 = d + 1) (kk : Wst X (pc + 3, L, .int (Int32.ofNat (strLen.getD k 0)) :: st) h) : Wst X (pc, L, .retAddr k :: st) h := by
  obtain ⟨⟨p, l, e, R, s, m, args, below, meth, c, Qm⟩, ⟨B, D, cid, adK, adV⟩, ⟨nL, n0, u0, E1, E2⟩⟩ := X
  obtain ⟨own, cc, mname, dep, scr⟩ := M
  obtain ⟨hx, hb, hml, hown, hts, hK, hstr, hsz, hnm, hroom, hscr⟩ := C
  intro H locs ls r1 r2 r3 r4
  have hcl := cat_len B adK st hl
  have hdep : dep = d + 1 := hdep
  have hS1 : ∀ locs1 : List Loc, (∀ q ∈ locs1, q ∈ locs) → va_S (AB B) s.heap H locs1 := fun locs1 h9 => ⟨r2.1, r2.2.1, fun q hq => r2.2.2 q (h9 q hq)⟩
  exact run_pure (va_runV (As := []) (rest := st.map (cv B adK)) ⟨hx, hb, hml, hown, hts⟩ (m_length l adK adV B k hk) (cwV 0 hts (GoodIn_V qJ0_length_8abf5_ok rfl hw) rfl rfl rfl ⟨rfl, qJ0_length_8abf5_ok.2.2.2.1⟩ ⟨by simp only [rmOf]; omega, by simp only [rmOf]; show 8 + (1 + 11) + 64 * 2 ≤ _; omega⟩) ⟨S_blind adK adV B _, vk_recv hstr.1 hk r2, fun U hU hW => ⟨rfl, Str.warm hW (fun a q1 q2 => by rw [hU]; exact r2.2.1 a q1 q2) hstr⟩⟩ rfl rfl r3.1 rfl (lv_room hcl) hd ⟨by omega, by omega⟩) (fun locs1 h9 => kk H locs1 ls r1 (hS1 locs1 h9) r3 r4)
theorem st_strAt {X : CX} {M : MX} (C : Ctx X M) {pc : Nat} {L st : List Value} {h : AH} {i k d : Nat} {j : Int32} (hd : decode M.2.1 pc = .ok (.invokevirtual i, 3)) (hw : Cond.methodLink M.1 i yJ0_charAt_5068e ∈ lw_g) (hk : k < 19) (hi : vp_in j (strLen.getD k 0)) (hl : st.length ≤ 4) (hsd : 4 ≤ d) (hdep : M.2.2.2.1 = d + 1) (kk : Wst X (pc + 3, L, .int ((strB.getD k []).getD j.toNatClampNeg 0) :: st) h) : Wst X (pc, L, .int j :: .retAddr k :: st) h := by
  obtain ⟨⟨p, l, e, R, s, m, args, below, meth, c, Qm⟩, ⟨B, D, cid, adK, adV⟩, ⟨nL, n0, u0, E1, E2⟩⟩ := X
  obtain ⟨own, cc, mname, dep, scr⟩ := M
  obtain ⟨hx, hb, hml, hown, hts, hK, hstr, hsz, hnm, hroom, hscr⟩ := C
  intro H locs ls r1 r2 r3 r4
  have hcl := cat_len B adK st hl
  have hdep : dep = d + 1 := hdep
  have hS1 : ∀ locs1 : List Loc, (∀ q ∈ locs1, q ∈ locs) → va_S (AB B) s.heap H locs1 := fun locs1 h9 => ⟨r2.1, r2.2.1, fun q hq => r2.2.2 q (h9 q hq)⟩
  exact run_pure (va_runV (As := [.int j]) (rest := st.map (cv B adK)) ⟨hx, hb, hml, hown, hts⟩ (m_charAt l adK adV B k hk j hi) (cwV 1 hts (GoodIn_V qJ0_charAt_5068e_ok rfl hw) rfl rfl rfl ⟨rfl, qJ0_charAt_5068e_ok.2.2.2.1⟩ ⟨by simp only [rmOf]; omega, by simp only [rmOf]; show 8 + (2 + 11) + 64 * 4 ≤ _; omega⟩) ⟨S_blind adK adV B _, vk_recv hstr.1 hk r2, fun U hU hW => ⟨rfl, Str.warm hW (fun a q1 q2 => by rw [hU]; exact r2.2.1 a q1 q2) hstr⟩⟩ rfl rfl r3.1 rfl (lv_room hcl) hd ⟨by omega, by omega⟩) (fun locs1 h9 => kk H locs1 ls r1 (hS1 locs1 h9) r3 r4)
