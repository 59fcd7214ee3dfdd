theorem CW.town {pz : PZT} {h h' : AH} {x : Nat} {T T' : TW} {cls : List (List (List (Nat × Nat) × List (Nat × Nat)))} {tp : List Int32} {im : Nat → Option TW} {S : Nat → Prop} (H : CW pz h x (T, cls, tp, im)) (f : Fr' h h' S) (hs : ∀ c, S c → (x + 8 ≤ c ∧ c ≤ x + 18) ∨ (x + 22 ≤ c ∧ c ≤ x + 24)) (HT : TownIs h' (x + 8) T') (hA : T'.2.2.1 0 0 = T.2.2.1 0 0) : CW pz h' x (T', cls, tp, im) := by
  obtain ⟨H1, ⟨H2, H3⟩, H4, H5, H6, H7, H8, H9, H10⟩ := H
  have w := H1.1.1
  have hx := H1.1.2.1
  have F := FrG.of f
  have gd : ∀ c, x + 145 ≤ c → ¬ S c := fun c hc z => by have := hs c z; omega
  have gl : ∀ c, c < x + 8 → ¬ S c := fun c hc z => by have := hs c z; omega
  have wr : ∀ t, sepT h (x + 8) t → sepT h' (x + 8) t := fun t z i hi => by simp only [f.2.1]; exact z i hi
  have wr2 : ∀ t, sepT h t (x + 8) → sepT h' t (x + 8) := fun t z i hi => by simp only [f.2.1]; exact z i hi
  have wd : ∀ t U, dyn h x t U → dyn h' x t U := fun t U z => by unfold dyn; simp only [f.2.1]; exact z
  refine ⟨H1.frg F (gl x (by omega)), ⟨HT, fun y => ⟨((wd _ _ H3).1 y).1, by rw [hA]; exact ((wd _ _ H3).1 y).2⟩, (wd _ _ H3).2⟩, H4.frg w hx F (gl x (by omega)) (gl _ (by omega)) (fun i c hc b h1 _ => gd b (by have := H4.2.2 i c hc; omega)), H5.frg hx F (gl _ (by omega)) (gl _ (by omega)), ?_, H7.fr f (fun j hj => by rw [f.2.2.2.2.1 (x + 21) (fun z => by have := hs _ z; omega)]; exact H7.1.2 j hj) (fun j hj => by rw [f.2.2.2.2.1 (x + 27) (fun z => by have := hs _ z; omega)]; exact H7.2.1.2.2.2.2.2 j hj) (fun j hj => by rw [f.2.2.2.2.1 (x + 39) (fun z => by have := hs _ z; omega)]; exact H7.2.2.1.2.2 j hj) (fun j hj => by rw [f.2.2.2.2.1 (x + 81) (fun z => by have := hs _ z; omega)]; exact H7.2.2.2.1.2.2.2.2.2 j hj) (by rw [f.2.2.2.2.1 (x + 100) (fun z => by have := hs _ z; omega)]; exact H7.2.2.2.2.2.2.2), H8.frg hx F (gl _ (by omega)) (gl _ (by omega)), ⟨⟨H9.1.1, fun i hi => by rw [f.2.1]; exact H9.1.2 i hi⟩, fun s U hs e => ⟨(H9.2 s U hs e).1, fun i hi => by simp only [f.2.1]; exact (H9.2 s U hs e).2 i hi⟩⟩, H10.frg hx F (fun c h1 h2 z => by have := hs c z; omega)⟩
  obtain ⟨i1, i2, i3⟩ := H6
  refine ⟨by rw [f.1]; exact i1, fun s hs4 => ?_, fun s s' h1 h2 => ?_⟩
  · have HI := i2 s hs4
    show imC h' x s (im s)
    have HI : imC h x s (im s) := HI
    cases hn : im s with
    | none =>
      rw [hn] at HI
      exact (f.2.1 _ _).trans HI
    | some U =>
      rw [hn] at HI
      obtain ⟨a1, a2, a3, a4, a5⟩ := HI
      show x + 145 ≤ hR h' (x + 19) s ∧ TownIs h' (hR h' (x + 19) s) U ∧ dyn h' x (hR h' (x + 19) s) U ∧ sepT h' (x + 8) (hR h' (x + 19) s) ∧ sepT h' (hR h' (x + 19) s) (x + 8)
      rw [f.2.1]
      exact ⟨a1, (a2.frd w a3 F (fun b h1 _ => gd b (by omega)) gd).1, wd _ _ a3, wr _ a4, wr2 _ a5⟩
  · simp only [f.2.1]
    intro z1 z2 hne
    have := i3 s s' h1 h2 z1 z2 hne
    exact ⟨this.1, fun i hi => by simp only [f.2.1]; exact this.2 i hi⟩
theorem TownIs.up {h h' : AH} {x nr nw : Nat} {A M M' : PC} {fo y fo' y' : Int32} {ps ps' : List PC} {ns ns' : List (Nat × Nat × Int32)} {S : Nat → Prop} (H : TownIs h (x + 8) (nr, nw, A, fo, y, M, ps, ns)) (hd : dyn h x (x + 8) (nr, nw, A, fo, y, M, ps, ns)) (f : Fr' h h' S) (hs : ∀ c, S c → c < x + 145) (e1 : hI h' (x + 8) 1 = fo') (e2 : hI h' (x + 8) 2 = y') (e5 : hI h' (x + 8) 5 = nI ps'.length) (e9 : hI h' (x + 8) 9 = nI ns'.length) (lp : ps'.length ≤ 20) (ln : ns'.length ≤ 10) (HM : MomIs h' (x + 8 + 1) nr nw M') (hp : ∀ (k : Nat) (N : PC), ps'[k]? = some N → ps[k]? = some N) (hn : ∀ (k : Nat) (q : Nat × Nat × Int32), ns'[k]? = some q → hI h' (x + 8 + 8) k = nI q.1 ∧ hI h' (x + 8 + 9) k = nI q.2.1 ∧ hI h' (x + 8 + 10) k = q.2.2) : TownIs h' (x + 8) (nr, nw, A, fo', y', M', ps', ns') := by
  obtain ⟨T0, hb, HH, -, -, HB, h6, -⟩ := H
  refine ⟨T0.fr f, ⟨hb.1, hb.2.1, lp, ln⟩, ?_, ⟨e1, e2, e5, e9⟩, HM, ?_, fun k N hk => ?_, hn⟩
  · rw [f.2.1]
    rcases HH with c | ⟨c1, c2⟩
    · exact Or.inl c
    · have := (hd.1 c1).1
      exact Or.inr ⟨c1, c2.fr f (fun b h1 h2 z => by have := hs b z; omega)⟩
  · intro i hi
    simp only [f.2.1]
    intro z
    exact ⟨(HB i hi z).1.fr f, (HB i hi z).2⟩
  · rw [f.2.1]
    have hq := hp k N hk
    have hk2 := getq_lt hk
    have := h6 k N hq
    have d2 := hd.2 k (by omega) this.1
    exact ⟨this.1, this.2.fr hb.1 hb.2.1 f (fun b h1 h2 z => by have := hs b z; omega)⟩
theorem c_force {pz : PZT} {d : Nat} {h : AH} {Q : Option Value → AH → Prop} (hd : 6 ≤ d) (x nr nw : Nat) (A M : PC) (fo y : Int32) (ps : List PC) (ns : List (Nat × Nat × Int32)) (cls : List (List (List (Nat × Nat) × List (Nat × Nat)))) (tp : List Int32) (im : Nat → Option TW) (n : Int32) (H : CW pz h x ((nr, nw, A, fo, y, M, ps, ns), cls, tp, im)) (k : ∀ h', Fr' h h' (fun c => c = x + 8) → CW pz h' x ((nr, nw, A, (oForce fo cls.length n).2, y, M, ps, ns), cls, tp, im) → Q (some (.int (oForce fo cls.length n).1)) h') : Calls d nX11_force [.ref x, .int n] h (hN h) (hU h) Q := by
  obtain ⟨e, rfl⟩ : ∃ e, d = e + 1 := ⟨d - 1, by omega⟩
  have HC := H
  obtain ⟨⟨-, s0, p0, p1, p2, p4, p5, p6, p7, p8, p9, p10⟩, ⟨HT, hdy⟩, ⟨r1, ⟨-, r3, -⟩, -⟩, -, -⟩ := H
  have HT2 : TownIs h (x + 8) (nr, nw, A, fo, y, M, ps, ns) := HT
  obtain ⟨T0, ⟨b1, b2, b3, b4⟩, HH, ⟨i1, i2, i3, i4⟩, HM, HB, h6, h7⟩ := HT
  have r1 : hI h x 3 = nI cls.length := r1
  have r3 : cls.length ≤ 6 := r3
  have hlt : (n < nI cls.length) = (n ≤ nI cls.length - 1) := by
    apply propext
    have e := pk_sub_toInt (a := cls.length) (b := 1) (by omega) (by decide)
    have e2 := nI_toInt (n := cls.length) (by omega)
    rw [Int32.lt_iff_toInt_lt, Int32.le_iff_toInt_le]
    have e3 : (nI cls.length - 1).toInt = (cls.length : Int) - (1 : Nat) := e
    omega
  unfold oForce at k
  refine wX11_force (by omega) x n ?_
  simp only [rt_i, rt_b0, rt_b1, rt_v, rt_l, rt_o, rt_a, rV_none, rI_some, rL_some, rR_some, rT_some, rt_bI, hIf_sL, hIf_sR, hS_sI, hS_sL, hS_sR, hS_cpI, hR_sI, hR_sL, hR_cpI, hL_sI, hL_sR, hL_cpI, hI_sL, hI_sR, hN_sI, hN_sL, hN_sR, hN_cpI, hU_sI, hU_sL, hU_sR, hU_cpI, tn0, tn1, tn2, tn3, tn4, tn5, tn6, tn7, tn8, tn9, tn10, tn11, tn12, tn13, tn14, tn15, tn16, tn17, tn18, tn19, tn20, tn21, tn22, tn23, tn24, tn25, tn26, tn27, tn28, tn29, tn30, tn31, tn32, tn33, tn34, tn35, tn36, tn37, tn38, tn39, tn40, tn41, tn42, tn43, tn44, tn45, tn46, tn47, tn48, tn49, tn50, tn51, tn52, tn53, tn54, tn55, tn56, tn57, tn58, tn59, tn60, lH_eq, true_and, and_true, s0, p4, twq_0 T0, r1, i1, hlt]
  refine ⟨fun z => ?_, fun z => ⟨fun u => ?_, fun u => ?_⟩⟩
  · rw [if_neg (fun c => absurd z (Int32.not_lt.mpr c.1))] at k
    exact k h (Fr'.refl _ _) HC
  · rw [if_pos ⟨Int32.not_lt.mp z, u⟩] at k
    have f : Fr' h (sI h (x + 8) 1 n) (fun c => c = x + 8) := Fr'.sI rfl
    exact k _ f (HC.town f (fun c z => by omega) (HT2.up hdy f (fun c z => by omega) (by rw [hI_sI, if_pos rfl, if_pos rfl]) (by rw [hI_sI, if_pos rfl, if_neg (by decide)]; exact i2) (by rw [hI_sI, if_pos rfl, if_neg (by decide)]; exact i3) (by rw [hI_sI, if_pos rfl, if_neg (by decide)]; exact i4) b3 b4 (HM.fr b1 b2 f (fun b h1 h2 => by omega)) (fun _ _ z => z) (fun k q hq => by rw [f.2.2.2.2.1 (x + 8 + 8) (by omega), f.2.2.2.2.1 (x + 8 + 9) (by omega), f.2.2.2.2.1 (x + 8 + 10) (by omega)]; exact h7 k q hq)) rfl)
  · rw [if_neg (fun c => u c.2)] at k
    exact k h (Fr'.refl _ _) HC
theorem c_seed {pz : PZT} {d : Nat} {h : AH} {Q : Option Value → AH → Prop} (hd : 6 ≤ d) (x nr nw : Nat) (A M : PC) (fo y : Int32) (ps : List PC) (ns : List (Nat × Nat × Int32)) (cls : List (List (List (Nat × Nat) × List (Nat × Nat)))) (tp : List Int32) (im : Nat → Option TW) (n : Int32) (H : CW pz h x ((nr, nw, A, fo, y, M, ps, ns), cls, tp, im)) (k : ∀ h', Fr' h h' (fun c => c = x + 8) → CW pz h' x ((nr, nw, A, fo, (oSeed y n).2, M, ps, ns), cls, tp, im) → Q (some (.int (oSeed y n).1)) h') : Calls d nX11_seed [.ref x, .int n] h (hN h) (hU h) Q := by
  obtain ⟨e, rfl⟩ : ∃ e, d = e + 1 := ⟨d - 1, by omega⟩
  have HC := H
  obtain ⟨⟨-, s0, p0, p1, p2, p4, p5, p6, p7, p8, p9, p10⟩, ⟨HT, hdy⟩, -⟩ := H
  have HT2 : TownIs h (x + 8) (nr, nw, A, fo, y, M, ps, ns) := HT
  obtain ⟨T0, ⟨b1, b2, b3, b4⟩, HH, ⟨i1, i2, i3, i4⟩, HM, HB, h6, h7⟩ := HT
  unfold oSeed at k
  refine wX11_seed (by omega) x n ?_
  simp only [rt_i, rt_b0, rt_b1, rt_v, rt_l, rt_o, rt_a, rV_none, rI_some, rL_some, rR_some, rT_some, rt_bI, hIf_sL, hIf_sR, hS_sI, hS_sL, hS_sR, hS_cpI, hR_sI, hR_sL, hR_cpI, hL_sI, hL_sR, hL_cpI, hI_sL, hI_sR, hN_sI, hN_sL, hN_sR, hN_cpI, hU_sI, hU_sL, hU_sR, hU_cpI, tn0, tn1, tn2, tn3, tn4, tn5, tn6, tn7, tn8, tn9, tn10, tn11, tn12, tn13, tn14, tn15, tn16, tn17, tn18, tn19, tn20, tn21, tn22, tn23, tn24, tn25, tn26, tn27, tn28, tn29, tn30, tn31, tn32, tn33, tn34, tn35, tn36, tn37, tn38, tn39, tn40, tn41, tn42, tn43, tn44, tn45, tn46, tn47, tn48, tn49, tn50, tn51, tn52, tn53, tn54, tn55, tn56, tn57, tn58, tn59, tn60, lH_eq, true_and, and_true, s0, p4, twq_0 T0, i2]
  refine ⟨fun z => ?_, fun z => ?_⟩
  · rw [if_pos z] at k
    have f : Fr' h (sI h (x + 8) 2 n) (fun c => c = x + 8) := Fr'.sI rfl
    exact k _ f (HC.town f (fun c z => by omega) (HT2.up hdy f (fun c z => by omega) (by rw [hI_sI, if_pos rfl, if_neg (by decide)]; exact i1) (by rw [hI_sI, if_pos rfl, if_pos rfl]) (by rw [hI_sI, if_pos rfl, if_neg (by decide)]; exact i3) (by rw [hI_sI, if_pos rfl, if_neg (by decide)]; exact i4) b3 b4 (HM.fr b1 b2 f (fun b h1 h2 => by omega)) (fun _ _ z => z) (fun k q hq => by rw [f.2.2.2.2.1 (x + 8 + 8) (by omega), f.2.2.2.2.1 (x + 8 + 9) (by omega), f.2.2.2.2.1 (x + 8 + 10) (by omega)]; exact h7 k q hq)) rfl)
  · rw [if_neg z] at k
    exact k h (Fr'.refl _ _) HC
