/-! a day, by pictures: what stands beyond the runners and wares does not count -/
def eqM (nr nw : Nat) (M N : Nat → Nat → Int32) : Prop := M 0 0 = N 0 0 ∧ (∀ j, j < nr → M 1 j = N 1 j ∧ M 2 j = N 2 j ∧ M 3 j = N 3 j) ∧ (∀ j, j < nw → M 4 j = N 4 j ∧ M 5 j = N 5 j)
def eqA (nw : Nat) (A B : Nat → Nat → Int32) : Prop := A 0 0 = B 0 0 ∧ (∀ j, j < nw → A 4 j = B 4 j ∧ A 5 j = B 5 j)
theorem ftF_cg {ai bi sp sq pu pv : Nat → Int32} {p : Int32} {w : Nat} : ∀ {n : Nat}, (∀ j, j < n → ai j = bi j ∧ sp j = sq j ∧ pu j = pv j) → ftF ai sp pu p w n = ftF bi sq pv p w n
  | 0, _ => rfl
  | n + 1, h => by
    have ih := ftF_cg (p := p) (w := w) (fun j hj => h j (Nat.lt_succ_of_lt hj))
    have h1 := h n (Nat.lt_succ_self n)
    simp only [ftF, ih, h1]
    cases hb : ftF bi sq pv p w n with
    | none => rfl
    | some b =>
      have h2 := h b (Nat.lt_succ_of_lt (ftF_lt _ _ _ _ _ _ _ hb))
      simp only [h2]
theorem ldF_cg {pu pv : Nat → Int32} {r : Nat} : ∀ {n : Nat}, (∀ j, j < n → pu j = pv j) → ldF pu r n = ldF pv r n
  | 0, _ => rfl
  | n + 1, h => by
    have ih := ldF_cg (r := r) (fun j hj => h j (Nat.lt_succ_of_lt hj))
    simp only [ldF, ih, h n (Nat.lt_succ_self n)]
theorem pyF_cg {ai bi pu pv : Nat → Int32} {f w nr : Nat} (hf : f < nr) (ha : ∀ j, j < nr → ai j = bi j) (hp : ∀ j, j < nr → pu j = pv j) : ∀ {n : Nat}, n ≤ nr → ∀ j, j < nr → pyF ai f w pu n j = pyF bi f w pv n j
  | 0, _, j, hj => hp j hj
  | n + 1, hn, j, hj => by
    have ih := pyF_cg (w := w) hf ha hp (n := n) (by omega)
    simp only [pyF, ih f hf, ih n (by omega), ha n (by omega)]
    split
    · simp only [gvF, ih f hf, ih n (by omega), ih j hj]
    · exact ih j hj
theorem rwF_cg {ai bi wo wp pu pv we wf : Nat → Int32} {gt hu : Nat → Option Nat} {nr : Nat} (ha : ∀ j, j < nr → ai j = bi j) (hp : ∀ j, j < nr → pu j = pv j) (hq : ∀ j, j < nr → we j = wf j) (hg : ∀ w f, gt w = some f → f < nr) : ∀ {n : Nat}, (∀ j, j < n → wo j = wp j ∧ gt j = hu j) → ∀ j, j < nr → (rwF ai nr wo gt pu we n).1 j = (rwF bi nr wp hu pv wf n).1 j ∧ (rwF ai nr wo gt pu we n).2 j = (rwF bi nr wp hu pv wf n).2 j
  | 0, _, j, hj => ⟨hp j hj, hq j hj⟩
  | n + 1, h, j, hj => by
    have ih := rwF_cg ha hp hq hg (n := n) (fun j hj => h j (by omega))
    obtain ⟨h1, h2⟩ := h n (by omega)
    simp only [rwF, ← h2]
    cases hb : gt n with
    | none => exact ih j hj
    | some f =>
      have hf := hg n f hb
      refine ⟨pyF_cg hf ha (fun j hj => (ih j hj).1) (Nat.le_refl nr) j hj, ?_⟩
      simp only [upd, (ih f hf).2, (ih j hj).2, h1]
theorem rwF_hi {ai wo pu we : Nat → Int32} {gt : Nat → Option Nat} {nr : Nat} (hg : ∀ w f, gt w = some f → f < nr) (j : Nat) (hj : nr ≤ j) : ∀ n, (rwF ai nr wo gt pu we n).2 j = we j
  | 0 => rfl
  | n + 1 => by
    have ih := rwF_hi (ai := ai) (wo := wo) (pu := pu) (we := we) hg j hj n
    simp only [rwF]
    cases hb : gt n with
    | none => exact ih
    | some f =>
      have hf := hg n f hb
      simp only [upd, ih]
      rw [if_neg (by omega)]
theorem bbF_cg {th ti : Nat → Bool} {lk lm : Nat → Int64} : ∀ {n : Nat}, (∀ j, j < n → th j = ti j ∧ lk j = lm j) → bbF th lk n = bbF ti lm n
  | 0, _ => rfl
  | n + 1, h => by
    have ih := bbF_cg (fun j hj => h j (Nat.lt_succ_of_lt hj))
    simp only [bbF, ih, h n (Nat.lt_succ_self n)]
theorem chF_cg {R : Option (List (List (Nat × Nat) × List (Nat × Nat)))} {A B M N : Nat → Nat → Int32} {nr nw : Nat} {ai bi : Nat → Int32} {r : Nat} (hr : r < nr) (ha : ∀ j, j < r → ai j = bi j) (hA : eqA nw A B) (hM : eqM nr nw M N) : chF R A M nr nw ai r = chF R B N nr nw bi r := by
  obtain ⟨a0, a1⟩ := hA
  obtain ⟨m0, m1, m2⟩ := hM
  unfold chF
  rw [bbF_cg (ti := thB (B 5) (N 0 0)) (lm := lkF R B N nr bi r)]
  intro w hw
  have a1' := a1 w hw
  have m2' := m2 w hw
  refine ⟨by simp only [thB, a1', m0], ?_⟩
  cases R with
  | none => simp only [lkF, a1']
  | some cls =>
    simp only [lkF]
    congr 1
    funext k
    unfold wdF
    rw [rvF_cg ha, ldF_cg (fun j hj => (m1 j hj).2.1), (m1 r hr).1, (m1 r hr).2.1, (m1 r hr).2.2, m2'.1, a1'.1, m0, a0]
theorem amF_cg {R : Option (List (List (Nat × Nat) × List (Nat × Nat)))} {A B M N : Nat → Nat → Int32} {nr nw : Nat} {od oe : Nat → Option Int32} (ho : ∀ j, j < nr → od j = oe j) (hA : eqA nw A B) (hM : eqM nr nw M N) : ∀ {n : Nat}, n ≤ nr → ∀ j, amF R A M nr nw od n j = amF R B N nr nw oe n j
  | 0, _, j => rfl
  | n + 1, hn, j => by
    have ih := amF_cg (R := R) ho hA hM (n := n) (by omega)
    simp only [amF, ih, ho n (by omega), chF_cg (R := R) (show n < nr by omega) (fun j _ => ih j) hA hM]
noncomputable def gtF (R : Option (List (List (Nat × Nat) × List (Nat × Nat)))) (A : Nat → Nat → Int32) (nr nw : Nat) (od : Nat → Option Int32) (M : Nat → Nat → Int32) : Nat → Option Nat := fun w => ftF (amF R A M nr nw od nr) (M 1) (M 2) (M 4 w) w nr
noncomputable def paF (R : Option (List (List (Nat × Nat) × List (Nat × Nat)))) (A : Nat → Nat → Int32) (nr nw : Nat) (od : Nat → Option Int32) (M : Nat → Nat → Int32) : Nat → Nat → Int32 := fun k j => match k with
  | 0 => M 0 0 + 1
  | 1 => M 1 j
  | 2 => if (if 0 < A 0 0 then A 0 0 - 1 - irm (M 0 0) (A 0 0) else 0) = 0 then 0 else (rwF (amF R A M nr nw od nr) nr (A 4) (gtF R A nr nw od M) (M 2) (M 3) nw).1 j
  | 3 => (rwF (amF R A M nr nw od nr) nr (A 4) (gtF R A nr nw od M) (M 2) (M 3) nw).2 j
  | 4 => M 4 j
  | _ => oI (gtF R A nr nw od M j)
theorem gtF_lt {R : Option (List (List (Nat × Nat) × List (Nat × Nat)))} {A : Nat → Nat → Int32} {nr nw : Nat} {od : Nat → Option Int32} {M : Nat → Nat → Int32} {w f : Nat} (h : gtF R A nr nw od M w = some f) : f < nr := ftF_lt _ _ _ _ _ _ _ h
theorem gtF_cg {R : Option (List (List (Nat × Nat) × List (Nat × Nat)))} {A B M N : Nat → Nat → Int32} {nr nw : Nat} {od oe : Nat → Option Int32} (ho : ∀ j, j < nr → od j = oe j) (hA : eqA nw A B) (hM : eqM nr nw M N) (w : Nat) (hw : w < nw) : gtF R A nr nw od M w = gtF R B nr nw oe N w := by
  unfold gtF
  rw [(hM.2.2 w hw).1]
  exact ftF_cg (fun j hj => ⟨amF_cg ho hA hM (Nat.le_refl nr) j, (hM.2.1 j hj).1, (hM.2.1 j hj).2.1⟩)
theorem biF_cg {gt hu : Nat → Option Nat} : ∀ {n : Nat}, (∀ j, j < n → gt j = hu j) → biF gt n = biF hu n
  | 0, _ => rfl
  | n + 1, h => by
    have ih := biF_cg (fun j hj => h j (Nat.lt_succ_of_lt hj))
    simp only [biF, ih, h n (Nat.lt_succ_self n)]
theorem paF_cg {R : Option (List (List (Nat × Nat) × List (Nat × Nat)))} {A B M N : Nat → Nat → Int32} {nr nw : Nat} {od oe : Nat → Option Int32} (ho : ∀ j, j < nr → od j = oe j) (hA : eqA nw A B) (hM : eqM nr nw M N) : eqM nr nw (paF R A nr nw od M) (paF R B nr nw oe N) := by
  have hg := fun w hw => gtF_cg (R := R) ho hA hM w hw
  have hrw := rwF_cg (ai := amF R A M nr nw od nr) (bi := amF R B N nr nw oe nr) (wo := A 4) (wp := B 4) (gt := gtF R A nr nw od M) (hu := gtF R B nr nw oe N) (pu := M 2) (pv := N 2) (we := M 3) (wf := N 3) (nr := nr) (n := nw) (fun j _ => amF_cg ho hA hM (Nat.le_refl nr) j) (fun j hj => (hM.2.1 j hj).2.1) (fun j hj => (hM.2.1 j hj).2.2) (fun w f => gtF_lt) (fun j hj => ⟨(hA.2 j hj).1, hg j hj⟩)
  refine ⟨by simp only [paF, hM.1], fun j hj => ⟨(hM.2.1 j hj).1, ?_, (hrw j hj).2⟩, fun j hj => ⟨(hM.2.2 j hj).1, ?_⟩⟩
  · simp only [paF, hA.1, hM.1, (hrw j hj).1]
  · simp only [paF, hg j hj]
def MomIs (h : AH) (m nr nw : Nat) (M : Nat → Nat → Int32) : Prop := MomAt h m ∧ eqM nr nw (pic h m) M ∧ (∀ j, nr ≤ j → j < 5 → hI h (m + 3) j = 0)
def HilIs (h : AH) (a nr nw : Nat) (A : Nat → Nat → Int32) : Prop := HillAt h a ∧ hI h a 1 = nI nr ∧ hI h a 2 = nI nw ∧ nr ≤ 5 ∧ nw ≤ 6 ∧ eqA nw (pic h a) A ∧ (∀ j, j < nr → hI h (a + 1) j = A 1 j ∧ hI h (a + 2) j = A 2 j) ∧ (∀ j, j < nw → hI h (a + 3) j = A 3 j) ∧ (∀ j, j < nw → 0 < A 4 j)
def OrdIs (h : AH) (c nr : Nat) (od : Nat → Option Int32) : Prop := ∀ j, j < nr → hI h (c + 1) j = odI (-2) (od j) ∧ od j ≠ some (-2)
theorem sp_pass {d : Nat} {h : AH} {Q : Option Value → AH → Prop} (hd : 10 ≤ d) (c ru a m nr nw : Nat) (R : Option (List (List (Nat × Nat) × List (Nat × Nat)))) (od : Nat → Option Int32) (A M : Nat → Nat → Int32) (HC : CouAt h c) (H : HilIs h a nr nw A) (HM : MomIs h m nr nw M) (HR : RuIs h ru R) (hod : OrdIs h c nr od) (dca : c + 5 ≤ a ∨ a + 6 ≤ c) (dcm : c + 5 ≤ m ∨ m + 6 ≤ c) (dam : a + 6 ≤ m ∨ m + 6 ≤ a) (dcr : ru ≠ 0 → c + 5 ≤ ru ∨ ru + 3 ≤ c) (k : ∀ h', Fr' h h' (fun b => b = c + 2 ∨ b = c + 3 ∨ b = c + 4 ∨ b = m ∨ b = m + 2 ∨ b = m + 3 ∨ b = m + 5) → MomIs h' m nr nw (paF R A nr nw od M) → Q (some (.int (biF (gtF R A nr nw od M) nw))) h') : Calls d nX1_pass [.ref c, .ref a, .ref m, .ref ru] h (hN h) (hU h) Q := by
  obtain ⟨e, rfl⟩ : ∃ e, d = e + 1 := ⟨d - 1, by omega⟩
  obtain ⟨H, hn, hn2, hr5, hw6, hA, hA1, hA2, hwo⟩ := H
  obtain ⟨HM, hM, hM0⟩ := HM
  refine wX1_pass (by omega) c a m ru (pa_aims (h0 := h) (by omega) c ru a m nr nw R od HC H HM HR hr5 hn hn2 hw6 dca dcm dcr hod (fun j hj => by rw [show hI h (a + 4) j = A 4 j from (hA.2 j hj).1]; exact hwo j hj) (fun h1 f1 q1 => ?_) nr 0 h (by omega) (Fr'.refl _ _) (fun j hj => absurd hj (Nat.not_lt_zero j)))
  have gI : ∀ x, ¬ (x = c + 2 ∨ x = c + 3 ∨ x = c + 4) → hI h1 x = hI h x := fun x hx => funext (f1.2.2.2.2.1 x hx)
  refine pa_gots (h0 := h1) (by omega) c a m nr nw _ (HC.fr f1) (H.fr f1) (HM.fr f1) hr5 (by rw [gI a (by omega)]; exact hn) (by rw [gI a (by omega)]; exact hn2) hw6 dca dcm dam rfl f1.2.2.1 f1.2.2.2.1 (fun h2 f2 q2 q3 q4 q5 q6 => ?_) nw 0 h1 (by omega) (Fr'.refl _ _) (fun j hj => absurd hj (Nat.not_lt_zero j)) (fun _ _ => rfl)
  have q6' : ∀ j, nw ≤ j → hI h2 (m + 5) j = hI h (m + 5) j := fun j hj => by rw [q6 j hj, gI (m + 5) (by omega)]
  simp only [gI a (by omega), gI m (by omega), gI (m + 1) (by omega), gI (m + 2) (by omega), gI (m + 3) (by omega), gI (m + 4) (by omega), gI (a + 4) (by omega)] at q2 q3 q4 q5 ⊢
  have hg : ∀ w, w < nw → ftF (hI h1 (c + 2)) (hI h (m + 1)) (hI h (m + 2)) (hI h (m + 4) w) w nr = gtF R A nr nw od M w := fun w hw => by
    rw [← gtF_cg (R := R) (fun _ _ => rfl) hA hM w hw]
    exact ftF_cg (fun j hj => ⟨q1 j hj, rfl, rfl⟩)
  have hai : ∀ j, j < nr → hI h1 (c + 2) j = amF R A M nr nw od nr j := fun j hj => by rw [q1 j hj]; exact amF_cg (fun _ _ => rfl) hA hM (Nat.le_refl nr) j
  have hrw := rwF_cg (ai := hI h1 (c + 2)) (bi := amF R A M nr nw od nr) (wo := hI h (a + 4)) (wp := A 4) (gt := fun w => ftF (hI h1 (c + 2)) (hI h (m + 1)) (hI h (m + 2)) (hI h (m + 4) w) w nr) (hu := gtF R A nr nw od M) (pu := hI h (m + 2)) (pv := M 2) (we := hI h (m + 3)) (wf := M 3) (nr := nr) (n := nw) hai (fun j hj => (hM.2.1 j hj).2.1) (fun j hj => (hM.2.1 j hj).2.2) (fun w f => ftF_lt _ _ _ _ _ _ _) (fun j hj => ⟨(hA.2 j hj).1, hg j hj⟩)
  have f3 := (f1.mono (T := fun b => b = c + 2 ∨ b = c + 3 ∨ b = c + 4 ∨ b = m ∨ b = m + 2 ∨ b = m + 3 ∨ b = m + 5) (fun b z => by omega)).trans (f2.mono (T := fun b => b = c + 2 ∨ b = c + 3 ∨ b = c + 4 ∨ b = m ∨ b = m + 2 ∨ b = m + 3 ∨ b = m + 5) (fun b z => by omega))
  have hd0 : hI h m 0 = M 0 0 := hM.1
  have hf0 : hI h a 0 = A 0 0 := hA.1
  rw [biF_cg hg]
  refine k h2 f3 ⟨HM.fr f3, ⟨?_, fun j hj => ⟨?_, ?_, ?_⟩, fun j hj => ⟨?_, ?_⟩⟩, fun j hj hj5 => ?_⟩
  · show hI h2 m 0 = M 0 0 + 1
    rw [q2, hd0]
  · show hI h2 (m + 1) j = M 1 j
    rw [f3.2.2.2.2.1 (m + 1) (by omega)]
    exact (hM.2.1 j hj).1
  · show hI h2 (m + 2) j = paF R A nr nw od M 2 j
    rw [q3 j (by omega), (hrw j hj).1, hd0, hf0]
    rfl
  · show hI h2 (m + 3) j = paF R A nr nw od M 3 j
    rw [q4 j, (hrw j hj).2]
    rfl
  · show hI h2 (m + 4) j = M 4 j
    rw [f3.2.2.2.2.1 (m + 4) (by omega)]
    exact (hM.2.2 j hj).1
  · show hI h2 (m + 5) j = oI (gtF R A nr nw od M j)
    rw [q5 j hj, hg j hj]
  · rw [q4 j, rwF_hi (fun w f => ftF_lt _ _ _ _ _ _ _) j hj]
    exact hM0 j hj hj5
