/-! class and reference answer alike, call by call -/
def Ag (d x : Nat) (h : AH) (W : WS) (y1 y2 : Nat) (as : List Value) (N U : Nat) : Prop := ∃ (W' : WS) (p' : Nat → Nat) (r : Int32), wOk W' ∧ (∀ Q : Option Value → AH → Prop, (∀ h', hN h' = N → hU h' = U → CW (p', h) h' x W' → Q (some (.int r)) h') → Calls d y1 (.ref x :: as) h N U Q) ∧ (∀ (h1 : AH) (Q : Option Value → AH → Prop), RW h1 (x + 101) W → (∀ h', Fr' h1 h' (MZ (x + 101)) → RW h' (x + 101) W' → Q (some (.int r)) h') → Calls d y2 (.ref (x + 101) :: as) h1 (hN h1) (hU h1) Q)
theorem rs_fr {h h' : AH} {m : Nat} (S : Rs h h' m) : Fr' h h' (MZ m) := S.1.1.mono (fun c z => by unfold QW at z; unfold MZ; omega)
abbrev AgP (p : Nat → Nat) (d x : Nat) (h : AH) (W : WS) : Prop := CW (p, h) h x W ∧ RW h (x + 101) W ∧ wOk W ∧ 20 ≤ d
section AG
variable {p : Nat → Nat} {d x : Nat} {h : AH} {nr nw : Nat} {A M : PC} {fo y : Int32} {ps : List PC} {ns : List (Nat × Nat × Int32)} {cls : List (List (List (Nat × Nat) × List (Nat × Nat)))} {tp : List Int32} {im : Nat → Option TW}
theorem ag_count {w : Int32} (H : AgP p d x h ((nr, nw, A, fo, y, M, ps, ns), cls, tp, im)) : Ag d x h ((nr, nw, A, fo, y, M, ps, ns), cls, tp, im) nX11_count nX12_count [.int w] (hN h) (hU h) := by
  obtain ⟨C, R, ok, hd⟩ := H
  exact ⟨_, p, _, ok, fun Q k => c_count (by omega) x nr nw A M fo y ps ns cls tp im w C (k h rfl rfl C), fun h1 Q R1 k => m_count (by omega) (x + 101) nr nw A M fo y ps ns cls tp im w R1 ok.1 (k h1 (Fr'.refl _ _) R1)⟩
theorem ag_runner {q w : Int32} (H : AgP p d x h ((nr, nw, A, fo, y, M, ps, ns), cls, tp, im)) : Ag d x h ((nr, nw, A, fo, y, M, ps, ns), cls, tp, im) nX11_runner nX12_runner [.int q, .int w] (hN h) (hU h) := by
  obtain ⟨C, R, ok, hd⟩ := H
  exact ⟨_, p, _, ok, fun Q k => c_runner (by omega) x nr nw A M fo y ps ns cls tp im q w C (k h rfl rfl C), fun h1 Q R1 k => m_runner (by omega) (x + 101) nr nw A M (foR cls fo) q w (R1.qk ok.1) (k h1 (Fr'.refl _ _) R1)⟩
theorem ag_ware {q w : Int32} (H : AgP p d x h ((nr, nw, A, fo, y, M, ps, ns), cls, tp, im)) : Ag d x h ((nr, nw, A, fo, y, M, ps, ns), cls, tp, im) nX11_ware nX12_ware [.int q, .int w] (hN h) (hU h) := by
  obtain ⟨C, R, ok, hd⟩ := H
  exact ⟨_, p, _, ok, fun Q k => c_ware (by omega) x nr nw A M fo y ps ns cls tp im q w C (k h rfl rfl C), fun h1 Q R1 k => m_ware (by omega) (x + 101) nr nw A M (foR cls fo) q w (R1.qk ok.1) (k h1 (Fr'.refl _ _) R1)⟩
theorem ag_rings {w : Int32} (H : AgP p d x h ((nr, nw, A, fo, y, M, ps, ns), cls, tp, im)) : Ag d x h ((nr, nw, A, fo, y, M, ps, ns), cls, tp, im) nX11_rings nX12_rings [.int w] (hN h) (hU h) := by
  obtain ⟨C, R, ok, hd⟩ := H
  exact ⟨_, p, _, ok, fun Q k => c_rings (by omega) x nr nw A M fo y ps ns cls tp im w C (k h rfl rfl C), fun h1 Q R1 k => m_rings (by omega) (x + 101) nr nw A M (foR cls fo) w (R1.qk ok.1) (k h1 (Fr'.refl _ _) R1)⟩
theorem ag_pence {q w : Int32} (H : AgP p d x h ((nr, nw, A, fo, y, M, ps, ns), cls, tp, im)) : Ag d x h ((nr, nw, A, fo, y, M, ps, ns), cls, tp, im) nX11_pence nX12_pence [.int q, .int w] (hN h) (hU h) := by
  obtain ⟨C, R, ok, hd⟩ := H
  exact ⟨_, p, _, ok, fun Q k => c_pence (by omega) x nr nw A M fo y ps ns cls tp im q w C (k h rfl rfl C), fun h1 Q R1 k => m_pence (by omega) (x + 101) nr nw A M (foR cls fo) q w (R1.qk ok.1) (k h1 (Fr'.refl _ _) R1)⟩
theorem ag_rank {q w : Int32} (H : AgP p d x h ((nr, nw, A, fo, y, M, ps, ns), cls, tp, im)) : Ag d x h ((nr, nw, A, fo, y, M, ps, ns), cls, tp, im) nX11_rank nX12_rank [.int q, .int w] (hN h) (hU h) := by
  obtain ⟨C, R, ok, hd⟩ := H
  exact ⟨_, p, _, ok, fun Q k => c_rank (by omega) x nr nw A M fo y ps ns cls tp im q w C (k h rfl rfl C), fun h1 Q R1 k => m_rank (by omega) (x + 101) nr nw A M (foR cls fo) q w (R1.qk ok.1) (k h1 (Fr'.refl _ _) R1)⟩
theorem ag_gets {q w : Int32} (H : AgP p d x h ((nr, nw, A, fo, y, M, ps, ns), cls, tp, im)) : Ag d x h ((nr, nw, A, fo, y, M, ps, ns), cls, tp, im) nX11_gets nX12_gets [.int q, .int w] (hN h) (hU h) := by
  obtain ⟨C, R, ok, hd⟩ := H
  exact ⟨_, p, _, ok, fun Q k => c_gets (by omega) x nr nw A M fo y ps ns cls tp im q w C ok.1 (fun h' C' n u => k h' n u C'), fun h1 Q R1 k => m_gets (by omega) (x + 101) nr nw A M (foR cls fo) q w (R1.qk ok.1) (fun h' S h5 => k h' (rs_fr S) (R1.rs S h5)) (fun e => e ▸ k h1 (Fr'.refl _ _) R1)⟩
theorem ag_need {q n w : Int32} (H : AgP p d x h ((nr, nw, A, fo, y, M, ps, ns), cls, tp, im)) : Ag d x h ((nr, nw, A, fo, y, M, ps, ns), cls, tp, im) nX11_need nX12_need [.int q, .int n, .int w] (hN h) (hU h) := by
  obtain ⟨C, R, ok, hd⟩ := H
  exact ⟨_, p, _, ok, fun Q k => c_need (by omega) x nr nw A M fo y ps ns cls tp im q n w C ok.1 (fun h' C' n u => k h' n u C'), fun h1 Q R1 k => m_need (by omega) (x + 101) nr nw A M (foR cls fo) q n w (R1.qk ok.1) (fun h' S h5 => k h' (rs_fr S) (R1.rs S h5)) (fun e => e ▸ k h1 (Fr'.refl _ _) R1)⟩
theorem ag_lender {q n w : Int32} (H : AgP p d x h ((nr, nw, A, fo, y, M, ps, ns), cls, tp, im)) : Ag d x h ((nr, nw, A, fo, y, M, ps, ns), cls, tp, im) nX11_lender nX12_lender [.int q, .int n, .int w] (hN h) (hU h) := by
  obtain ⟨C, R, ok, hd⟩ := H
  exact ⟨_, p, _, ok, fun Q k => c_lender (by omega) x nr nw A M fo y ps ns cls tp im q n w C ok.1 (fun h' C' n u => k h' n u C'), fun h1 Q R1 k => m_lender (by omega) (x + 101) nr nw A M (foR cls fo) q n w (R1.qk ok.1) (fun h' S h5 => k h' (rs_fr S) (R1.rs S h5)) (fun e => e ▸ k h1 (Fr'.refl _ _) R1)⟩
theorem ag_had {q n b w : Int32} (H : AgP p d x h ((nr, nw, A, fo, y, M, ps, ns), cls, tp, im)) : Ag d x h ((nr, nw, A, fo, y, M, ps, ns), cls, tp, im) nX11_had nX12_had [.int q, .int n, .int b, .int w] (hN h) (hU h) := by
  obtain ⟨C, R, ok, hd⟩ := H
  exact ⟨_, p, _, ok, fun Q k => c_had (by omega) x nr nw A M fo y ps ns cls tp im q n b w C ok.1 (fun h' C' n u => k h' n u C'), fun h1 Q R1 k => m_had (by omega) (x + 101) nr nw A M (foR cls fo) q n b w (R1.qk ok.1) (fun h' S h5 => k h' (rs_fr S) (R1.rs S h5)) (fun e => e ▸ k h1 (Fr'.refl _ _) R1)⟩
theorem ag_row {q n w : Int32} (H : AgP p d x h ((nr, nw, A, fo, y, M, ps, ns), cls, tp, im)) : Ag d x h ((nr, nw, A, fo, y, M, ps, ns), cls, tp, im) nX11_row nX12_row [.int q, .int n, .int w] (hN h) (hU h) := by
  obtain ⟨C, R, ok, hd⟩ := H
  exact ⟨_, p, _, ok, fun Q k => c_row (by omega) x nr nw A M fo y ps ns cls tp im q n w C ok.1 (fun h' C' n u => k h' n u C'), fun h1 Q R1 k => m_row (by omega) (x + 101) nr nw A M (foR cls fo) q n w (R1.qk ok.1) (fun h' S h5 => k h' (rs_fr S) (R1.rs S h5)) (fun e => e ▸ k h1 (Fr'.refl _ _) R1)⟩
theorem ag_rests {q n w : Int32} (H : AgP p d x h ((nr, nw, A, fo, y, M, ps, ns), cls, tp, im)) : Ag d x h ((nr, nw, A, fo, y, M, ps, ns), cls, tp, im) nX11_rests nX12_rests [.int q, .int n, .int w] (hN h) (hU h) := by
  obtain ⟨C, R, ok, hd⟩ := H
  exact ⟨_, p, _, ok, fun Q k => c_rests (by omega) x nr nw A M fo y ps ns cls tp im q n w C ok.1 (fun h' C' n u => k h' n u C'), fun h1 Q R1 k => m_rests (by omega) (x + 101) nr nw A M (foR cls fo) q n w (R1.qk ok.1) (fun h' S h5 => k h' (rs_fr S) (R1.rs S h5)) (fun e => e ▸ k h1 (Fr'.refl _ _) R1)⟩
theorem ag_ahead {q n w : Int32} (H : AgP p d x h ((nr, nw, A, fo, y, M, ps, ns), cls, tp, im)) : Ag d x h ((nr, nw, A, fo, y, M, ps, ns), cls, tp, im) nX11_ahead nX12_ahead [.int q, .int n, .int w] (hN h) (hU h) := by
  obtain ⟨C, R, ok, hd⟩ := H
  exact ⟨_, p, _, ok, fun Q k => c_ahead (by omega) x nr nw A M fo y ps ns cls tp im q n w C ok.1 (fun h' C' n u => k h' n u C'), fun h1 Q R1 k => m_ahead (by omega) (x + 101) nr nw A M (foR cls fo) q n w (R1.qk ok.1) (fun h' S h5 => k h' (rs_fr S) (R1.rs S h5)) (fun e => e ▸ k h1 (Fr'.refl _ _) R1)⟩
theorem ag_ruled {w : Int32} (H : AgP p d x h ((nr, nw, A, fo, y, M, ps, ns), cls, tp, im)) : Ag d x h ((nr, nw, A, fo, y, M, ps, ns), cls, tp, im) nX11_ruled nX12_ruled [.int w] (hN h) (hU h) := by
  obtain ⟨C, R, ok, hd⟩ := H
  exact ⟨_, p, _, ok, fun Q k => c_ruled (by omega) x nr nw A M fo y ps ns cls tp im w C ok.1 (fun h' C' n u => k h' n u C'), fun h1 Q R1 k => m_ruled (by omega) (x + 101) nr nw A M (foR cls fo) cls ns w (R1.qk ok.1) (R1.ql ok.1) (fun h' S h5 => k h' (rs_fr S) (R1.rs S h5)) (fun e => e ▸ k h1 (Fr'.refl _ _) R1)⟩
theorem ag_look {n w : Int32} (H : AgP p d x h ((nr, nw, A, fo, y, M, ps, ns), cls, tp, im)) : Ag d x h ((nr, nw, A, fo, y, M, ps, ns), cls, tp, im) nX11_look nX12_look [.int n, .int w] (hN h) (hU h) := by
  obtain ⟨C, R, ok, hd⟩ := H
  exact ⟨_, p, _, ok, fun Q k => c_look (by omega) x nr nw A M fo y ps ns cls tp im n w C ok.1 (fun h' C' n u => k h' n u C'), fun h1 Q R1 k => m_look (by omega) (x + 101) nr nw A M (foR cls fo) cls ns n w (R1.qk ok.1) (R1.ql ok.1) (fun h' S h5 => k h' (rs_fr S) (R1.rs S h5)) (fun e => e ▸ k h1 (Fr'.refl _ _) R1)⟩
theorem ag_falls {a b c w : Int32} (H : AgP p d x h ((nr, nw, A, fo, y, M, ps, ns), cls, tp, im)) : Ag d x h ((nr, nw, A, fo, y, M, ps, ns), cls, tp, im) nX11_falls nX12_falls [.int a, .int b, .int c, .int w] (hN h) (hU h) := by
  obtain ⟨C, R, ok, hd⟩ := H
  obtain ⟨dr, hdr⟩ := drOk_ex
  obtain ⟨i, hi, rfl⟩ := ok.1.1.2.2.1
  exact ⟨_, p, _, ok, fun Q k => c_falls hdr (by omega) x nr nw i A M fo ps ns cls tp im a b c w hi C ok.1 (fun h' C' n u => k h' n u C'), fun h1 Q R1 k => m_falls hdr (by omega) (x + 101) nr nw i A M (foR cls fo) a b c w hi (R1.qk ok.1) R1.2.1.2.1.2.2.2.2.2.1 (fun h' S h5 => k h' (rs_fr S) (R1.rs S h5)) (fun e => e ▸ k h1 (Fr'.refl _ _) R1)⟩
theorem ag_settle (H : AgP p d x h ((nr, nw, A, fo, y, M, ps, ns), cls, tp, im)) : Ag d x h ((nr, nw, A, fo, y, M, ps, ns), cls, tp, im) nX11_settle nX12_settle [] (hN h) (hU h) := by
  obtain ⟨C, R, ok, hd⟩ := H
  exact ⟨_, p, _, ok, fun Q k => c_settle (by omega) x nr nw A M fo y ps ns cls tp im C (fun h' f C' => k h' f.2.2.1 f.2.2.2.1 C'), fun h1 Q R1 k => m_settle (by omega) (x + 101) nr nw A M (foR cls fo) (R1.qk ok.1) (fun h' f => k h' (f.mono (fun c z => by unfold MZ; omega)) (R1.scr f (fun c z => by omega)))⟩
theorem ag_force {n : Int32} (H : AgP p d x h ((nr, nw, A, fo, y, M, ps, ns), cls, tp, im)) : Ag d x h ((nr, nw, A, fo, y, M, ps, ns), cls, tp, im) nX11_force nX12_force [.int n] (hN h) (hU h) := by
  obtain ⟨C, R, ok, hd⟩ := H
  exact ⟨_, p, _, ok.force (n := n) R.2.2.2.1.2.1, fun Q k => c_force (by omega) x nr nw A M fo y ps ns cls tp im n C (fun h' f C' => k h' f.2.2.1 f.2.2.2.1 C'), fun h1 Q R1 k => m_force (by omega) (x + 101) nr nw A M fo y ps ns cls tp im n R1 (fun h' f R' => k h' (f.mono (fun c z => by unfold MZ; omega)) R')⟩
theorem ag_seed {n : Int32} (H : AgP p d x h ((nr, nw, A, fo, y, M, ps, ns), cls, tp, im)) : Ag d x h ((nr, nw, A, fo, y, M, ps, ns), cls, tp, im) nX11_seed nX12_seed [.int n] (hN h) (hU h) := by
  obtain ⟨C, R, ok, hd⟩ := H
  exact ⟨_, p, _, ok.seed (n := n), fun Q k => c_seed (by omega) x nr nw A M fo y ps ns cls tp im n C (fun h' f C' => k h' f.2.2.1 f.2.2.2.1 C'), fun h1 Q R1 k => m_seed (by omega) (x + 101) nr nw A M fo y ps ns cls tp im n R1 (fun h' f R' => k h' (f.mono (fun c z => by unfold MZ; omega)) R')⟩
theorem ag_note {n w q : Int32} (H : AgP p d x h ((nr, nw, A, fo, y, M, ps, ns), cls, tp, im)) : Ag d x h ((nr, nw, A, fo, y, M, ps, ns), cls, tp, im) nX11_note nX12_note [.int n, .int w, .int q] (hN h) (hU h) := by
  obtain ⟨C, R, ok, hd⟩ := H
  exact ⟨_, p, _, ok.note (n := n) (w := w) (q := q), fun Q k => c_note (by omega) x nr nw A M fo y ps ns cls tp im n w q C (fun h' f C' => k h' f.2.2.1 f.2.2.2.1 C'), fun h1 Q R1 k => m_note (by omega) (x + 101) nr nw A M fo y ps ns cls tp im n w q R1 (fun h' f R' => k h' f R')⟩
theorem ag_end {n : Int32} (H : AgP p d x h ((nr, nw, A, fo, y, M, ps, ns), cls, tp, im)) : Ag d x h ((nr, nw, A, fo, y, M, ps, ns), cls, tp, im) nX11_end nX12_end [.int n] (hN h) (hU h) := by
  obtain ⟨C, R, ok, hd⟩ := H
  exact ⟨_, p, _, ok.end (n := n), fun Q k => c_end (by omega) x _ cls tp im n C (fun h' f C' => k h' f.2.2.1 f.2.2.2.1 C'), fun h1 Q R1 k => m_end (by omega) (x + 101) _ cls tp im n R1 (fun h' f R' => k h' (f.mono (fun c z => by unfold MZ; omega)) R')⟩
theorem ag_feed {a b c e f : Int32} (H : AgP p d x h ((nr, nw, A, fo, y, M, ps, ns), cls, tp, im)) : Ag d x h ((nr, nw, A, fo, y, M, ps, ns), cls, tp, im) nX11_feed nX12_feed [.int a, .int b, .int c, .int e, .int f] (hN h) (hU h) := by
  obtain ⟨C, R, ok, hd⟩ := H
  exact ⟨_, p, _, ok.feed (a := a) (b := b) (c := c) (d := e) (e := f), fun Q k => c_feed (by omega) x _ cls tp im a b c e f C (fun h' f C' => k h' f.2.2.1 f.2.2.2.1 C'), fun h1 Q R1 k => m_feed (by omega) (x + 101) _ cls tp im a b c e f R1 (fun h' f R' => k h' f R')⟩
theorem ag_undo (H : AgP p d x h ((nr, nw, A, fo, y, M, ps, ns), cls, tp, im)) : Ag d x h ((nr, nw, A, fo, y, M, ps, ns), cls, tp, im) nX11_undo nX12_undo [] (hN h) (hU h) := by
  obtain ⟨C, R, ok, hd⟩ := H
  rcases List.eq_nil_or_concat ps with e | ⟨qs, N, e⟩
  · exact ⟨_, p, _, ok, fun Q k => c_undo (by omega) x nr nw A M fo y ps ns cls tp im C (fun _ => k h rfl rfl C) (fun N qs z => absurd (e.symm.trans z) (by simp)), fun h1 Q R1 k => m_undo (by omega) (x + 101) nr nw A M fo y ps ns cls tp im R1 (fun _ => k h1 (Fr'.refl _ _) R1) (fun N qs z => absurd (e.symm.trans z) (by simp))⟩
  · rw [List.concat_eq_append] at e
    subst e
    refine ⟨_, p, nI qs.length, ok.undo, fun Q k => c_undo (by omega) x nr nw A M fo y _ ns cls tp im C (fun z => absurd z (by simp)) (fun N' qs' z h' f C' => ?_), fun h1 Q R1 k => m_undo (by omega) (x + 101) nr nw A M fo y _ ns cls tp im R1 (fun z => absurd z (by simp)) (fun N' qs' z h' f R' => ?_)⟩
    · obtain ⟨rfl, e2⟩ := List.append_inj' z rfl
      cases e2
      exact k h' f.2.2.1 f.2.2.2.1 C'
    · obtain ⟨rfl, e2⟩ := List.append_inj' z rfl
      cases e2
      exact k h' f R'
end AG
