/-! ===== the world: all blocks of the two objects ===== -/
abbrev Pst : Type := Nat × (Nat → Option Nat) × (Nat → Blk)
theorem at_far {h : Hea} {b b' n n' : Nat} {f f' : Nat → Option Cel} (a : At h b f) (hf : ∀ k, n ≤ k → f k = none) (hf' : ∀ k, n' ≤ k → f' k = none) (hd : b + n ≤ b' ∨ b' + n' ≤ b) : At (blk b' f' h) b f := a.blk (fun k k' e => by
  by_cases h1 : n ≤ k
  · exact Or.inl (hf k h1)
  · exact Or.inr (hf' k' (by omega)))
def fc_sn {h : Hea} {b : Nat} {s g : Blk} (a : At h b (fcL b s g)) : At h (b + 1) (snL (b + 1) s) := fun k c e => by
  rw [Nat.add_assoc]
  refine a (1 + k) c ?_
  revert e
  match k with
  | 0 => exact id
  | 1 => exact id
  | 2 => exact id
  | 3 => exact id
  | 4 => exact id
  | 5 => exact id
  | k + 6 => exact fun e => by cases e
theorem fc_put {h : Hea} {b : Nat} {s s' g : Blk} : blk (b + 1) (snL (b + 1) s') (blk b (fcL b s g) h) = blk b (fcL b s' g) h := blk_sub (fun k => by
  match k with
  | 0 => rfl
  | 1 => rfl
  | 2 => rfl
  | 3 => rfl
  | 4 => rfl
  | 5 => rfl
  | 6 => rfl
  | 7 => rfl
  | k + 8 => rfl)
def wf_sn {h : Hea} {b : Nat} {s g : Blk} (a : At h b (wfL b s g)) : At h (b + 1) (snL (b + 1) s) := fun k c e => by
  rw [Nat.add_assoc]
  refine a (1 + k) c ?_
  revert e
  match k with
  | 0 => exact id
  | 1 => exact id
  | 2 => exact id
  | 3 => exact id
  | 4 => exact id
  | 5 => exact id
  | k + 6 => exact fun e => by cases e
theorem wf_put {h : Hea} {b : Nat} {s s' g : Blk} : blk (b + 1) (snL (b + 1) s') (blk b (wfL b s g) h) = blk b (wfL b s' g) h := blk_sub (fun k => by
  match k with
  | 0 => rfl
  | 1 => rfl
  | 2 => rfl
  | 3 => rfl
  | 4 => rfl
  | 5 => rfl
  | 6 => rfl
  | 7 => rfl
  | 8 => rfl
  | k + 9 => rfl)
def Wd (B : Nat) (X : Nat → Blk) (P : Nat → Pst) (L : Nat → Nat → Int64) (R : Nat → Nat → Nat → Int64) (t : Nat) (h : Hea) : Prop :=
  At h B (flL B (X 0) (L 0)) ∧
  At h (B + 1) (hhL (B + 1) (X 1) (X 2)) ∧
  At h (B + 16) (pastL (B + 16) (P 0).1 (P 0).2.1 (P 0).2.2) ∧
  At h (B + 66) (hhL (B + 66) (X 3) (X 4)) ∧
  At h (B + 81) (kfL (B + 81) (X 5)) ∧
  At h (B + 84) (fcL (B + 84) (X 6) (X 7)) ∧
  At h (B + 92) (wfL (B + 92) (X 8) (X 9)) ∧
  At h (B + 101) (wkL (B + 101) (R 0)) ∧
  At h (B + 106) (rdL (B + 106) t (X 10)) ∧
  At h (B + 108) (txL (B + 108) (X 11)) ∧
  At h (B + 109) (hhL (B + 109) (X 12) (X 13)) ∧
  At h (B + 124) (pastL (B + 124) (P 1).1 (P 1).2.1 (P 1).2.2) ∧
  At h (B + 174) (hhL (B + 174) (X 14) (X 15)) ∧
  At h (B + 189) (pastL (B + 189) (P 2).1 (P 2).2.1 (P 2).2.2) ∧
  At h (B + 239) (mdL (B + 239) (X 16) (L 1) (R 1))
section
variable {B : Nat} {X : Nat → Blk} {P : Nat → Pst} {L : Nat → Nat → Int64} {R : Nat → Nat → Nat → Int64} {t : Nat} {h : Hea}
theorem wd_fl (w : Wd B X P L R t h) : At h B (flL B (X 0) (L 0)) := w.1
theorem wd_ho (w : Wd B X P L R t h) : At h (B + 1) (hhL (B + 1) (X 1) (X 2)) := w.2.1
theorem wd_pa (w : Wd B X P L R t h) : At h (B + 16) (pastL (B + 16) (P 0).1 (P 0).2.1 (P 0).2.2) := w.2.2.1
theorem wd_dr (w : Wd B X P L R t h) : At h (B + 66) (hhL (B + 66) (X 3) (X 4)) := w.2.2.2.1
theorem wd_kf (w : Wd B X P L R t h) : At h (B + 81) (kfL (B + 81) (X 5)) := w.2.2.2.2.1
theorem wd_fc (w : Wd B X P L R t h) : At h (B + 84) (fcL (B + 84) (X 6) (X 7)) := w.2.2.2.2.2.1
theorem wd_wf (w : Wd B X P L R t h) : At h (B + 92) (wfL (B + 92) (X 8) (X 9)) := w.2.2.2.2.2.2.1
theorem wd_wk (w : Wd B X P L R t h) : At h (B + 101) (wkL (B + 101) (R 0)) := w.2.2.2.2.2.2.2.1
theorem wd_rd (w : Wd B X P L R t h) : At h (B + 106) (rdL (B + 106) t (X 10)) := w.2.2.2.2.2.2.2.2.1
theorem wd_tx (w : Wd B X P L R t h) : At h (B + 108) (txL (B + 108) (X 11)) := w.2.2.2.2.2.2.2.2.2.1
theorem wd_k0 (w : Wd B X P L R t h) : At h (B + 109) (hhL (B + 109) (X 12) (X 13)) := w.2.2.2.2.2.2.2.2.2.2.1
theorem wd_p0 (w : Wd B X P L R t h) : At h (B + 124) (pastL (B + 124) (P 1).1 (P 1).2.1 (P 1).2.2) := w.2.2.2.2.2.2.2.2.2.2.2.1
theorem wd_k1 (w : Wd B X P L R t h) : At h (B + 174) (hhL (B + 174) (X 14) (X 15)) := w.2.2.2.2.2.2.2.2.2.2.2.2.1
theorem wd_p1 (w : Wd B X P L R t h) : At h (B + 189) (pastL (B + 189) (P 2).1 (P 2).2.1 (P 2).2.2) := w.2.2.2.2.2.2.2.2.2.2.2.2.2.1
theorem wd_md (w : Wd B X P L R t h) : At h (B + 239) (mdL (B + 239) (X 16) (L 1) (R 1)) := w.2.2.2.2.2.2.2.2.2.2.2.2.2.2
theorem wu_fl (w : Wd B X P L R t h) (g : Blk) (l : Nat → Int64) : Wd B (va_up X 0 g) P (va_up L 0 l) R t (blk B (flL B g l) h) :=
  ⟨blk_at _ _ _,
   (by have q := at_far (b' := B) (f' := flL B g l) (n := 15) (n' := 1) (wd_ho w) (fun _ => hh_hi) (fun _ => fl_hi) (by omega); exact q),
   (by have q := at_far (b' := B) (f' := flL B g l) (n := 50) (n' := 1) (wd_pa w) (fun _ => past_hi) (fun _ => fl_hi) (by omega); exact q),
   (by have q := at_far (b' := B) (f' := flL B g l) (n := 15) (n' := 1) (wd_dr w) (fun _ => hh_hi) (fun _ => fl_hi) (by omega); exact q),
   (by have q := at_far (b' := B) (f' := flL B g l) (n := 3) (n' := 1) (wd_kf w) (fun _ => kf_hi) (fun _ => fl_hi) (by omega); exact q),
   (by have q := at_far (b' := B) (f' := flL B g l) (n := 8) (n' := 1) (wd_fc w) (fun _ => fc_hi) (fun _ => fl_hi) (by omega); exact q),
   (by have q := at_far (b' := B) (f' := flL B g l) (n := 9) (n' := 1) (wd_wf w) (fun _ => wf_hi) (fun _ => fl_hi) (by omega); exact q),
   (by have q := at_far (b' := B) (f' := flL B g l) (n := 5) (n' := 1) (wd_wk w) (fun _ => wk_hi) (fun _ => fl_hi) (by omega); exact q),
   (by have q := at_far (b' := B) (f' := flL B g l) (n := 1) (n' := 1) (wd_rd w) (fun _ => rd_hi) (fun _ => fl_hi) (by omega); exact q),
   (by have q := at_far (b' := B) (f' := flL B g l) (n := 1) (n' := 1) (wd_tx w) (fun _ => tx_hi) (fun _ => fl_hi) (by omega); exact q),
   (by have q := at_far (b' := B) (f' := flL B g l) (n := 15) (n' := 1) (wd_k0 w) (fun _ => hh_hi) (fun _ => fl_hi) (by omega); exact q),
   (by have q := at_far (b' := B) (f' := flL B g l) (n := 50) (n' := 1) (wd_p0 w) (fun _ => past_hi) (fun _ => fl_hi) (by omega); exact q),
   (by have q := at_far (b' := B) (f' := flL B g l) (n := 15) (n' := 1) (wd_k1 w) (fun _ => hh_hi) (fun _ => fl_hi) (by omega); exact q),
   (by have q := at_far (b' := B) (f' := flL B g l) (n := 50) (n' := 1) (wd_p1 w) (fun _ => past_hi) (fun _ => fl_hi) (by omega); exact q),
   (by have q := at_far (b' := B) (f' := flL B g l) (n := 19) (n' := 1) (wd_md w) (fun _ => md_hi) (fun _ => fl_hi) (by omega); exact q)⟩
theorem wu_ho (w : Wd B X P L R t h) (H : Blk) (s : Blk) : Wd B (va_up (va_up X 1 H) 2 s) P L R t (blk (B + 1) (hhL (B + 1) H s) h) :=
  ⟨(by have q := at_far (b' := (B + 1)) (f' := hhL (B + 1) H s) (n := 1) (n' := 15) (wd_fl w) (fun _ => fl_hi) (fun _ => hh_hi) (by omega); exact q),
   blk_at _ _ _,
   (by have q := at_far (b' := (B + 1)) (f' := hhL (B + 1) H s) (n := 50) (n' := 15) (wd_pa w) (fun _ => past_hi) (fun _ => hh_hi) (by omega); exact q),
   (by have q := at_far (b' := (B + 1)) (f' := hhL (B + 1) H s) (n := 15) (n' := 15) (wd_dr w) (fun _ => hh_hi) (fun _ => hh_hi) (by omega); exact q),
   (by have q := at_far (b' := (B + 1)) (f' := hhL (B + 1) H s) (n := 3) (n' := 15) (wd_kf w) (fun _ => kf_hi) (fun _ => hh_hi) (by omega); exact q),
   (by have q := at_far (b' := (B + 1)) (f' := hhL (B + 1) H s) (n := 8) (n' := 15) (wd_fc w) (fun _ => fc_hi) (fun _ => hh_hi) (by omega); exact q),
   (by have q := at_far (b' := (B + 1)) (f' := hhL (B + 1) H s) (n := 9) (n' := 15) (wd_wf w) (fun _ => wf_hi) (fun _ => hh_hi) (by omega); exact q),
   (by have q := at_far (b' := (B + 1)) (f' := hhL (B + 1) H s) (n := 5) (n' := 15) (wd_wk w) (fun _ => wk_hi) (fun _ => hh_hi) (by omega); exact q),
   (by have q := at_far (b' := (B + 1)) (f' := hhL (B + 1) H s) (n := 1) (n' := 15) (wd_rd w) (fun _ => rd_hi) (fun _ => hh_hi) (by omega); exact q),
   (by have q := at_far (b' := (B + 1)) (f' := hhL (B + 1) H s) (n := 1) (n' := 15) (wd_tx w) (fun _ => tx_hi) (fun _ => hh_hi) (by omega); exact q),
   (by have q := at_far (b' := (B + 1)) (f' := hhL (B + 1) H s) (n := 15) (n' := 15) (wd_k0 w) (fun _ => hh_hi) (fun _ => hh_hi) (by omega); exact q),
   (by have q := at_far (b' := (B + 1)) (f' := hhL (B + 1) H s) (n := 50) (n' := 15) (wd_p0 w) (fun _ => past_hi) (fun _ => hh_hi) (by omega); exact q),
   (by have q := at_far (b' := (B + 1)) (f' := hhL (B + 1) H s) (n := 15) (n' := 15) (wd_k1 w) (fun _ => hh_hi) (fun _ => hh_hi) (by omega); exact q),
   (by have q := at_far (b' := (B + 1)) (f' := hhL (B + 1) H s) (n := 50) (n' := 15) (wd_p1 w) (fun _ => past_hi) (fun _ => hh_hi) (by omega); exact q),
   (by have q := at_far (b' := (B + 1)) (f' := hhL (B + 1) H s) (n := 19) (n' := 15) (wd_md w) (fun _ => md_hi) (fun _ => hh_hi) (by omega); exact q)⟩
theorem wu_pa (w : Wd B X P L R t h) (p : Pst) : Wd B X (va_up P 0 p) L R t (blk (B + 16) (pastL (B + 16) p.1 p.2.1 p.2.2) h) :=
  ⟨(by have q := at_far (b' := (B + 16)) (f' := pastL (B + 16) p.1 p.2.1 p.2.2) (n := 1) (n' := 50) (wd_fl w) (fun _ => fl_hi) (fun _ => past_hi) (by omega); exact q),
   (by have q := at_far (b' := (B + 16)) (f' := pastL (B + 16) p.1 p.2.1 p.2.2) (n := 15) (n' := 50) (wd_ho w) (fun _ => hh_hi) (fun _ => past_hi) (by omega); exact q),
   blk_at _ _ _,
   (by have q := at_far (b' := (B + 16)) (f' := pastL (B + 16) p.1 p.2.1 p.2.2) (n := 15) (n' := 50) (wd_dr w) (fun _ => hh_hi) (fun _ => past_hi) (by omega); exact q),
   (by have q := at_far (b' := (B + 16)) (f' := pastL (B + 16) p.1 p.2.1 p.2.2) (n := 3) (n' := 50) (wd_kf w) (fun _ => kf_hi) (fun _ => past_hi) (by omega); exact q),
   (by have q := at_far (b' := (B + 16)) (f' := pastL (B + 16) p.1 p.2.1 p.2.2) (n := 8) (n' := 50) (wd_fc w) (fun _ => fc_hi) (fun _ => past_hi) (by omega); exact q),
   (by have q := at_far (b' := (B + 16)) (f' := pastL (B + 16) p.1 p.2.1 p.2.2) (n := 9) (n' := 50) (wd_wf w) (fun _ => wf_hi) (fun _ => past_hi) (by omega); exact q),
   (by have q := at_far (b' := (B + 16)) (f' := pastL (B + 16) p.1 p.2.1 p.2.2) (n := 5) (n' := 50) (wd_wk w) (fun _ => wk_hi) (fun _ => past_hi) (by omega); exact q),
   (by have q := at_far (b' := (B + 16)) (f' := pastL (B + 16) p.1 p.2.1 p.2.2) (n := 1) (n' := 50) (wd_rd w) (fun _ => rd_hi) (fun _ => past_hi) (by omega); exact q),
   (by have q := at_far (b' := (B + 16)) (f' := pastL (B + 16) p.1 p.2.1 p.2.2) (n := 1) (n' := 50) (wd_tx w) (fun _ => tx_hi) (fun _ => past_hi) (by omega); exact q),
   (by have q := at_far (b' := (B + 16)) (f' := pastL (B + 16) p.1 p.2.1 p.2.2) (n := 15) (n' := 50) (wd_k0 w) (fun _ => hh_hi) (fun _ => past_hi) (by omega); exact q),
   (by have q := at_far (b' := (B + 16)) (f' := pastL (B + 16) p.1 p.2.1 p.2.2) (n := 50) (n' := 50) (wd_p0 w) (fun _ => past_hi) (fun _ => past_hi) (by omega); exact q),
   (by have q := at_far (b' := (B + 16)) (f' := pastL (B + 16) p.1 p.2.1 p.2.2) (n := 15) (n' := 50) (wd_k1 w) (fun _ => hh_hi) (fun _ => past_hi) (by omega); exact q),
   (by have q := at_far (b' := (B + 16)) (f' := pastL (B + 16) p.1 p.2.1 p.2.2) (n := 50) (n' := 50) (wd_p1 w) (fun _ => past_hi) (fun _ => past_hi) (by omega); exact q),
   (by have q := at_far (b' := (B + 16)) (f' := pastL (B + 16) p.1 p.2.1 p.2.2) (n := 19) (n' := 50) (wd_md w) (fun _ => md_hi) (fun _ => past_hi) (by omega); exact q)⟩
theorem wu_dr (w : Wd B X P L R t h) (H : Blk) (s : Blk) : Wd B (va_up (va_up X 3 H) 4 s) P L R t (blk (B + 66) (hhL (B + 66) H s) h) :=
  ⟨(by have q := at_far (b' := (B + 66)) (f' := hhL (B + 66) H s) (n := 1) (n' := 15) (wd_fl w) (fun _ => fl_hi) (fun _ => hh_hi) (by omega); exact q),
   (by have q := at_far (b' := (B + 66)) (f' := hhL (B + 66) H s) (n := 15) (n' := 15) (wd_ho w) (fun _ => hh_hi) (fun _ => hh_hi) (by omega); exact q),
   (by have q := at_far (b' := (B + 66)) (f' := hhL (B + 66) H s) (n := 50) (n' := 15) (wd_pa w) (fun _ => past_hi) (fun _ => hh_hi) (by omega); exact q),
   blk_at _ _ _,
   (by have q := at_far (b' := (B + 66)) (f' := hhL (B + 66) H s) (n := 3) (n' := 15) (wd_kf w) (fun _ => kf_hi) (fun _ => hh_hi) (by omega); exact q),
   (by have q := at_far (b' := (B + 66)) (f' := hhL (B + 66) H s) (n := 8) (n' := 15) (wd_fc w) (fun _ => fc_hi) (fun _ => hh_hi) (by omega); exact q),
   (by have q := at_far (b' := (B + 66)) (f' := hhL (B + 66) H s) (n := 9) (n' := 15) (wd_wf w) (fun _ => wf_hi) (fun _ => hh_hi) (by omega); exact q),
   (by have q := at_far (b' := (B + 66)) (f' := hhL (B + 66) H s) (n := 5) (n' := 15) (wd_wk w) (fun _ => wk_hi) (fun _ => hh_hi) (by omega); exact q),
   (by have q := at_far (b' := (B + 66)) (f' := hhL (B + 66) H s) (n := 1) (n' := 15) (wd_rd w) (fun _ => rd_hi) (fun _ => hh_hi) (by omega); exact q),
   (by have q := at_far (b' := (B + 66)) (f' := hhL (B + 66) H s) (n := 1) (n' := 15) (wd_tx w) (fun _ => tx_hi) (fun _ => hh_hi) (by omega); exact q),
   (by have q := at_far (b' := (B + 66)) (f' := hhL (B + 66) H s) (n := 15) (n' := 15) (wd_k0 w) (fun _ => hh_hi) (fun _ => hh_hi) (by omega); exact q),
   (by have q := at_far (b' := (B + 66)) (f' := hhL (B + 66) H s) (n := 50) (n' := 15) (wd_p0 w) (fun _ => past_hi) (fun _ => hh_hi) (by omega); exact q),
   (by have q := at_far (b' := (B + 66)) (f' := hhL (B + 66) H s) (n := 15) (n' := 15) (wd_k1 w) (fun _ => hh_hi) (fun _ => hh_hi) (by omega); exact q),
   (by have q := at_far (b' := (B + 66)) (f' := hhL (B + 66) H s) (n := 50) (n' := 15) (wd_p1 w) (fun _ => past_hi) (fun _ => hh_hi) (by omega); exact q),
   (by have q := at_far (b' := (B + 66)) (f' := hhL (B + 66) H s) (n := 19) (n' := 15) (wd_md w) (fun _ => md_hi) (fun _ => hh_hi) (by omega); exact q)⟩
theorem wu_kf (w : Wd B X P L R t h) (g : Blk) : Wd B (va_up X 5 g) P L R t (blk (B + 81) (kfL (B + 81) g) h) :=
  ⟨(by have q := at_far (b' := (B + 81)) (f' := kfL (B + 81) g) (n := 1) (n' := 3) (wd_fl w) (fun _ => fl_hi) (fun _ => kf_hi) (by omega); exact q),
   (by have q := at_far (b' := (B + 81)) (f' := kfL (B + 81) g) (n := 15) (n' := 3) (wd_ho w) (fun _ => hh_hi) (fun _ => kf_hi) (by omega); exact q),
   (by have q := at_far (b' := (B + 81)) (f' := kfL (B + 81) g) (n := 50) (n' := 3) (wd_pa w) (fun _ => past_hi) (fun _ => kf_hi) (by omega); exact q),
   (by have q := at_far (b' := (B + 81)) (f' := kfL (B + 81) g) (n := 15) (n' := 3) (wd_dr w) (fun _ => hh_hi) (fun _ => kf_hi) (by omega); exact q),
   blk_at _ _ _,
   (by have q := at_far (b' := (B + 81)) (f' := kfL (B + 81) g) (n := 8) (n' := 3) (wd_fc w) (fun _ => fc_hi) (fun _ => kf_hi) (by omega); exact q),
   (by have q := at_far (b' := (B + 81)) (f' := kfL (B + 81) g) (n := 9) (n' := 3) (wd_wf w) (fun _ => wf_hi) (fun _ => kf_hi) (by omega); exact q),
   (by have q := at_far (b' := (B + 81)) (f' := kfL (B + 81) g) (n := 5) (n' := 3) (wd_wk w) (fun _ => wk_hi) (fun _ => kf_hi) (by omega); exact q),
   (by have q := at_far (b' := (B + 81)) (f' := kfL (B + 81) g) (n := 1) (n' := 3) (wd_rd w) (fun _ => rd_hi) (fun _ => kf_hi) (by omega); exact q),
   (by have q := at_far (b' := (B + 81)) (f' := kfL (B + 81) g) (n := 1) (n' := 3) (wd_tx w) (fun _ => tx_hi) (fun _ => kf_hi) (by omega); exact q),
   (by have q := at_far (b' := (B + 81)) (f' := kfL (B + 81) g) (n := 15) (n' := 3) (wd_k0 w) (fun _ => hh_hi) (fun _ => kf_hi) (by omega); exact q),
   (by have q := at_far (b' := (B + 81)) (f' := kfL (B + 81) g) (n := 50) (n' := 3) (wd_p0 w) (fun _ => past_hi) (fun _ => kf_hi) (by omega); exact q),
   (by have q := at_far (b' := (B + 81)) (f' := kfL (B + 81) g) (n := 15) (n' := 3) (wd_k1 w) (fun _ => hh_hi) (fun _ => kf_hi) (by omega); exact q),
   (by have q := at_far (b' := (B + 81)) (f' := kfL (B + 81) g) (n := 50) (n' := 3) (wd_p1 w) (fun _ => past_hi) (fun _ => kf_hi) (by omega); exact q),
   (by have q := at_far (b' := (B + 81)) (f' := kfL (B + 81) g) (n := 19) (n' := 3) (wd_md w) (fun _ => md_hi) (fun _ => kf_hi) (by omega); exact q)⟩
theorem wu_fc (w : Wd B X P L R t h) (s : Blk) (g : Blk) : Wd B (va_up (va_up X 6 s) 7 g) P L R t (blk (B + 84) (fcL (B + 84) s g) h) :=
  ⟨(by have q := at_far (b' := (B + 84)) (f' := fcL (B + 84) s g) (n := 1) (n' := 8) (wd_fl w) (fun _ => fl_hi) (fun _ => fc_hi) (by omega); exact q),
   (by have q := at_far (b' := (B + 84)) (f' := fcL (B + 84) s g) (n := 15) (n' := 8) (wd_ho w) (fun _ => hh_hi) (fun _ => fc_hi) (by omega); exact q),
   (by have q := at_far (b' := (B + 84)) (f' := fcL (B + 84) s g) (n := 50) (n' := 8) (wd_pa w) (fun _ => past_hi) (fun _ => fc_hi) (by omega); exact q),
   (by have q := at_far (b' := (B + 84)) (f' := fcL (B + 84) s g) (n := 15) (n' := 8) (wd_dr w) (fun _ => hh_hi) (fun _ => fc_hi) (by omega); exact q),
   (by have q := at_far (b' := (B + 84)) (f' := fcL (B + 84) s g) (n := 3) (n' := 8) (wd_kf w) (fun _ => kf_hi) (fun _ => fc_hi) (by omega); exact q),
   blk_at _ _ _,
   (by have q := at_far (b' := (B + 84)) (f' := fcL (B + 84) s g) (n := 9) (n' := 8) (wd_wf w) (fun _ => wf_hi) (fun _ => fc_hi) (by omega); exact q),
   (by have q := at_far (b' := (B + 84)) (f' := fcL (B + 84) s g) (n := 5) (n' := 8) (wd_wk w) (fun _ => wk_hi) (fun _ => fc_hi) (by omega); exact q),
   (by have q := at_far (b' := (B + 84)) (f' := fcL (B + 84) s g) (n := 1) (n' := 8) (wd_rd w) (fun _ => rd_hi) (fun _ => fc_hi) (by omega); exact q),
   (by have q := at_far (b' := (B + 84)) (f' := fcL (B + 84) s g) (n := 1) (n' := 8) (wd_tx w) (fun _ => tx_hi) (fun _ => fc_hi) (by omega); exact q),
   (by have q := at_far (b' := (B + 84)) (f' := fcL (B + 84) s g) (n := 15) (n' := 8) (wd_k0 w) (fun _ => hh_hi) (fun _ => fc_hi) (by omega); exact q),
   (by have q := at_far (b' := (B + 84)) (f' := fcL (B + 84) s g) (n := 50) (n' := 8) (wd_p0 w) (fun _ => past_hi) (fun _ => fc_hi) (by omega); exact q),
   (by have q := at_far (b' := (B + 84)) (f' := fcL (B + 84) s g) (n := 15) (n' := 8) (wd_k1 w) (fun _ => hh_hi) (fun _ => fc_hi) (by omega); exact q),
   (by have q := at_far (b' := (B + 84)) (f' := fcL (B + 84) s g) (n := 50) (n' := 8) (wd_p1 w) (fun _ => past_hi) (fun _ => fc_hi) (by omega); exact q),
   (by have q := at_far (b' := (B + 84)) (f' := fcL (B + 84) s g) (n := 19) (n' := 8) (wd_md w) (fun _ => md_hi) (fun _ => fc_hi) (by omega); exact q)⟩
theorem wu_wf (w : Wd B X P L R t h) (s : Blk) (g : Blk) : Wd B (va_up (va_up X 8 s) 9 g) P L R t (blk (B + 92) (wfL (B + 92) s g) h) :=
  ⟨(by have q := at_far (b' := (B + 92)) (f' := wfL (B + 92) s g) (n := 1) (n' := 9) (wd_fl w) (fun _ => fl_hi) (fun _ => wf_hi) (by omega); exact q),
   (by have q := at_far (b' := (B + 92)) (f' := wfL (B + 92) s g) (n := 15) (n' := 9) (wd_ho w) (fun _ => hh_hi) (fun _ => wf_hi) (by omega); exact q),
   (by have q := at_far (b' := (B + 92)) (f' := wfL (B + 92) s g) (n := 50) (n' := 9) (wd_pa w) (fun _ => past_hi) (fun _ => wf_hi) (by omega); exact q),
   (by have q := at_far (b' := (B + 92)) (f' := wfL (B + 92) s g) (n := 15) (n' := 9) (wd_dr w) (fun _ => hh_hi) (fun _ => wf_hi) (by omega); exact q),
   (by have q := at_far (b' := (B + 92)) (f' := wfL (B + 92) s g) (n := 3) (n' := 9) (wd_kf w) (fun _ => kf_hi) (fun _ => wf_hi) (by omega); exact q),
   (by have q := at_far (b' := (B + 92)) (f' := wfL (B + 92) s g) (n := 8) (n' := 9) (wd_fc w) (fun _ => fc_hi) (fun _ => wf_hi) (by omega); exact q),
   blk_at _ _ _,
   (by have q := at_far (b' := (B + 92)) (f' := wfL (B + 92) s g) (n := 5) (n' := 9) (wd_wk w) (fun _ => wk_hi) (fun _ => wf_hi) (by omega); exact q),
   (by have q := at_far (b' := (B + 92)) (f' := wfL (B + 92) s g) (n := 1) (n' := 9) (wd_rd w) (fun _ => rd_hi) (fun _ => wf_hi) (by omega); exact q),
   (by have q := at_far (b' := (B + 92)) (f' := wfL (B + 92) s g) (n := 1) (n' := 9) (wd_tx w) (fun _ => tx_hi) (fun _ => wf_hi) (by omega); exact q),
   (by have q := at_far (b' := (B + 92)) (f' := wfL (B + 92) s g) (n := 15) (n' := 9) (wd_k0 w) (fun _ => hh_hi) (fun _ => wf_hi) (by omega); exact q),
   (by have q := at_far (b' := (B + 92)) (f' := wfL (B + 92) s g) (n := 50) (n' := 9) (wd_p0 w) (fun _ => past_hi) (fun _ => wf_hi) (by omega); exact q),
   (by have q := at_far (b' := (B + 92)) (f' := wfL (B + 92) s g) (n := 15) (n' := 9) (wd_k1 w) (fun _ => hh_hi) (fun _ => wf_hi) (by omega); exact q),
   (by have q := at_far (b' := (B + 92)) (f' := wfL (B + 92) s g) (n := 50) (n' := 9) (wd_p1 w) (fun _ => past_hi) (fun _ => wf_hi) (by omega); exact q),
   (by have q := at_far (b' := (B + 92)) (f' := wfL (B + 92) s g) (n := 19) (n' := 9) (wd_md w) (fun _ => md_hi) (fun _ => wf_hi) (by omega); exact q)⟩
theorem wu_wk (w : Wd B X P L R t h) (r : Nat → Nat → Int64) : Wd B X P L (va_up R 0 r) t (blk (B + 101) (wkL (B + 101) r) h) :=
  ⟨(by have q := at_far (b' := (B + 101)) (f' := wkL (B + 101) r) (n := 1) (n' := 5) (wd_fl w) (fun _ => fl_hi) (fun _ => wk_hi) (by omega); exact q),
   (by have q := at_far (b' := (B + 101)) (f' := wkL (B + 101) r) (n := 15) (n' := 5) (wd_ho w) (fun _ => hh_hi) (fun _ => wk_hi) (by omega); exact q),
   (by have q := at_far (b' := (B + 101)) (f' := wkL (B + 101) r) (n := 50) (n' := 5) (wd_pa w) (fun _ => past_hi) (fun _ => wk_hi) (by omega); exact q),
   (by have q := at_far (b' := (B + 101)) (f' := wkL (B + 101) r) (n := 15) (n' := 5) (wd_dr w) (fun _ => hh_hi) (fun _ => wk_hi) (by omega); exact q),
   (by have q := at_far (b' := (B + 101)) (f' := wkL (B + 101) r) (n := 3) (n' := 5) (wd_kf w) (fun _ => kf_hi) (fun _ => wk_hi) (by omega); exact q),
   (by have q := at_far (b' := (B + 101)) (f' := wkL (B + 101) r) (n := 8) (n' := 5) (wd_fc w) (fun _ => fc_hi) (fun _ => wk_hi) (by omega); exact q),
   (by have q := at_far (b' := (B + 101)) (f' := wkL (B + 101) r) (n := 9) (n' := 5) (wd_wf w) (fun _ => wf_hi) (fun _ => wk_hi) (by omega); exact q),
   blk_at _ _ _,
   (by have q := at_far (b' := (B + 101)) (f' := wkL (B + 101) r) (n := 1) (n' := 5) (wd_rd w) (fun _ => rd_hi) (fun _ => wk_hi) (by omega); exact q),
   (by have q := at_far (b' := (B + 101)) (f' := wkL (B + 101) r) (n := 1) (n' := 5) (wd_tx w) (fun _ => tx_hi) (fun _ => wk_hi) (by omega); exact q),
   (by have q := at_far (b' := (B + 101)) (f' := wkL (B + 101) r) (n := 15) (n' := 5) (wd_k0 w) (fun _ => hh_hi) (fun _ => wk_hi) (by omega); exact q),
   (by have q := at_far (b' := (B + 101)) (f' := wkL (B + 101) r) (n := 50) (n' := 5) (wd_p0 w) (fun _ => past_hi) (fun _ => wk_hi) (by omega); exact q),
   (by have q := at_far (b' := (B + 101)) (f' := wkL (B + 101) r) (n := 15) (n' := 5) (wd_k1 w) (fun _ => hh_hi) (fun _ => wk_hi) (by omega); exact q),
   (by have q := at_far (b' := (B + 101)) (f' := wkL (B + 101) r) (n := 50) (n' := 5) (wd_p1 w) (fun _ => past_hi) (fun _ => wk_hi) (by omega); exact q),
   (by have q := at_far (b' := (B + 101)) (f' := wkL (B + 101) r) (n := 19) (n' := 5) (wd_md w) (fun _ => md_hi) (fun _ => wk_hi) (by omega); exact q)⟩
theorem wu_rd (w : Wd B X P L R t h) (t' : Nat) (g : Blk) : Wd B (va_up X 10 g) P L R t' (blk (B + 106) (rdL (B + 106) t' g) h) :=
  ⟨(by have q := at_far (b' := (B + 106)) (f' := rdL (B + 106) t' g) (n := 1) (n' := 1) (wd_fl w) (fun _ => fl_hi) (fun _ => rd_hi) (by omega); exact q),
   (by have q := at_far (b' := (B + 106)) (f' := rdL (B + 106) t' g) (n := 15) (n' := 1) (wd_ho w) (fun _ => hh_hi) (fun _ => rd_hi) (by omega); exact q),
   (by have q := at_far (b' := (B + 106)) (f' := rdL (B + 106) t' g) (n := 50) (n' := 1) (wd_pa w) (fun _ => past_hi) (fun _ => rd_hi) (by omega); exact q),
   (by have q := at_far (b' := (B + 106)) (f' := rdL (B + 106) t' g) (n := 15) (n' := 1) (wd_dr w) (fun _ => hh_hi) (fun _ => rd_hi) (by omega); exact q),
   (by have q := at_far (b' := (B + 106)) (f' := rdL (B + 106) t' g) (n := 3) (n' := 1) (wd_kf w) (fun _ => kf_hi) (fun _ => rd_hi) (by omega); exact q),
   (by have q := at_far (b' := (B + 106)) (f' := rdL (B + 106) t' g) (n := 8) (n' := 1) (wd_fc w) (fun _ => fc_hi) (fun _ => rd_hi) (by omega); exact q),
   (by have q := at_far (b' := (B + 106)) (f' := rdL (B + 106) t' g) (n := 9) (n' := 1) (wd_wf w) (fun _ => wf_hi) (fun _ => rd_hi) (by omega); exact q),
   (by have q := at_far (b' := (B + 106)) (f' := rdL (B + 106) t' g) (n := 5) (n' := 1) (wd_wk w) (fun _ => wk_hi) (fun _ => rd_hi) (by omega); exact q),
   blk_at _ _ _,
   (by have q := at_far (b' := (B + 106)) (f' := rdL (B + 106) t' g) (n := 1) (n' := 1) (wd_tx w) (fun _ => tx_hi) (fun _ => rd_hi) (by omega); exact q),
   (by have q := at_far (b' := (B + 106)) (f' := rdL (B + 106) t' g) (n := 15) (n' := 1) (wd_k0 w) (fun _ => hh_hi) (fun _ => rd_hi) (by omega); exact q),
   (by have q := at_far (b' := (B + 106)) (f' := rdL (B + 106) t' g) (n := 50) (n' := 1) (wd_p0 w) (fun _ => past_hi) (fun _ => rd_hi) (by omega); exact q),
   (by have q := at_far (b' := (B + 106)) (f' := rdL (B + 106) t' g) (n := 15) (n' := 1) (wd_k1 w) (fun _ => hh_hi) (fun _ => rd_hi) (by omega); exact q),
   (by have q := at_far (b' := (B + 106)) (f' := rdL (B + 106) t' g) (n := 50) (n' := 1) (wd_p1 w) (fun _ => past_hi) (fun _ => rd_hi) (by omega); exact q),
   (by have q := at_far (b' := (B + 106)) (f' := rdL (B + 106) t' g) (n := 19) (n' := 1) (wd_md w) (fun _ => md_hi) (fun _ => rd_hi) (by omega); exact q)⟩
theorem wu_tx (w : Wd B X P L R t h) (g : Blk) : Wd B (va_up X 11 g) P L R t (blk (B + 108) (txL (B + 108) g) h) :=
  ⟨(by have q := at_far (b' := (B + 108)) (f' := txL (B + 108) g) (n := 1) (n' := 1) (wd_fl w) (fun _ => fl_hi) (fun _ => tx_hi) (by omega); exact q),
   (by have q := at_far (b' := (B + 108)) (f' := txL (B + 108) g) (n := 15) (n' := 1) (wd_ho w) (fun _ => hh_hi) (fun _ => tx_hi) (by omega); exact q),
   (by have q := at_far (b' := (B + 108)) (f' := txL (B + 108) g) (n := 50) (n' := 1) (wd_pa w) (fun _ => past_hi) (fun _ => tx_hi) (by omega); exact q),
   (by have q := at_far (b' := (B + 108)) (f' := txL (B + 108) g) (n := 15) (n' := 1) (wd_dr w) (fun _ => hh_hi) (fun _ => tx_hi) (by omega); exact q),
   (by have q := at_far (b' := (B + 108)) (f' := txL (B + 108) g) (n := 3) (n' := 1) (wd_kf w) (fun _ => kf_hi) (fun _ => tx_hi) (by omega); exact q),
   (by have q := at_far (b' := (B + 108)) (f' := txL (B + 108) g) (n := 8) (n' := 1) (wd_fc w) (fun _ => fc_hi) (fun _ => tx_hi) (by omega); exact q),
   (by have q := at_far (b' := (B + 108)) (f' := txL (B + 108) g) (n := 9) (n' := 1) (wd_wf w) (fun _ => wf_hi) (fun _ => tx_hi) (by omega); exact q),
   (by have q := at_far (b' := (B + 108)) (f' := txL (B + 108) g) (n := 5) (n' := 1) (wd_wk w) (fun _ => wk_hi) (fun _ => tx_hi) (by omega); exact q),
   (by have q := at_far (b' := (B + 108)) (f' := txL (B + 108) g) (n := 1) (n' := 1) (wd_rd w) (fun _ => rd_hi) (fun _ => tx_hi) (by omega); exact q),
   blk_at _ _ _,
   (by have q := at_far (b' := (B + 108)) (f' := txL (B + 108) g) (n := 15) (n' := 1) (wd_k0 w) (fun _ => hh_hi) (fun _ => tx_hi) (by omega); exact q),
   (by have q := at_far (b' := (B + 108)) (f' := txL (B + 108) g) (n := 50) (n' := 1) (wd_p0 w) (fun _ => past_hi) (fun _ => tx_hi) (by omega); exact q),
   (by have q := at_far (b' := (B + 108)) (f' := txL (B + 108) g) (n := 15) (n' := 1) (wd_k1 w) (fun _ => hh_hi) (fun _ => tx_hi) (by omega); exact q),
   (by have q := at_far (b' := (B + 108)) (f' := txL (B + 108) g) (n := 50) (n' := 1) (wd_p1 w) (fun _ => past_hi) (fun _ => tx_hi) (by omega); exact q),
   (by have q := at_far (b' := (B + 108)) (f' := txL (B + 108) g) (n := 19) (n' := 1) (wd_md w) (fun _ => md_hi) (fun _ => tx_hi) (by omega); exact q)⟩
theorem wu_k0 (w : Wd B X P L R t h) (H : Blk) (s : Blk) : Wd B (va_up (va_up X 12 H) 13 s) P L R t (blk (B + 109) (hhL (B + 109) H s) h) :=
  ⟨(by have q := at_far (b' := (B + 109)) (f' := hhL (B + 109) H s) (n := 1) (n' := 15) (wd_fl w) (fun _ => fl_hi) (fun _ => hh_hi) (by omega); exact q),
   (by have q := at_far (b' := (B + 109)) (f' := hhL (B + 109) H s) (n := 15) (n' := 15) (wd_ho w) (fun _ => hh_hi) (fun _ => hh_hi) (by omega); exact q),
   (by have q := at_far (b' := (B + 109)) (f' := hhL (B + 109) H s) (n := 50) (n' := 15) (wd_pa w) (fun _ => past_hi) (fun _ => hh_hi) (by omega); exact q),
   (by have q := at_far (b' := (B + 109)) (f' := hhL (B + 109) H s) (n := 15) (n' := 15) (wd_dr w) (fun _ => hh_hi) (fun _ => hh_hi) (by omega); exact q),
   (by have q := at_far (b' := (B + 109)) (f' := hhL (B + 109) H s) (n := 3) (n' := 15) (wd_kf w) (fun _ => kf_hi) (fun _ => hh_hi) (by omega); exact q),
   (by have q := at_far (b' := (B + 109)) (f' := hhL (B + 109) H s) (n := 8) (n' := 15) (wd_fc w) (fun _ => fc_hi) (fun _ => hh_hi) (by omega); exact q),
   (by have q := at_far (b' := (B + 109)) (f' := hhL (B + 109) H s) (n := 9) (n' := 15) (wd_wf w) (fun _ => wf_hi) (fun _ => hh_hi) (by omega); exact q),
   (by have q := at_far (b' := (B + 109)) (f' := hhL (B + 109) H s) (n := 5) (n' := 15) (wd_wk w) (fun _ => wk_hi) (fun _ => hh_hi) (by omega); exact q),
   (by have q := at_far (b' := (B + 109)) (f' := hhL (B + 109) H s) (n := 1) (n' := 15) (wd_rd w) (fun _ => rd_hi) (fun _ => hh_hi) (by omega); exact q),
   (by have q := at_far (b' := (B + 109)) (f' := hhL (B + 109) H s) (n := 1) (n' := 15) (wd_tx w) (fun _ => tx_hi) (fun _ => hh_hi) (by omega); exact q),
   blk_at _ _ _,
   (by have q := at_far (b' := (B + 109)) (f' := hhL (B + 109) H s) (n := 50) (n' := 15) (wd_p0 w) (fun _ => past_hi) (fun _ => hh_hi) (by omega); exact q),
   (by have q := at_far (b' := (B + 109)) (f' := hhL (B + 109) H s) (n := 15) (n' := 15) (wd_k1 w) (fun _ => hh_hi) (fun _ => hh_hi) (by omega); exact q),
   (by have q := at_far (b' := (B + 109)) (f' := hhL (B + 109) H s) (n := 50) (n' := 15) (wd_p1 w) (fun _ => past_hi) (fun _ => hh_hi) (by omega); exact q),
   (by have q := at_far (b' := (B + 109)) (f' := hhL (B + 109) H s) (n := 19) (n' := 15) (wd_md w) (fun _ => md_hi) (fun _ => hh_hi) (by omega); exact q)⟩
theorem wu_p0 (w : Wd B X P L R t h) (p : Pst) : Wd B X (va_up P 1 p) L R t (blk (B + 124) (pastL (B + 124) p.1 p.2.1 p.2.2) h) :=
  ⟨(by have q := at_far (b' := (B + 124)) (f' := pastL (B + 124) p.1 p.2.1 p.2.2) (n := 1) (n' := 50) (wd_fl w) (fun _ => fl_hi) (fun _ => past_hi) (by omega); exact q),
   (by have q := at_far (b' := (B + 124)) (f' := pastL (B + 124) p.1 p.2.1 p.2.2) (n := 15) (n' := 50) (wd_ho w) (fun _ => hh_hi) (fun _ => past_hi) (by omega); exact q),
   (by have q := at_far (b' := (B + 124)) (f' := pastL (B + 124) p.1 p.2.1 p.2.2) (n := 50) (n' := 50) (wd_pa w) (fun _ => past_hi) (fun _ => past_hi) (by omega); exact q),
   (by have q := at_far (b' := (B + 124)) (f' := pastL (B + 124) p.1 p.2.1 p.2.2) (n := 15) (n' := 50) (wd_dr w) (fun _ => hh_hi) (fun _ => past_hi) (by omega); exact q),
   (by have q := at_far (b' := (B + 124)) (f' := pastL (B + 124) p.1 p.2.1 p.2.2) (n := 3) (n' := 50) (wd_kf w) (fun _ => kf_hi) (fun _ => past_hi) (by omega); exact q),
   (by have q := at_far (b' := (B + 124)) (f' := pastL (B + 124) p.1 p.2.1 p.2.2) (n := 8) (n' := 50) (wd_fc w) (fun _ => fc_hi) (fun _ => past_hi) (by omega); exact q),
   (by have q := at_far (b' := (B + 124)) (f' := pastL (B + 124) p.1 p.2.1 p.2.2) (n := 9) (n' := 50) (wd_wf w) (fun _ => wf_hi) (fun _ => past_hi) (by omega); exact q),
   (by have q := at_far (b' := (B + 124)) (f' := pastL (B + 124) p.1 p.2.1 p.2.2) (n := 5) (n' := 50) (wd_wk w) (fun _ => wk_hi) (fun _ => past_hi) (by omega); exact q),
   (by have q := at_far (b' := (B + 124)) (f' := pastL (B + 124) p.1 p.2.1 p.2.2) (n := 1) (n' := 50) (wd_rd w) (fun _ => rd_hi) (fun _ => past_hi) (by omega); exact q),
   (by have q := at_far (b' := (B + 124)) (f' := pastL (B + 124) p.1 p.2.1 p.2.2) (n := 1) (n' := 50) (wd_tx w) (fun _ => tx_hi) (fun _ => past_hi) (by omega); exact q),
   (by have q := at_far (b' := (B + 124)) (f' := pastL (B + 124) p.1 p.2.1 p.2.2) (n := 15) (n' := 50) (wd_k0 w) (fun _ => hh_hi) (fun _ => past_hi) (by omega); exact q),
   blk_at _ _ _,
   (by have q := at_far (b' := (B + 124)) (f' := pastL (B + 124) p.1 p.2.1 p.2.2) (n := 15) (n' := 50) (wd_k1 w) (fun _ => hh_hi) (fun _ => past_hi) (by omega); exact q),
   (by have q := at_far (b' := (B + 124)) (f' := pastL (B + 124) p.1 p.2.1 p.2.2) (n := 50) (n' := 50) (wd_p1 w) (fun _ => past_hi) (fun _ => past_hi) (by omega); exact q),
   (by have q := at_far (b' := (B + 124)) (f' := pastL (B + 124) p.1 p.2.1 p.2.2) (n := 19) (n' := 50) (wd_md w) (fun _ => md_hi) (fun _ => past_hi) (by omega); exact q)⟩
theorem wu_k1 (w : Wd B X P L R t h) (H : Blk) (s : Blk) : Wd B (va_up (va_up X 14 H) 15 s) P L R t (blk (B + 174) (hhL (B + 174) H s) h) :=
  ⟨(by have q := at_far (b' := (B + 174)) (f' := hhL (B + 174) H s) (n := 1) (n' := 15) (wd_fl w) (fun _ => fl_hi) (fun _ => hh_hi) (by omega); exact q),
   (by have q := at_far (b' := (B + 174)) (f' := hhL (B + 174) H s) (n := 15) (n' := 15) (wd_ho w) (fun _ => hh_hi) (fun _ => hh_hi) (by omega); exact q),
   (by have q := at_far (b' := (B + 174)) (f' := hhL (B + 174) H s) (n := 50) (n' := 15) (wd_pa w) (fun _ => past_hi) (fun _ => hh_hi) (by omega); exact q),
   (by have q := at_far (b' := (B + 174)) (f' := hhL (B + 174) H s) (n := 15) (n' := 15) (wd_dr w) (fun _ => hh_hi) (fun _ => hh_hi) (by omega); exact q),
   (by have q := at_far (b' := (B + 174)) (f' := hhL (B + 174) H s) (n := 3) (n' := 15) (wd_kf w) (fun _ => kf_hi) (fun _ => hh_hi) (by omega); exact q),
   (by have q := at_far (b' := (B + 174)) (f' := hhL (B + 174) H s) (n := 8) (n' := 15) (wd_fc w) (fun _ => fc_hi) (fun _ => hh_hi) (by omega); exact q),
   (by have q := at_far (b' := (B + 174)) (f' := hhL (B + 174) H s) (n := 9) (n' := 15) (wd_wf w) (fun _ => wf_hi) (fun _ => hh_hi) (by omega); exact q),
   (by have q := at_far (b' := (B + 174)) (f' := hhL (B + 174) H s) (n := 5) (n' := 15) (wd_wk w) (fun _ => wk_hi) (fun _ => hh_hi) (by omega); exact q),
   (by have q := at_far (b' := (B + 174)) (f' := hhL (B + 174) H s) (n := 1) (n' := 15) (wd_rd w) (fun _ => rd_hi) (fun _ => hh_hi) (by omega); exact q),
   (by have q := at_far (b' := (B + 174)) (f' := hhL (B + 174) H s) (n := 1) (n' := 15) (wd_tx w) (fun _ => tx_hi) (fun _ => hh_hi) (by omega); exact q),
   (by have q := at_far (b' := (B + 174)) (f' := hhL (B + 174) H s) (n := 15) (n' := 15) (wd_k0 w) (fun _ => hh_hi) (fun _ => hh_hi) (by omega); exact q),
   (by have q := at_far (b' := (B + 174)) (f' := hhL (B + 174) H s) (n := 50) (n' := 15) (wd_p0 w) (fun _ => past_hi) (fun _ => hh_hi) (by omega); exact q),
   blk_at _ _ _,
   (by have q := at_far (b' := (B + 174)) (f' := hhL (B + 174) H s) (n := 50) (n' := 15) (wd_p1 w) (fun _ => past_hi) (fun _ => hh_hi) (by omega); exact q),
   (by have q := at_far (b' := (B + 174)) (f' := hhL (B + 174) H s) (n := 19) (n' := 15) (wd_md w) (fun _ => md_hi) (fun _ => hh_hi) (by omega); exact q)⟩
theorem wu_p1 (w : Wd B X P L R t h) (p : Pst) : Wd B X (va_up P 2 p) L R t (blk (B + 189) (pastL (B + 189) p.1 p.2.1 p.2.2) h) :=
  ⟨(by have q := at_far (b' := (B + 189)) (f' := pastL (B + 189) p.1 p.2.1 p.2.2) (n := 1) (n' := 50) (wd_fl w) (fun _ => fl_hi) (fun _ => past_hi) (by omega); exact q),
   (by have q := at_far (b' := (B + 189)) (f' := pastL (B + 189) p.1 p.2.1 p.2.2) (n := 15) (n' := 50) (wd_ho w) (fun _ => hh_hi) (fun _ => past_hi) (by omega); exact q),
   (by have q := at_far (b' := (B + 189)) (f' := pastL (B + 189) p.1 p.2.1 p.2.2) (n := 50) (n' := 50) (wd_pa w) (fun _ => past_hi) (fun _ => past_hi) (by omega); exact q),
   (by have q := at_far (b' := (B + 189)) (f' := pastL (B + 189) p.1 p.2.1 p.2.2) (n := 15) (n' := 50) (wd_dr w) (fun _ => hh_hi) (fun _ => past_hi) (by omega); exact q),
   (by have q := at_far (b' := (B + 189)) (f' := pastL (B + 189) p.1 p.2.1 p.2.2) (n := 3) (n' := 50) (wd_kf w) (fun _ => kf_hi) (fun _ => past_hi) (by omega); exact q),
   (by have q := at_far (b' := (B + 189)) (f' := pastL (B + 189) p.1 p.2.1 p.2.2) (n := 8) (n' := 50) (wd_fc w) (fun _ => fc_hi) (fun _ => past_hi) (by omega); exact q),
   (by have q := at_far (b' := (B + 189)) (f' := pastL (B + 189) p.1 p.2.1 p.2.2) (n := 9) (n' := 50) (wd_wf w) (fun _ => wf_hi) (fun _ => past_hi) (by omega); exact q),
   (by have q := at_far (b' := (B + 189)) (f' := pastL (B + 189) p.1 p.2.1 p.2.2) (n := 5) (n' := 50) (wd_wk w) (fun _ => wk_hi) (fun _ => past_hi) (by omega); exact q),
   (by have q := at_far (b' := (B + 189)) (f' := pastL (B + 189) p.1 p.2.1 p.2.2) (n := 1) (n' := 50) (wd_rd w) (fun _ => rd_hi) (fun _ => past_hi) (by omega); exact q),
   (by have q := at_far (b' := (B + 189)) (f' := pastL (B + 189) p.1 p.2.1 p.2.2) (n := 1) (n' := 50) (wd_tx w) (fun _ => tx_hi) (fun _ => past_hi) (by omega); exact q),
   (by have q := at_far (b' := (B + 189)) (f' := pastL (B + 189) p.1 p.2.1 p.2.2) (n := 15) (n' := 50) (wd_k0 w) (fun _ => hh_hi) (fun _ => past_hi) (by omega); exact q),
   (by have q := at_far (b' := (B + 189)) (f' := pastL (B + 189) p.1 p.2.1 p.2.2) (n := 50) (n' := 50) (wd_p0 w) (fun _ => past_hi) (fun _ => past_hi) (by omega); exact q),
   (by have q := at_far (b' := (B + 189)) (f' := pastL (B + 189) p.1 p.2.1 p.2.2) (n := 15) (n' := 50) (wd_k1 w) (fun _ => hh_hi) (fun _ => past_hi) (by omega); exact q),
   blk_at _ _ _,
   (by have q := at_far (b' := (B + 189)) (f' := pastL (B + 189) p.1 p.2.1 p.2.2) (n := 19) (n' := 50) (wd_md w) (fun _ => md_hi) (fun _ => past_hi) (by omega); exact q)⟩
theorem wu_md (w : Wd B X P L R t h) (g : Blk) (l : Nat → Int64) (r : Nat → Nat → Int64) : Wd B (va_up X 16 g) P (va_up L 1 l) (va_up R 1 r) t (blk (B + 239) (mdL (B + 239) g l r) h) :=
  ⟨(by have q := at_far (b' := (B + 239)) (f' := mdL (B + 239) g l r) (n := 1) (n' := 19) (wd_fl w) (fun _ => fl_hi) (fun _ => md_hi) (by omega); exact q),
   (by have q := at_far (b' := (B + 239)) (f' := mdL (B + 239) g l r) (n := 15) (n' := 19) (wd_ho w) (fun _ => hh_hi) (fun _ => md_hi) (by omega); exact q),
   (by have q := at_far (b' := (B + 239)) (f' := mdL (B + 239) g l r) (n := 50) (n' := 19) (wd_pa w) (fun _ => past_hi) (fun _ => md_hi) (by omega); exact q),
   (by have q := at_far (b' := (B + 239)) (f' := mdL (B + 239) g l r) (n := 15) (n' := 19) (wd_dr w) (fun _ => hh_hi) (fun _ => md_hi) (by omega); exact q),
   (by have q := at_far (b' := (B + 239)) (f' := mdL (B + 239) g l r) (n := 3) (n' := 19) (wd_kf w) (fun _ => kf_hi) (fun _ => md_hi) (by omega); exact q),
   (by have q := at_far (b' := (B + 239)) (f' := mdL (B + 239) g l r) (n := 8) (n' := 19) (wd_fc w) (fun _ => fc_hi) (fun _ => md_hi) (by omega); exact q),
   (by have q := at_far (b' := (B + 239)) (f' := mdL (B + 239) g l r) (n := 9) (n' := 19) (wd_wf w) (fun _ => wf_hi) (fun _ => md_hi) (by omega); exact q),
   (by have q := at_far (b' := (B + 239)) (f' := mdL (B + 239) g l r) (n := 5) (n' := 19) (wd_wk w) (fun _ => wk_hi) (fun _ => md_hi) (by omega); exact q),
   (by have q := at_far (b' := (B + 239)) (f' := mdL (B + 239) g l r) (n := 1) (n' := 19) (wd_rd w) (fun _ => rd_hi) (fun _ => md_hi) (by omega); exact q),
   (by have q := at_far (b' := (B + 239)) (f' := mdL (B + 239) g l r) (n := 1) (n' := 19) (wd_tx w) (fun _ => tx_hi) (fun _ => md_hi) (by omega); exact q),
   (by have q := at_far (b' := (B + 239)) (f' := mdL (B + 239) g l r) (n := 15) (n' := 19) (wd_k0 w) (fun _ => hh_hi) (fun _ => md_hi) (by omega); exact q),
   (by have q := at_far (b' := (B + 239)) (f' := mdL (B + 239) g l r) (n := 50) (n' := 19) (wd_p0 w) (fun _ => past_hi) (fun _ => md_hi) (by omega); exact q),
   (by have q := at_far (b' := (B + 239)) (f' := mdL (B + 239) g l r) (n := 15) (n' := 19) (wd_k1 w) (fun _ => hh_hi) (fun _ => md_hi) (by omega); exact q),
   (by have q := at_far (b' := (B + 239)) (f' := mdL (B + 239) g l r) (n := 50) (n' := 19) (wd_p1 w) (fun _ => past_hi) (fun _ => md_hi) (by omega); exact q),
   blk_at _ _ _⟩
end
