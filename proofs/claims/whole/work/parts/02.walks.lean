theorem ad_fc {p : Nat} (hp : p < 7) {post : Int32 → Prop} (h : post (ad_xs p)) : wpX_firstColumn post (nI p) := by
  match p, hp with
  | 0, _ =>
    rw [show ad_xs 0 = 0 by decide +kernel] at h
    unfold wpX_firstColumn
    repeat (first | exact h | refine br_t (by decide +kernel) ?_ | refine br_f (by decide +kernel) ?_)
  | 1, _ =>
    rw [show ad_xs 1 = 4 by decide +kernel] at h
    unfold wpX_firstColumn
    repeat (first | exact h | refine br_t (by decide +kernel) ?_ | refine br_f (by decide +kernel) ?_)
  | 2, _ =>
    rw [show ad_xs 2 = 0 by decide +kernel] at h
    unfold wpX_firstColumn
    repeat (first | exact h | refine br_t (by decide +kernel) ?_ | refine br_f (by decide +kernel) ?_)
  | 3, _ =>
    rw [show ad_xs 3 = 2 by decide +kernel] at h
    unfold wpX_firstColumn
    repeat (first | exact h | refine br_t (by decide +kernel) ?_ | refine br_f (by decide +kernel) ?_)
  | 4, _ =>
    rw [show ad_xs 4 = 0 by decide +kernel] at h
    unfold wpX_firstColumn
    repeat (first | exact h | refine br_t (by decide +kernel) ?_ | refine br_f (by decide +kernel) ?_)
  | 5, _ =>
    rw [show ad_xs 5 = 1 by decide +kernel] at h
    unfold wpX_firstColumn
    repeat (first | exact h | refine br_t (by decide +kernel) ?_ | refine br_f (by decide +kernel) ?_)
  | 6, _ =>
    rw [show ad_xs 6 = 0 by decide +kernel] at h
    unfold wpX_firstColumn
    repeat (first | exact h | refine br_t (by decide +kernel) ?_ | refine br_f (by decide +kernel) ?_)
theorem ad_cs {p : Nat} (hp : p < 7) {post : Int32 → Prop} (h : post (ad_dx p)) : wpX_columnStep post (nI p) := by
  match p, hp with
  | 0, _ =>
    rw [show ad_dx 0 = 8 by decide +kernel] at h
    unfold wpX_columnStep
    repeat (first | exact h | refine br_t (by decide +kernel) ?_ | refine br_f (by decide +kernel) ?_)
  | 1, _ =>
    rw [show ad_dx 1 = 8 by decide +kernel] at h
    unfold wpX_columnStep
    repeat (first | exact h | refine br_t (by decide +kernel) ?_ | refine br_f (by decide +kernel) ?_)
  | 2, _ =>
    rw [show ad_dx 2 = 4 by decide +kernel] at h
    unfold wpX_columnStep
    repeat (first | exact h | refine br_t (by decide +kernel) ?_ | refine br_f (by decide +kernel) ?_)
  | 3, _ =>
    rw [show ad_dx 3 = 4 by decide +kernel] at h
    unfold wpX_columnStep
    repeat (first | exact h | refine br_t (by decide +kernel) ?_ | refine br_f (by decide +kernel) ?_)
  | 4, _ =>
    rw [show ad_dx 4 = 2 by decide +kernel] at h
    unfold wpX_columnStep
    repeat (first | exact h | refine br_t (by decide +kernel) ?_ | refine br_f (by decide +kernel) ?_)
  | 5, _ =>
    rw [show ad_dx 5 = 2 by decide +kernel] at h
    unfold wpX_columnStep
    repeat (first | exact h | refine br_t (by decide +kernel) ?_ | refine br_f (by decide +kernel) ?_)
  | 6, _ =>
    rw [show ad_dx 6 = 1 by decide +kernel] at h
    unfold wpX_columnStep
    repeat (first | exact h | refine br_t (by decide +kernel) ?_ | refine br_f (by decide +kernel) ?_)
theorem ad_fr {p : Nat} (hp : p < 7) {post : Int32 → Prop} (h : post (ad_ys p)) : wpX_firstRow post (nI p) := by
  match p, hp with
  | 0, _ =>
    rw [show ad_ys 0 = 0 by decide +kernel] at h
    unfold wpX_firstRow
    repeat (first | exact h | refine br_t (by decide +kernel) ?_ | refine br_f (by decide +kernel) ?_)
  | 1, _ =>
    rw [show ad_ys 1 = 0 by decide +kernel] at h
    unfold wpX_firstRow
    repeat (first | exact h | refine br_t (by decide +kernel) ?_ | refine br_f (by decide +kernel) ?_)
  | 2, _ =>
    rw [show ad_ys 2 = 4 by decide +kernel] at h
    unfold wpX_firstRow
    repeat (first | exact h | refine br_t (by decide +kernel) ?_ | refine br_f (by decide +kernel) ?_)
  | 3, _ =>
    rw [show ad_ys 3 = 0 by decide +kernel] at h
    unfold wpX_firstRow
    repeat (first | exact h | refine br_t (by decide +kernel) ?_ | refine br_f (by decide +kernel) ?_)
  | 4, _ =>
    rw [show ad_ys 4 = 2 by decide +kernel] at h
    unfold wpX_firstRow
    repeat (first | exact h | refine br_t (by decide +kernel) ?_ | refine br_f (by decide +kernel) ?_)
  | 5, _ =>
    rw [show ad_ys 5 = 0 by decide +kernel] at h
    unfold wpX_firstRow
    repeat (first | exact h | refine br_t (by decide +kernel) ?_ | refine br_f (by decide +kernel) ?_)
  | 6, _ =>
    rw [show ad_ys 6 = 1 by decide +kernel] at h
    unfold wpX_firstRow
    repeat (first | exact h | refine br_t (by decide +kernel) ?_ | refine br_f (by decide +kernel) ?_)
theorem ad_rs {p : Nat} (hp : p < 7) {post : Int32 → Prop} (h : post (ad_dy p)) : wpX_rowStep post (nI p) := by
  match p, hp with
  | 0, _ =>
    rw [show ad_dy 0 = 8 by decide +kernel] at h
    unfold wpX_rowStep
    repeat (first | exact h | refine br_t (by decide +kernel) ?_ | refine br_f (by decide +kernel) ?_)
  | 1, _ =>
    rw [show ad_dy 1 = 8 by decide +kernel] at h
    unfold wpX_rowStep
    repeat (first | exact h | refine br_t (by decide +kernel) ?_ | refine br_f (by decide +kernel) ?_)
  | 2, _ =>
    rw [show ad_dy 2 = 8 by decide +kernel] at h
    unfold wpX_rowStep
    repeat (first | exact h | refine br_t (by decide +kernel) ?_ | refine br_f (by decide +kernel) ?_)
  | 3, _ =>
    rw [show ad_dy 3 = 4 by decide +kernel] at h
    unfold wpX_rowStep
    repeat (first | exact h | refine br_t (by decide +kernel) ?_ | refine br_f (by decide +kernel) ?_)
  | 4, _ =>
    rw [show ad_dy 4 = 4 by decide +kernel] at h
    unfold wpX_rowStep
    repeat (first | exact h | refine br_t (by decide +kernel) ?_ | refine br_f (by decide +kernel) ?_)
  | 5, _ =>
    rw [show ad_dy 5 = 2 by decide +kernel] at h
    unfold wpX_rowStep
    repeat (first | exact h | refine br_t (by decide +kernel) ?_ | refine br_f (by decide +kernel) ?_)
  | 6, _ =>
    rw [show ad_dy 6 = 2 by decide +kernel] at h
    unfold wpX_rowStep
    repeat (first | exact h | refine br_t (by decide +kernel) ?_ | refine br_f (by decide +kernel) ?_)
theorem ad_isP {p : Nat} (hp : p < 7) {post : Int32 → Prop} (h : post 1) : wpX_isPass post (nI p) :=
  br_f (nI_pos (by omega)) (br_f (nI_nlt (a := 6) (by omega) (by decide)) h)
theorem ad_isN {p : Int32} (h : p < 0 ∨ 6 < p) {post : Int32 → Prop} (k : post 0) : wpX_isPass post p := by
  by_cases h0 : p < 0
  · exact br_t h0 k
  · exact br_f h0 (br_t (h.resolve_left h0) k)
theorem ad_holds {p : Nat} (hp : p < 7) (a b : Int32) {post : Int32 → Prop} (h1 : ad_c p a b → post 1) (h0 : ¬ ad_c p a b → post 0) : wpX_holds post (nI p) a b := by
  unfold wpX_holds
  refine ad_fc hp ?_
  refine ad_cs hp ?_
  refine ⟨ad_dx0 p hp, ?_⟩
  refine br_c (fun c => ?_) (fun c => h0 (fun z => c z.1))
  refine ad_fr hp ?_
  refine ad_rs hp ?_
  exact ⟨ad_dy0 p hp, br_c (fun d => h1 ⟨c, d⟩) (fun d => h0 (fun z => d z.2))⟩
/-- X's loop -/
theorem ad_X (a b : Int32) {post : Int32 → Prop} : ∀ d p : Nat, d + p = 6 → post (ad_fst a b d p) → wX_passOf_14 post a b (d + 1) (nI p) := by
  intro d
  induction d with
  | zero =>
    intro p hp h
    obtain rfl : p = 6 := by omega
    exact br_t (show (6 : Int32) ≤ nI 6 by decide +kernel) h
  | succ d ih =>
    intro p hp h
    refine br_f (nI_ge (a := p) (b := 6) (by omega) (by decide)) ?_
    refine ad_holds (by omega) a b (fun c => ?_) (fun c => ?_)
    · have h' : post (if ad_c p a b then nI p else ad_fst a b d (p + 1)) := h
      rw [if_pos c] at h'
      exact br_f (by decide +kernel) h'
    · have h' : post (if ad_c p a b then nI p else ad_fst a b d (p + 1)) := h
      rw [if_neg c] at h'
      refine br_t rfl (fun y ey => ?_)
      rw [ey, nI_1 p]
      exact ih (p + 1) (by omega) h'
/-- Y's loop -/
theorem ad_Y (x y : Int32) {post : Int32 → Prop} : ∀ (d p : Nat) (r : Int32), d + p = 7 → post (ad_lst (x &&& 7) (y &&& 7) d p r) → wY_passOf_5 post x y ad_xs ad_ys ad_dx ad_dy (d + 1) r (nI p) := by
  intro d
  induction d with
  | zero =>
    intro p r hp h
    obtain rfl : p = 7 := by omega
    exact br_t (show (7 : Int32) ≤ nI 7 by decide +kernel) h
  | succ d ih =>
    intro p r hp h
    have hq : p < 7 := by omega
    have hi : vp_in (nI p) 7 := vp_in_nI hq (by decide)
    have hc : (nI p).toNatClampNeg = p := nI_clamp (by omega)
    have h' : post (ad_lst (x &&& 7) (y &&& 7) d (p + 1) (if ad_c p (x &&& 7) (y &&& 7) then nI p else r)) := h
    refine br_f (nI_ge (a := p) (b := 7) hq (by decide)) ?_
    rw [hc]
    refine ⟨hi, hi, ad_dx0 p hq, ?_⟩
    by_cases c1 : ad_r ((x &&& 7) - ad_xs p) (ad_dx p) = 0
    · refine br_t c1 ⟨hi, hi, ad_dy0 p hq, ?_⟩
      by_cases c2 : ad_r ((y &&& 7) - ad_ys p) (ad_dy p) = 0
      · rw [if_pos ⟨c1, c2⟩] at h'
        refine br_t c2 (fun z ez => ?_)
        rw [ez, nI_1 p]
        exact ih (p + 1) (nI p) (by omega) h'
      · rw [if_neg (fun z => c2 z.2)] at h'
        refine br_f c2 (fun z ez => ?_)
        rw [ez, nI_1 p]
        exact ih (p + 1) r (by omega) h'
    · rw [if_neg (fun z => c1 z.1)] at h'
      refine br_f c1 (fun z ez => ?_)
      rw [ez, nI_1 p]
      exact ih (p + 1) r (by omega) h'
