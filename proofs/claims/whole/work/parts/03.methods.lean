theorem ad_wXn {p : Int32} (h : p < 0 ∨ 6 < p) (w : Int32) {post : Int32 → Prop} (k : post (-1)) : wpX_widthIn post () p w := by
  unfold wpX_widthIn
  refine ad_isN h ?_
  exact br_t rfl k
theorem ad_wYn {p : Int32} (h : p < 0 ∨ 6 < p) (w : Int32) {post : Int32 → Prop} (k : post (-1)) : wpY_widthIn post (ad_xs, ad_ys, ad_dx, ad_dy) p w := by
  by_cases h0 : p < 0
  · exact br_t h0 k
  · exact br_f h0 (br_f (Int32.not_le.mpr (h.resolve_left h0)) k)
theorem ad_wXin {p : Nat} (hp : p < 7) {n : Nat} (hn : n < 2 ^ 31) {post : Int32 → Prop} (h : post (ad_wv p n)) : wpX_widthIn post () (nI p) (nI n) := by
  obtain ⟨ea, ed, had, hd8⟩ := ad_nt p hp
  unfold wpX_widthIn
  refine ad_isP hp ?_
  refine br_f (by decide +kernel) ?_
  refine ad_fc hp ?_
  by_cases c : ad_nx p < n
  · refine br_t (by rw [ea]; exact nI_lt c hn) (fun x ex => ?_)
    refine ad_cs hp ?_
    refine ⟨ad_dx0 p hp, ?_⟩
    rw [ex, ea, ed, ad_wX had hd8 hn c]
    exact h
  · refine br_f (by rw [ea]; exact nI_nlt (by omega) (by omega)) ?_
    have e : ad_wv p n = 0 := by
      unfold ad_wv
      rw [ad_w0 had (by omega)]
      exact nI_0
    rw [e] at h
    exact h
theorem ad_wXm {p : Nat} (hp : p < 7) {w : Int32} (hw : w < 0) {post : Int32 → Prop} (h : post 0) : wpX_widthIn post () (nI p) w := by
  obtain ⟨ea, ed, had, hd8⟩ := ad_nt p hp
  unfold wpX_widthIn
  refine ad_isP hp ?_
  refine br_f (by decide +kernel) ?_
  refine ad_fc hp ?_
  refine br_f ?_ h
  intro z
  have z0 : (0 : Int32) ≤ ad_xs p := by
    rw [ea]
    exact nI_pos' (by omega)
  exact Int32.lt_irrefl (Int32.lt_trans hw (Int32.lt_of_le_of_lt z0 z))
theorem ad_wYin {p : Nat} (hp : p < 7) {n : Nat} (hn : n < 2 ^ 31) (h0 : 0 < n) {post : Int32 → Prop} (h : post (ad_wv p n)) : wpY_widthIn post (ad_xs, ad_ys, ad_dx, ad_dy) (nI p) (nI n) := by
  obtain ⟨ea, ed, had, hd8⟩ := ad_nt p hp
  have hi : vp_in (nI p) 7 := vp_in_nI hp (by decide)
  have hc : (nI p).toNatClampNeg = p := nI_clamp (by omega)
  refine br_f (nI_pos (by omega)) ?_
  refine br_t (nI_le (b := 6) (by omega) (by decide)) ?_
  refine br_t (nI_lt (a := 0) h0 hn) ?_
  rw [hc]
  refine ⟨hi, hi, hi, ?_, fun x ex => ?_⟩
  · rw [ed, nI_l (by omega)]
    intro z
    have := (lN_eq (a := ad_nd p) (b := 0) (by omega) (by omega)).mp z
    omega
  · rw [ex, ea, ed, ad_wY had hd8 hn, lN_i]
    exact h
theorem ad_wYz {p : Nat} (hp : p < 7) {w : Int32} (hw : ¬ 0 < w) {post : Int32 → Prop} (h : post 0) : wpY_widthIn post (ad_xs, ad_ys, ad_dx, ad_dy) (nI p) w := by
  refine br_f (nI_pos (by omega)) ?_
  refine br_t (nI_le (b := 6) (by omega) (by decide)) ?_
  exact br_f hw h
theorem ad_pXn {p : Int32} (h : p < 0 ∨ 6 < p) (c r : Int32) {post : Int32 → Prop} (k : post (-1)) : wpX_place post () p c r := by
  unfold wpX_place
  refine ad_isN h ?_
  exact br_t rfl k
theorem ad_pYn {p : Int32} (h : p < 0 ∨ 6 < p) (c r : Int32) {post : Int32 → Prop} (k : post (-1)) : wpY_place post (ad_xs, ad_ys, ad_dx, ad_dy) p c r := by
  by_cases h0 : p < 0
  · exact br_t h0 k
  · exact br_f h0 (br_f (Int32.not_le.mpr (h.resolve_left h0)) k)
theorem ad_pX {p : Nat} (hp : p < 7) (c r : Int32) {post : Int32 → Prop} (h : post (ad_pv p c r)) : wpX_place post () (nI p) c r := by
  unfold ad_pv at h
  unfold wpX_place
  refine ad_isP hp ?_
  refine br_f (by decide +kernel) ?_
  by_cases a1 : c < 0
  · rw [if_pos a1] at h
    exact br_t a1 (br_t rfl h)
  rw [if_neg a1] at h
  by_cases a2 : 65535 < c
  · rw [if_pos a2] at h
    exact br_f a1 (br_t a2 (br_t rfl h))
  rw [if_neg a2] at h
  refine br_f a1 (br_f a2 (br_f (by decide +kernel) ?_))
  by_cases b1 : r < 0
  · rw [if_pos b1] at h
    exact br_t b1 (br_t rfl h)
  rw [if_neg b1] at h
  by_cases b2 : 65535 < r
  · rw [if_pos b2] at h
    exact br_f b1 (br_t b2 (br_t rfl h))
  rw [if_neg b2] at h
  refine br_f b1 (br_f b2 (br_f (by decide +kernel) ?_))
  refine ad_fc hp ?_
  refine ad_cs hp ?_
  intro x ex
  subst ex
  refine ad_fr hp ?_
  refine ad_rs hp ?_
  intro y ey
  subst ey
  by_cases d1 : 65535 < ad_xs p + c * ad_dx p
  · rw [if_pos d1] at h
    exact br_t d1 h
  rw [if_neg d1] at h
  by_cases d2 : ad_ys p + r * ad_dy p ≤ 32767
  · rw [if_pos d2] at h
    exact br_f d1 (br_t d2 h)
  · rw [if_neg d2] at h
    exact br_f d1 (br_f d2 h)
theorem ad_pY {p : Nat} (hp : p < 7) (c r : Int32) {post : Int32 → Prop} (h : post (ad_pv p c r)) : wpY_place post (ad_xs, ad_ys, ad_dx, ad_dy) (nI p) c r := by
  have hi : vp_in (nI p) 7 := vp_in_nI hp (by decide)
  have hc : (nI p).toNatClampNeg = p := nI_clamp (by omega)
  unfold ad_pv at h
  refine br_f (nI_pos (by omega)) ?_
  refine br_t (nI_le (b := 6) (by omega) (by decide)) ?_
  rw [hc]
  by_cases a1 : c < 0
  · rw [if_pos a1] at h
    exact br_t a1 h
  rw [if_neg a1] at h
  by_cases a2 : 65535 < c
  · rw [if_pos a2] at h
    exact br_f a1 (br_t a2 h)
  rw [if_neg a2] at h
  refine br_f a1 (br_f a2 ?_)
  by_cases b1 : r < 0
  · rw [if_pos b1] at h
    exact br_t b1 h
  rw [if_neg b1] at h
  by_cases b2 : 65535 < r
  · rw [if_pos b2] at h
    exact br_f b1 (br_f (Int32.not_le.mpr b2) h)
  rw [if_neg b2] at h
  refine br_f b1 (br_t (Int32.not_lt.mp b2) ⟨hi, hi, ?_⟩)
  intro x ex
  subst ex
  refine ⟨hi, hi, ?_⟩
  intro y ey
  subst ey
  by_cases d1 : 65535 < ad_xs p + c * ad_dx p
  · rw [if_pos d1] at h
    exact br_t d1 h
  rw [if_neg d1] at h
  by_cases d2 : ad_ys p + r * ad_dy p ≤ 32767
  · rw [if_pos d2] at h
    exact br_f d1 (br_t d2 h)
  · rw [if_neg d2] at h
    exact br_f d1 (br_f d2 h)
/-- a pass number is refused, or one of the seven -/
theorem ad_ps (p : Int32) : (p < 0 ∨ 6 < p) ∨ ∃ j : Nat, j < 7 ∧ p = nI j := by
  by_cases h0 : p < 0
  · exact Or.inl (Or.inl h0)
  by_cases h6 : 6 < p
  · exact Or.inl (Or.inr h6)
  · obtain ⟨j, hj, e⟩ := nI_of2 (M := 6) (n := 6) (by decide +kernel) h0 (Int32.not_lt.mp h6)
    exact Or.inr ⟨j, by omega, e⟩
