section
theorem pk_sub {a b : Nat} (h : b ≤ a) : nI a - nI b = nI (a - b) := by
  obtain ⟨c, rfl⟩ : ∃ c, a = c + b := ⟨a - b, by omega⟩
  rw [← nI_add, Int32.add_sub_cancel, Nat.add_sub_cancel]
theorem pk_mul (a b : Nat) : nI a * nI b = nI (a * b) := (Int32.ofNat_mul a b).symm
theorem pk_div {a d : Nat} (ha : a < 2 ^ 31) (h0 : 0 < d) (hd : d < 2 ^ 31) : nI a / nI d = nI (a / d) := by
  apply Int32.toInt_inj.mp
  rw [lg_idiv_nonneg (by rw [nI_toInt ha]; omega) (by rw [nI_toInt hd]; omega), nI_toInt ha, nI_toInt hd, nI_toInt (Nat.lt_of_le_of_lt (Nat.div_le_self a d) ha)]
  first | rfl | exact (Int.natCast_ediv _ _).symm
theorem pk_tn {n : Nat} (h : n < 2 ^ 32) : (nI n).toBitVec.toNat = n := Nat.mod_eq_of_lt h
theorem pk_and (x : Int32) {m : Int32} (k : Nat) (hm : m.toBitVec.toNat = 2 ^ k - 1) : x &&& m = nI (x.toBitVec.toNat % 2 ^ k) := by
  apply Int32.toBitVec_inj.mp
  apply BitVec.eq_of_toNat_eq
  rw [Int32.toBitVec_and, BitVec.toNat_and, hm, Nat.and_two_pow_sub_one_eq_mod]
  show _ = (BitVec.ofNat 32 _).toNat
  rw [BitVec.toNat_ofNat]
  exact (Nat.mod_eq_of_lt (Nat.lt_of_le_of_lt (Nat.mod_le _ _) x.toBitVec.isLt)).symm
theorem pk_andE (x : Int32) {m : Int32} (k : Nat) (hm : m.toBitVec.toNat = 2 ^ k - 1) : ∃ j : Nat, j < 2 ^ k ∧ x &&& m = nI j := ⟨_, Nat.mod_lt _ (Nat.two_pow_pos k), pk_and x k hm⟩
theorem pk_lT {n : Nat} (h : n < 2 ^ 63) : (lN n).toInt = (n : Int) := lg_ofNat_toInt h
theorem pk_lDiv {a b : Nat} (ha : a < 2 ^ 63) (h0 : 0 < b) (hb : b < 2 ^ 63) : lN a / lN b = lN (a / b) := by
  apply Int64.toInt_inj.mp
  rw [lg_ldiv_nonneg (by rw [pk_lT ha]; omega) (by rw [pk_lT hb]; omega), pk_lT ha, pk_lT hb, pk_lT (Nat.lt_of_le_of_lt (Nat.div_le_self a b) ha)]
  rfl
/-- the width, as X reckons it -/
theorem ad_wX {n a d : Nat} (h : a < d) (hd : d ≤ 8) (hn : n < 2 ^ 31) (ha : a < n) : (nI n - 1 - nI a) / nI d + 1 = nI ((n + (d - a - 1)) / d) := by
  obtain ⟨m, rfl⟩ : ∃ m, n = m + 1 := ⟨n - 1, by omega⟩
  rw [nI_pred m, pk_sub (show a ≤ m by omega), pk_div (by omega) (by omega) (by omega), nI_1]
  have e : m + 1 + (d - a - 1) = (m - a) + d := by omega
  rw [e, Nat.add_div_right _ (by omega)]
/-- the width where the image ends before the first column -/
theorem ad_w0 {n a d : Nat} (h : a < d) (ha : n ≤ a) : (n + (d - a - 1)) / d = 0 := Nat.div_eq_of_lt (by omega)
/-- the width, as Y reckons it -/
theorem ad_wY {n a d : Nat} (h : a < d) (hd : d ≤ 8) (hn : n < 2 ^ 31) : ((nI n).toInt64 - (nI a).toInt64 + (nI d).toInt64 - 1) / (nI d).toInt64 = lN ((n + (d - a - 1)) / d) := by
  rw [nI_l hn, nI_l (show a < 2 ^ 31 by omega), nI_l (show d < 2 ^ 31 by omega)]
  have e : lN n - lN a + lN d - 1 = lN (n + (d - a - 1)) := by
    obtain ⟨c, rfl⟩ : ∃ c, d = c + a + 1 := ⟨d - a - 1, by omega⟩
    have h1 : c + a + 1 - a - 1 = c := by omega
    rw [h1, ← lN_add n c, ← lN_1 (c + a), ← lN_add c a]
    grind
  rw [e, pk_lDiv (by omega) (by omega) (by omega)]
/-- the table: four arrays of seven bytes, as Y's constructor lays them -/
def ad_tab (a b c d e f g : Int32) : Nat → Int32 := upd (upd (upd (upd (upd (upd (upd (fun _ => 0) 0 (vp_nar .byte a)) 1 (vp_nar .byte b)) 2 (vp_nar .byte c)) 3 (vp_nar .byte d)) 4 (vp_nar .byte e)) 5 (vp_nar .byte f)) 6 (vp_nar .byte g)
def ad_xs : Nat → Int32 := ad_tab 0 4 0 2 0 1 0
def ad_ys : Nat → Int32 := ad_tab 0 0 4 0 2 0 1
def ad_dx : Nat → Int32 := ad_tab 8 8 4 4 2 2 1
def ad_dy : Nat → Int32 := ad_tab 8 8 8 4 4 2 2
theorem ad_dx0 : ∀ p, p < 7 → ¬ ad_dx p = 0 := by decide +kernel
theorem ad_dy0 : ∀ p, p < 7 → ¬ ad_dy p = 0 := by decide +kernel
/-- first column and column step as naturals -/
def ad_nx (p : Nat) : Nat := (ad_xs p).toNatClampNeg
def ad_nd (p : Nat) : Nat := (ad_dx p).toNatClampNeg
theorem ad_nt : ∀ p, p < 7 → ad_xs p = nI (ad_nx p) ∧ ad_dx p = nI (ad_nd p) ∧ ad_nx p < ad_nd p ∧ ad_nd p ≤ 8 := by decide +kernel
/-- the remainder, as it is printed -/
abbrev ad_r (a d : Int32) : Int32 := a - a / d * d
/-- pass p holds the cell (a, b) of the block -/
abbrev ad_c (p : Nat) (a b : Int32) : Prop := ad_r (a - ad_xs p) (ad_dx p) = 0 ∧ ad_r (b - ad_ys p) (ad_dy p) = 0
/-- the first pass from p on that holds the cell, among d, else 6: X's answer -/
def ad_fst (a b : Int32) : Nat → Nat → Int32
  | 0, _ => 6
  | d + 1, p => if ad_c p a b then nI p else ad_fst a b d (p + 1)
/-- the last pass from p on that holds the cell, among d, else r: Y's answer -/
def ad_lst (a b : Int32) : Nat → Nat → Int32 → Int32
  | 0, _, r => r
  | d + 1, p, r => ad_lst a b d (p + 1) (if ad_c p a b then nI p else r)
/-- the 64 cells of the block: exactly one pass holds each -/
theorem ad_64 : ∀ i, i < 8 → ∀ j, j < 8 → ad_fst (nI i) (nI j) 6 0 = ad_lst (nI i) (nI j) 7 0 0 := by decide +kernel
theorem ad_one (x y : Int32) : ad_lst (x &&& 7) (y &&& 7) 7 0 0 = ad_fst (x &&& 7) (y &&& 7) 6 0 := by
  obtain ⟨i, hi, ei⟩ := pk_andE x (m := 7) 3 (by decide +kernel)
  obtain ⟨j, hj, ej⟩ := pk_andE y (m := 7) 3 (by decide +kernel)
  rw [ei, ej]
  exact (ad_64 i (by omega) j (by omega)).symm
/-- the width of pass p in an image n columns wide -/
def ad_wv (p n : Nat) : Int32 := nI ((n + (ad_nd p - ad_nx p - 1)) / ad_nd p)
/-- the place of a pass's pixel -/
def ad_pv (p : Nat) (c r : Int32) : Int32 :=
  if c < 0 then -2 else if 65535 < c then -2 else if r < 0 then -2 else if 65535 < r then -2
  else if 65535 < ad_xs p + c * ad_dx p then -2
  else if ad_ys p + r * ad_dy p ≤ 32767 then ((ad_ys p + r * ad_dy p) <<< ((16 : Int32) &&& 31)) ||| (ad_xs p + c * ad_dx p) else -2
end
section
theorem ad_fc {p : Nat} (hp : p < 7) {post : Int32 → Prop} (h : post (ad_xs p)) : wpX_firstColumn post (nI p) := by
  match p, hp with
  | 0, _ =>
    rw [show ad_xs 0 = 0 by decide +kernel] at h
    unfold wpX_firstColumn
    repeat (first | exact h | refine br_t (by decide +kernel) ?_ | refine br_f (by decide +kernel) ?_)
  | 1, _ =>
    rw [show ad_xs 1 = 4 by decide +kernel] at h
    unfold wpX_firstColumn
    repeat (first | exact h | refine br_t (by decide +kernel) ?_ | refine br_f (by decide +kernel) ?_)
  | 2, _ =>
    rw [show ad_xs 2 = 0 by decide +kernel] at h
    unfold wpX_firstColumn
    repeat (first | exact h | refine br_t (by decide +kernel) ?_ | refine br_f (by decide +kernel) ?_)
  | 3, _ =>
    rw [show ad_xs 3 = 2 by decide +kernel] at h
    unfold wpX_firstColumn
    repeat (first | exact h | refine br_t (by decide +kernel) ?_ | refine br_f (by decide +kernel) ?_)
  | 4, _ =>
    rw [show ad_xs 4 = 0 by decide +kernel] at h
    unfold wpX_firstColumn
    repeat (first | exact h | refine br_t (by decide +kernel) ?_ | refine br_f (by decide +kernel) ?_)
  | 5, _ =>
    rw [show ad_xs 5 = 1 by decide +kernel] at h
    unfold wpX_firstColumn
    repeat (first | exact h | refine br_t (by decide +kernel) ?_ | refine br_f (by decide +kernel) ?_)
  | 6, _ =>
    rw [show ad_xs 6 = 0 by decide +kernel] at h
    unfold wpX_firstColumn
    repeat (first | exact h | refine br_t (by decide +kernel) ?_ | refine br_f (by decide +kernel) ?_)
theorem ad_cs {p : Nat} (hp : p < 7) {post : Int32 → Prop} (h : post (ad_dx p)) : wpX_columnStep post (nI p) := by
  match p, hp with
  | 0, _ =>
    rw [show ad_dx 0 = 8 by decide +kernel] at h
    unfold wpX_columnStep
    repeat (first | exact h | refine br_t (by decide +kernel) ?_ | refine br_f (by decide +kernel) ?_)
  | 1, _ =>
    rw [show ad_dx 1 = 8 by decide +kernel] at h
    unfold wpX_columnStep
    repeat (first | exact h | refine br_t (by decide +kernel) ?_ | refine br_f (by decide +kernel) ?_)
  | 2, _ =>
    rw [show ad_dx 2 = 4 by decide +kernel] at h
    unfold wpX_columnStep
    repeat (first | exact h | refine br_t (by decide +kernel) ?_ | refine br_f (by decide +kernel) ?_)
  | 3, _ =>
    rw [show ad_dx 3 = 4 by decide +kernel] at h
    unfold wpX_columnStep
    repeat (first | exact h | refine br_t (by decide +kernel) ?_ | refine br_f (by decide +kernel) ?_)
  | 4, _ =>
    rw [show ad_dx 4 = 2 by decide +kernel] at h
    unfold wpX_columnStep
    repeat (first | exact h | refine br_t (by decide +kernel) ?_ | refine br_f (by decide +kernel) ?_)
  | 5, _ =>
    rw [show ad_dx 5 = 2 by decide +kernel] at h
    unfold wpX_columnStep
    repeat (first | exact h | refine br_t (by decide +kernel) ?_ | refine br_f (by decide +kernel) ?_)
  | 6, _ =>
    rw [show ad_dx 6 = 1 by decide +kernel] at h
    unfold wpX_columnStep
    repeat (first | exact h | refine br_t (by decide +kernel) ?_ | refine br_f (by decide +kernel) ?_)
theorem ad_fr {p : Nat} (hp : p < 7) {post : Int32 → Prop} (h : post (ad_ys p)) : wpX_firstRow post (nI p) := by
  match p, hp with
  | 0, _ =>
    rw [show ad_ys 0 = 0 by decide +kernel] at h
    unfold wpX_firstRow
    repeat (first | exact h | refine br_t (by decide +kernel) ?_ | refine br_f (by decide +kernel) ?_)
  | 1, _ =>
    rw [show ad_ys 1 = 0 by decide +kernel] at h
    unfold wpX_firstRow
    repeat (first | exact h | refine br_t (by decide +kernel) ?_ | refine br_f (by decide +kernel) ?_)
  | 2, _ =>
    rw [show ad_ys 2 = 4 by decide +kernel] at h
    unfold wpX_firstRow
    repeat (first | exact h | refine br_t (by decide +kernel) ?_ | refine br_f (by decide +kernel) ?_)
  | 3, _ =>
    rw [show ad_ys 3 = 0 by decide +kernel] at h
    unfold wpX_firstRow
    repeat (first | exact h | refine br_t (by decide +kernel) ?_ | refine br_f (by decide +kernel) ?_)
  | 4, _ =>
    rw [show ad_ys 4 = 2 by decide +kernel] at h
    unfold wpX_firstRow
    repeat (first | exact h | refine br_t (by decide +kernel) ?_ | refine br_f (by decide +kernel) ?_)
  | 5, _ =>
    rw [show ad_ys 5 = 0 by decide +kernel] at h
    unfold wpX_firstRow
    repeat (first | exact h | refine br_t (by decide +kernel) ?_ | refine br_f (by decide +kernel) ?_)
  | 6, _ =>
    rw [show ad_ys 6 = 1 by decide +kernel] at h
    unfold wpX_firstRow
    repeat (first | exact h | refine br_t (by decide +kernel) ?_ | refine br_f (by decide +kernel) ?_)
theorem ad_rs {p : Nat} (hp : p < 7) {post : Int32 → Prop} (h : post (ad_dy p)) : wpX_rowStep post (nI p) := by
  match p, hp with
  | 0, _ =>
    rw [show ad_dy 0 = 8 by decide +kernel] at h
    unfold wpX_rowStep
    repeat (first | exact h | refine br_t (by decide +kernel) ?_ | refine br_f (by decide +kernel) ?_)
  | 1, _ =>
    rw [show ad_dy 1 = 8 by decide +kernel] at h
    unfold wpX_rowStep
    repeat (first | exact h | refine br_t (by decide +kernel) ?_ | refine br_f (by decide +kernel) ?_)
  | 2, _ =>
    rw [show ad_dy 2 = 8 by decide +kernel] at h
    unfold wpX_rowStep
    repeat (first | exact h | refine br_t (by decide +kernel) ?_ | refine br_f (by decide +kernel) ?_)
  | 3, _ =>
    rw [show ad_dy 3 = 4 by decide +kernel] at h
    unfold wpX_rowStep
    repeat (first | exact h | refine br_t (by decide +kernel) ?_ | refine br_f (by decide +kernel) ?_)
  | 4, _ =>
    rw [show ad_dy 4 = 4 by decide +kernel] at h
    unfold wpX_rowStep
    repeat (first | exact h | refine br_t (by decide +kernel) ?_ | refine br_f (by decide +kernel) ?_)
  | 5, _ =>
    rw [show ad_dy 5 = 2 by decide +kernel] at h
    unfold wpX_rowStep
    repeat (first | exact h | refine br_t (by decide +kernel) ?_ | refine br_f (by decide +kernel) ?_)
  | 6, _ =>
    rw [show ad_dy 6 = 2 by decide +kernel] at h
    unfold wpX_rowStep
    repeat (first | exact h | refine br_t (by decide +kernel) ?_ | refine br_f (by decide +kernel) ?_)
theorem ad_isP {p : Nat} (hp : p < 7) {post : Int32 → Prop} (h : post 1) : wpX_isPass post (nI p) :=
  br_f (nI_pos (by omega)) (br_f (nI_nlt (a := 6) (by omega) (by decide)) h)
theorem ad_isN {p : Int32} (h : p < 0 ∨ 6 < p) {post : Int32 → Prop} (k : post 0) : wpX_isPass post p := by
  by_cases h0 : p < 0
  · exact br_t h0 k
  · exact br_f h0 (br_t (h.resolve_left h0) k)
theorem ad_holds {p : Nat} (hp : p < 7) (a b : Int32) {post : Int32 → Prop} (h1 : ad_c p a b → post 1) (h0 : ¬ ad_c p a b → post 0) : wpX_holds post (nI p) a b := by
  unfold wpX_holds
  refine ad_fc hp ?_
  refine ad_cs hp ?_
  refine ⟨ad_dx0 p hp, ?_⟩
  refine br_c (fun c => ?_) (fun c => h0 (fun z => c z.1))
  refine ad_fr hp ?_
  refine ad_rs hp ?_
  exact ⟨ad_dy0 p hp, br_c (fun d => h1 ⟨c, d⟩) (fun d => h0 (fun z => d z.2))⟩
/-- X's loop -/
theorem ad_X (a b : Int32) {post : Int32 → Prop} : ∀ d p : Nat, d + p = 6 → post (ad_fst a b d p) → wX_passOf_14 post a b (d + 1) (nI p) := by
  intro d
  induction d with
  | zero =>
    intro p hp h
    obtain rfl : p = 6 := by omega
    exact br_t (show (6 : Int32) ≤ nI 6 by decide +kernel) h
  | succ d ih =>
    intro p hp h
    refine br_f (nI_ge (a := p) (b := 6) (by omega) (by decide)) ?_
    refine ad_holds (by omega) a b (fun c => ?_) (fun c => ?_)
    · have h' : post (if ad_c p a b then nI p else ad_fst a b d (p + 1)) := h
      rw [if_pos c] at h'
      exact br_f (by decide +kernel) h'
    · have h' : post (if ad_c p a b then nI p else ad_fst a b d (p + 1)) := h
      rw [if_neg c] at h'
      refine br_t rfl (fun y ey => ?_)
      rw [ey, nI_1 p]
      exact ih (p + 1) (by omega) h'
/-- Y's loop -/
theorem ad_Y (x y : Int32) {post : Int32 → Prop} : ∀ (d p : Nat) (r : Int32), d + p = 7 → post (ad_lst (x &&& 7) (y &&& 7) d p r) → wY_passOf_5 post x y ad_xs ad_ys ad_dx ad_dy (d + 1) r (nI p) := by
  intro d
  induction d with
  | zero =>
    intro p r hp h
    obtain rfl : p = 7 := by omega
    exact br_t (show (7 : Int32) ≤ nI 7 by decide +kernel) h
  | succ d ih =>
    intro p r hp h
    have hq : p < 7 := by omega
    have hi : vp_in (nI p) 7 := vp_in_nI hq (by decide)
    have hc : (nI p).toNatClampNeg = p := nI_clamp (by omega)
    have h' : post (ad_lst (x &&& 7) (y &&& 7) d (p + 1) (if ad_c p (x &&& 7) (y &&& 7) then nI p else r)) := h
    refine br_f (nI_ge (a := p) (b := 7) hq (by decide)) ?_
    rw [hc]
    refine ⟨hi, hi, ad_dx0 p hq, ?_⟩
    by_cases c1 : ad_r ((x &&& 7) - ad_xs p) (ad_dx p) = 0
    · refine br_t c1 ⟨hi, hi, ad_dy0 p hq, ?_⟩
      by_cases c2 : ad_r ((y &&& 7) - ad_ys p) (ad_dy p) = 0
      · rw [if_pos ⟨c1, c2⟩] at h'
        refine br_t c2 (fun z ez => ?_)
        rw [ez, nI_1 p]
        exact ih (p + 1) (nI p) (by omega) h'
      · rw [if_neg (fun z => c2 z.2)] at h'
        refine br_f c2 (fun z ez => ?_)
        rw [ez, nI_1 p]
        exact ih (p + 1) r (by omega) h'
    · rw [if_neg (fun z => c1 z.1)] at h'
      refine br_f c1 (fun z ez => ?_)
      rw [ez, nI_1 p]
      exact ih (p + 1) r (by omega) h'
end
section
theorem ad_wXn {p : Int32} (h : p < 0 ∨ 6 < p) (w : Int32) {post : Int32 → Prop} (k : post (-1)) : wpX_widthIn post () p w := by
  unfold wpX_widthIn
  refine ad_isN h ?_
  exact br_t rfl k
theorem ad_wYn {p : Int32} (h : p < 0 ∨ 6 < p) (w : Int32) {post : Int32 → Prop} (k : post (-1)) : wpY_widthIn post (ad_xs, ad_ys, ad_dx, ad_dy) p w := by
  by_cases h0 : p < 0
  · exact br_t h0 k
  · exact br_f h0 (br_f (Int32.not_le.mpr (h.resolve_left h0)) k)
theorem ad_wXin {p : Nat} (hp : p < 7) {n : Nat} (hn : n < 2 ^ 31) {post : Int32 → Prop} (h : post (ad_wv p n)) : wpX_widthIn post () (nI p) (nI n) := by
  obtain ⟨ea, ed, had, hd8⟩ := ad_nt p hp
  unfold wpX_widthIn
  refine ad_isP hp ?_
  refine br_f (by decide +kernel) ?_
  refine ad_fc hp ?_
  by_cases c : ad_nx p < n
  · refine br_t (by rw [ea]; exact nI_lt c hn) (fun x ex => ?_)
    refine ad_cs hp ?_
    refine ⟨ad_dx0 p hp, ?_⟩
    rw [ex, ea, ed, ad_wX had hd8 hn c]
    exact h
  · refine br_f (by rw [ea]; exact nI_nlt (by omega) (by omega)) ?_
    have e : ad_wv p n = 0 := by
      unfold ad_wv
      rw [ad_w0 had (by omega)]
      exact nI_0
    rw [e] at h
    exact h
theorem ad_wXm {p : Nat} (hp : p < 7) {w : Int32} (hw : w < 0) {post : Int32 → Prop} (h : post 0) : wpX_widthIn post () (nI p) w := by
  obtain ⟨ea, ed, had, hd8⟩ := ad_nt p hp
  unfold wpX_widthIn
  refine ad_isP hp ?_
  refine br_f (by decide +kernel) ?_
  refine ad_fc hp ?_
  refine br_f ?_ h
  intro z
  have z0 : (0 : Int32) ≤ ad_xs p := by
    rw [ea]
    exact nI_pos' (by omega)
  exact Int32.lt_irrefl (Int32.lt_trans hw (Int32.lt_of_le_of_lt z0 z))
theorem ad_wYin {p : Nat} (hp : p < 7) {n : Nat} (hn : n < 2 ^ 31) (h0 : 0 < n) {post : Int32 → Prop} (h : post (ad_wv p n)) : wpY_widthIn post (ad_xs, ad_ys, ad_dx, ad_dy) (nI p) (nI n) := by
  obtain ⟨ea, ed, had, hd8⟩ := ad_nt p hp
  have hi : vp_in (nI p) 7 := vp_in_nI hp (by decide)
  have hc : (nI p).toNatClampNeg = p := nI_clamp (by omega)
  refine br_f (nI_pos (by omega)) ?_
  refine br_t (nI_le (b := 6) (by omega) (by decide)) ?_
  refine br_t (nI_lt (a := 0) h0 hn) ?_
  rw [hc]
  refine ⟨hi, hi, hi, ?_, fun x ex => ?_⟩
  · rw [ed, nI_l (by omega)]
    intro z
    have := (lN_eq (a := ad_nd p) (b := 0) (by omega) (by omega)).mp z
    omega
  · rw [ex, ea, ed, ad_wY had hd8 hn, lN_i]
    exact h
theorem ad_wYz {p : Nat} (hp : p < 7) {w : Int32} (hw : ¬ 0 < w) {post : Int32 → Prop} (h : post 0) : wpY_widthIn post (ad_xs, ad_ys, ad_dx, ad_dy) (nI p) w := by
  refine br_f (nI_pos (by omega)) ?_
  refine br_t (nI_le (b := 6) (by omega) (by decide)) ?_
  exact br_f hw h
theorem ad_pXn {p : Int32} (h : p < 0 ∨ 6 < p) (c r : Int32) {post : Int32 → Prop} (k : post (-1)) : wpX_place post () p c r := by
  unfold wpX_place
  refine ad_isN h ?_
  exact br_t rfl k
theorem ad_pYn {p : Int32} (h : p < 0 ∨ 6 < p) (c r : Int32) {post : Int32 → Prop} (k : post (-1)) : wpY_place post (ad_xs, ad_ys, ad_dx, ad_dy) p c r := by
  by_cases h0 : p < 0
  · exact br_t h0 k
  · exact br_f h0 (br_f (Int32.not_le.mpr (h.resolve_left h0)) k)
theorem ad_pX {p : Nat} (hp : p < 7) (c r : Int32) {post : Int32 → Prop} (h : post (ad_pv p c r)) : wpX_place post () (nI p) c r := by
  unfold ad_pv at h
  unfold wpX_place
  refine ad_isP hp ?_
  refine br_f (by decide +kernel) ?_
  by_cases a1 : c < 0
  · rw [if_pos a1] at h
    exact br_t a1 (br_t rfl h)
  rw [if_neg a1] at h
  by_cases a2 : 65535 < c
  · rw [if_pos a2] at h
    exact br_f a1 (br_t a2 (br_t rfl h))
  rw [if_neg a2] at h
  refine br_f a1 (br_f a2 (br_f (by decide +kernel) ?_))
  by_cases b1 : r < 0
  · rw [if_pos b1] at h
    exact br_t b1 (br_t rfl h)
  rw [if_neg b1] at h
  by_cases b2 : 65535 < r
  · rw [if_pos b2] at h
    exact br_f b1 (br_t b2 (br_t rfl h))
  rw [if_neg b2] at h
  refine br_f b1 (br_f b2 (br_f (by decide +kernel) ?_))
  refine ad_fc hp ?_
  refine ad_cs hp ?_
  intro x ex
  subst ex
  refine ad_fr hp ?_
  refine ad_rs hp ?_
  intro y ey
  subst ey
  by_cases d1 : 65535 < ad_xs p + c * ad_dx p
  · rw [if_pos d1] at h
    exact br_t d1 h
  rw [if_neg d1] at h
  by_cases d2 : ad_ys p + r * ad_dy p ≤ 32767
  · rw [if_pos d2] at h
    exact br_f d1 (br_t d2 h)
  · rw [if_neg d2] at h
    exact br_f d1 (br_f d2 h)
theorem ad_pY {p : Nat} (hp : p < 7) (c r : Int32) {post : Int32 → Prop} (h : post (ad_pv p c r)) : wpY_place post (ad_xs, ad_ys, ad_dx, ad_dy) (nI p) c r := by
  have hi : vp_in (nI p) 7 := vp_in_nI hp (by decide)
  have hc : (nI p).toNatClampNeg = p := nI_clamp (by omega)
  unfold ad_pv at h
  refine br_f (nI_pos (by omega)) ?_
  refine br_t (nI_le (b := 6) (by omega) (by decide)) ?_
  rw [hc]
  by_cases a1 : c < 0
  · rw [if_pos a1] at h
    exact br_t a1 h
  rw [if_neg a1] at h
  by_cases a2 : 65535 < c
  · rw [if_pos a2] at h
    exact br_f a1 (br_t a2 h)
  rw [if_neg a2] at h
  refine br_f a1 (br_f a2 ?_)
  by_cases b1 : r < 0
  · rw [if_pos b1] at h
    exact br_t b1 h
  rw [if_neg b1] at h
  by_cases b2 : 65535 < r
  · rw [if_pos b2] at h
    exact br_f b1 (br_f (Int32.not_le.mpr b2) h)
  rw [if_neg b2] at h
  refine br_f b1 (br_t (Int32.not_lt.mp b2) ⟨hi, hi, ?_⟩)
  intro x ex
  subst ex
  refine ⟨hi, hi, ?_⟩
  intro y ey
  subst ey
  by_cases d1 : 65535 < ad_xs p + c * ad_dx p
  · rw [if_pos d1] at h
    exact br_t d1 h
  rw [if_neg d1] at h
  by_cases d2 : ad_ys p + r * ad_dy p ≤ 32767
  · rw [if_pos d2] at h
    exact br_f d1 (br_t d2 h)
  · rw [if_neg d2] at h
    exact br_f d1 (br_f d2 h)
/-- a pass number is refused, or one of the seven -/
theorem ad_ps (p : Int32) : (p < 0 ∨ 6 < p) ∨ ∃ j : Nat, j < 7 ∧ p = nI j := by
  by_cases h0 : p < 0
  · exact Or.inl (Or.inl h0)
  by_cases h6 : 6 < p
  · exact Or.inl (Or.inr h6)
  · obtain ⟨j, hj, e⟩ := nI_of2 (M := 6) (n := 6) (by decide +kernel) h0 (Int32.not_lt.mp h6)
    exact Or.inr ⟨j, by omega, e⟩
end
section
/-- X keeps nothing; Y's four arrays are the table -/
def i_Rel (k : Nat) (u : SX) (v : SY) : Prop := v = (ad_xs, ad_ys, ad_dx, ad_dy)
theorem i_up {k : Nat} {u : SX} {v : SY} (h : i_Rel k u v) : i_Rel (k + 4) u v := h
theorem i_vc0 : wpX_init (fun u => wpY_init (fun v => i_Rel 0 u v)) := by
  unfold wpX_init wpY_init
  repeat (intro _ e; subst e)
  rfl
theorem i_vc_passOf {k : Nat} {u : SX} {v : SY} (I : i_Rel k u v) (hk : k + 4 ≤ 2048) (v1 : Int32) (v2 : Int32) : wpX_passOf (fun r => wpY_passOf (fun r' => r' = r ∧ i_Rel (k + 4) u v) v v1 v2) u v1 v2 := by
  cases I
  intro a ea b eb
  subst ea eb
  refine ⟨7, ad_X _ _ 6 0 rfl ?_⟩
  refine ⟨8, ad_Y v1 v2 7 0 0 rfl ?_⟩
  exact ⟨ad_one v1 v2, rfl⟩
theorem i_vc_widthIn {k : Nat} {u : SX} {v : SY} (I : i_Rel k u v) (hk : k + 4 ≤ 2048) (v1 : Int32) (v2 : Int32) : wpX_widthIn (fun r => wpY_widthIn (fun r' => r' = r ∧ i_Rel (k + 4) u v) v v1 v2) u v1 v2 := by
  cases I
  rcases ad_ps v1 with h | ⟨p, hp, rfl⟩
  · refine ad_wXn h _ ?_
    refine ad_wYn h _ ?_
    exact ⟨rfl, rfl⟩
  by_cases h0 : v2 < 0
  · refine ad_wXm hp h0 ?_
    refine ad_wYz hp (Int32.lt_asymm h0) ?_
    exact ⟨rfl, rfl⟩
  obtain ⟨n, hn, rfl⟩ := nI_of h0
  refine ad_wXin hp hn ?_
  by_cases z : 0 < n
  · refine ad_wYin hp hn z ?_
    exact ⟨rfl, rfl⟩
  · obtain rfl : n = 0 := by omega
    refine ad_wYz hp (by decide +kernel) ?_
    obtain ⟨_, _, had, _⟩ := ad_nt p hp
    refine ⟨?_, rfl⟩
    unfold ad_wv
    rw [ad_w0 had (Nat.zero_le _)]
    exact nI_0.symm
theorem i_vc_place {k : Nat} {u : SX} {v : SY} (I : i_Rel k u v) (hk : k + 4 ≤ 2048) (v1 : Int32) (v2 : Int32) (v3 : Int32) : wpX_place (fun r => wpY_place (fun r' => r' = r ∧ i_Rel (k + 4) u v) v v1 v2 v3) u v1 v2 v3 := by
  cases I
  rcases ad_ps v1 with h | ⟨p, hp, rfl⟩
  · refine ad_pXn h _ _ ?_
    refine ad_pYn h _ _ ?_
    exact ⟨rfl, rfl⟩
  · refine ad_pX hp _ _ ?_
    refine ad_pY hp _ _ ?_
    exact ⟨rfl, rfl⟩
end
