theorem pk_sub {a b : Nat} (h : b ≤ a) : nI a - nI b = nI (a - b) := by
  obtain ⟨c, rfl⟩ : ∃ c, a = c + b := ⟨a - b, by omega⟩
  rw [← nI_add, Int32.add_sub_cancel, Nat.add_sub_cancel]
theorem pk_mul (a b : Nat) : nI a * nI b = nI (a * b) := (Int32.ofNat_mul a b).symm
theorem pk_div {a d : Nat} (ha : a < 2 ^ 31) (h0 : 0 < d) (hd : d < 2 ^ 31) : nI a / nI d = nI (a / d) := by
  apply Int32.toInt_inj.mp
  rw [lg_idiv_nonneg (by rw [nI_toInt ha]; omega) (by rw [nI_toInt hd]; omega), nI_toInt ha, nI_toInt hd, nI_toInt (Nat.lt_of_le_of_lt (Nat.div_le_self a d) ha)]
  first | rfl | exact (Int.natCast_ediv _ _).symm
theorem pk_tn {n : Nat} (h : n < 2 ^ 32) : (nI n).toBitVec.toNat = n := Nat.mod_eq_of_lt h
theorem pk_and (x : Int32) {m : Int32} (k : Nat) (hm : m.toBitVec.toNat = 2 ^ k - 1) : x &&& m = nI (x.toBitVec.toNat % 2 ^ k) := by
  apply Int32.toBitVec_inj.mp
  apply BitVec.eq_of_toNat_eq
  rw [Int32.toBitVec_and, BitVec.toNat_and, hm, Nat.and_two_pow_sub_one_eq_mod]
  show _ = (BitVec.ofNat 32 _).toNat
  rw [BitVec.toNat_ofNat]
  exact (Nat.mod_eq_of_lt (Nat.lt_of_le_of_lt (Nat.mod_le _ _) x.toBitVec.isLt)).symm
theorem pk_andE (x : Int32) {m : Int32} (k : Nat) (hm : m.toBitVec.toNat = 2 ^ k - 1) : ∃ j : Nat, j < 2 ^ k ∧ x &&& m = nI j := ⟨_, Nat.mod_lt _ (Nat.two_pow_pos k), pk_and x k hm⟩
theorem pk_lT {n : Nat} (h : n < 2 ^ 63) : (lN n).toInt = (n : Int) := lg_ofNat_toInt h
theorem pk_lDiv {a b : Nat} (ha : a < 2 ^ 63) (h0 : 0 < b) (hb : b < 2 ^ 63) : lN a / lN b = lN (a / b) := by
  apply Int64.toInt_inj.mp
  rw [lg_ldiv_nonneg (by rw [pk_lT ha]; omega) (by rw [pk_lT hb]; omega), pk_lT ha, pk_lT hb, pk_lT (Nat.lt_of_le_of_lt (Nat.div_le_self a b) ha)]
  rfl
/-- the width, as X reckons it -/
theorem ad_wX {n a d : Nat} (h : a < d) (hd : d ≤ 8) (hn : n < 2 ^ 31) (ha : a < n) : (nI n - 1 - nI a) / nI d + 1 = nI ((n + (d - a - 1)) / d) := by
  obtain ⟨m, rfl⟩ : ∃ m, n = m + 1 := ⟨n - 1, by omega⟩
  rw [nI_pred m, pk_sub (show a ≤ m by omega), pk_div (by omega) (by omega) (by omega), nI_1]
  have e : m + 1 + (d - a - 1) = (m - a) + d := by omega
  rw [e, Nat.add_div_right _ (by omega)]
/-- the width where the image ends before the first column -/
theorem ad_w0 {n a d : Nat} (h : a < d) (ha : n ≤ a) : (n + (d - a - 1)) / d = 0 := Nat.div_eq_of_lt (by omega)
/-- the width, as Y reckons it -/
theorem ad_wY {n a d : Nat} (h : a < d) (hd : d ≤ 8) (hn : n < 2 ^ 31) : ((nI n).toInt64 - (nI a).toInt64 + (nI d).toInt64 - 1) / (nI d).toInt64 = lN ((n + (d - a - 1)) / d) := by
  rw [nI_l hn, nI_l (show a < 2 ^ 31 by omega), nI_l (show d < 2 ^ 31 by omega)]
  have e : lN n - lN a + lN d - 1 = lN (n + (d - a - 1)) := by
    obtain ⟨c, rfl⟩ : ∃ c, d = c + a + 1 := ⟨d - a - 1, by omega⟩
    have h1 : c + a + 1 - a - 1 = c := by omega
    rw [h1, ← lN_add n c, ← lN_1 (c + a), ← lN_add c a]
    grind
  rw [e, pk_lDiv (by omega) (by omega) (by omega)]
/-- the table: four arrays of seven bytes, as Y's constructor lays them -/
def ad_tab (a b c d e f g : Int32) : Nat → Int32 := upd (upd (upd (upd (upd (upd (upd (fun _ => 0) 0 (vp_nar .byte a)) 1 (vp_nar .byte b)) 2 (vp_nar .byte c)) 3 (vp_nar .byte d)) 4 (vp_nar .byte e)) 5 (vp_nar .byte f)) 6 (vp_nar .byte g)
def ad_xs : Nat → Int32 := ad_tab 0 4 0 2 0 1 0
def ad_ys : Nat → Int32 := ad_tab 0 0 4 0 2 0 1
def ad_dx : Nat → Int32 := ad_tab 8 8 4 4 2 2 1
def ad_dy : Nat → Int32 := ad_tab 8 8 8 4 4 2 2
theorem ad_dx0 : ∀ p, p < 7 → ¬ ad_dx p = 0 := by decide +kernel
theorem ad_dy0 : ∀ p, p < 7 → ¬ ad_dy p = 0 := by decide +kernel
/-- first column and column step as naturals -/
def ad_nx (p : Nat) : Nat := (ad_xs p).toNatClampNeg
def ad_nd (p : Nat) : Nat := (ad_dx p).toNatClampNeg
theorem ad_nt : ∀ p, p < 7 → ad_xs p = nI (ad_nx p) ∧ ad_dx p = nI (ad_nd p) ∧ ad_nx p < ad_nd p ∧ ad_nd p ≤ 8 := by decide +kernel
/-- the remainder, as it is printed -/
abbrev ad_r (a d : Int32) : Int32 := a - a / d * d
/-- pass p holds the cell (a, b) of the block -/
abbrev ad_c (p : Nat) (a b : Int32) : Prop := ad_r (a - ad_xs p) (ad_dx p) = 0 ∧ ad_r (b - ad_ys p) (ad_dy p) = 0
/-- the first pass from p on that holds the cell, among d, else 6: X's answer -/
def ad_fst (a b : Int32) : Nat → Nat → Int32
  | 0, _ => 6
  | d + 1, p => if ad_c p a b then nI p else ad_fst a b d (p + 1)
/-- the last pass from p on that holds the cell, among d, else r: Y's answer -/
def ad_lst (a b : Int32) : Nat → Nat → Int32 → Int32
  | 0, _, r => r
  | d + 1, p, r => ad_lst a b d (p + 1) (if ad_c p a b then nI p else r)
/-- the 64 cells of the block: exactly one pass holds each -/
theorem ad_64 : ∀ i, i < 8 → ∀ j, j < 8 → ad_fst (nI i) (nI j) 6 0 = ad_lst (nI i) (nI j) 7 0 0 := by decide +kernel
theorem ad_one (x y : Int32) : ad_lst (x &&& 7) (y &&& 7) 7 0 0 = ad_fst (x &&& 7) (y &&& 7) 6 0 := by
  obtain ⟨i, hi, ei⟩ := pk_andE x (m := 7) 3 (by decide +kernel)
  obtain ⟨j, hj, ej⟩ := pk_andE y (m := 7) 3 (by decide +kernel)
  rw [ei, ej]
  exact (ad_64 i (by omega) j (by omega)).symm
/-- the width of pass p in an image n columns wide -/
def ad_wv (p n : Nat) : Int32 := nI ((n + (ad_nd p - ad_nx p - 1)) / ad_nd p)
/-- the place of a pass's pixel -/
def ad_pv (p : Nat) (c r : Int32) : Int32 :=
  if c < 0 then -2 else if 65535 < c then -2 else if r < 0 then -2 else if 65535 < r then -2
  else if 65535 < ad_xs p + c * ad_dx p then -2
  else if ad_ys p + r * ad_dy p ≤ 32767 then ((ad_ys p + r * ad_dy p) <<< ((16 : Int32) &&& 31)) ||| (ad_xs p + c * ad_dx p) else -2
