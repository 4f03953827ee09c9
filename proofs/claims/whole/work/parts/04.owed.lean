/-- X keeps nothing; Y's four arrays are the table -/
def i_Rel (k : Nat) (u : SX) (v : SY) : Prop := v = (ad_xs, ad_ys, ad_dx, ad_dy)
theorem i_up {k : Nat} {u : SX} {v : SY} (h : i_Rel k u v) : i_Rel (k + 4) u v := h
theorem i_vc0 : wpX_init (fun u => wpY_init (fun v => i_Rel 0 u v)) := by
  unfold wpX_init wpY_init
  repeat (intro _ e; subst e)
  rfl
theorem i_vc_passOf {k : Nat} {u : SX} {v : SY} (I : i_Rel k u v) (hk : k + 4 ≤ 2048) (v1 : Int32) (v2 : Int32) : wpX_passOf (fun r => wpY_passOf (fun r' => r' = r ∧ i_Rel (k + 4) u v) v v1 v2) u v1 v2 := by
  cases I
  intro a ea b eb
  subst ea eb
  refine ⟨7, ad_X _ _ 6 0 rfl ?_⟩
  refine ⟨8, ad_Y v1 v2 7 0 0 rfl ?_⟩
  exact ⟨ad_one v1 v2, rfl⟩
theorem i_vc_widthIn {k : Nat} {u : SX} {v : SY} (I : i_Rel k u v) (hk : k + 4 ≤ 2048) (v1 : Int32) (v2 : Int32) : wpX_widthIn (fun r => wpY_widthIn (fun r' => r' = r ∧ i_Rel (k + 4) u v) v v1 v2) u v1 v2 := by
  cases I
  rcases ad_ps v1 with h | ⟨p, hp, rfl⟩
  · refine ad_wXn h _ ?_
    refine ad_wYn h _ ?_
    exact ⟨rfl, rfl⟩
  by_cases h0 : v2 < 0
  · refine ad_wXm hp h0 ?_
    refine ad_wYz hp (Int32.lt_asymm h0) ?_
    exact ⟨rfl, rfl⟩
  obtain ⟨n, hn, rfl⟩ := nI_of h0
  refine ad_wXin hp hn ?_
  by_cases z : 0 < n
  · refine ad_wYin hp hn z ?_
    exact ⟨rfl, rfl⟩
  · obtain rfl : n = 0 := by omega
    refine ad_wYz hp (by decide +kernel) ?_
    obtain ⟨_, _, had, _⟩ := ad_nt p hp
    refine ⟨?_, rfl⟩
    unfold ad_wv
    rw [ad_w0 had (Nat.zero_le _)]
    exact nI_0.symm
theorem i_vc_place {k : Nat} {u : SX} {v : SY} (I : i_Rel k u v) (hk : k + 4 ≤ 2048) (v1 : Int32) (v2 : Int32) (v3 : Int32) : wpX_place (fun r => wpY_place (fun r' => r' = r ∧ i_Rel (k + 4) u v) v v1 v2 v3) u v1 v2 v3 := by
  cases I
  rcases ad_ps v1 with h | ⟨p, hp, rfl⟩
  · refine ad_pXn h _ _ ?_
    refine ad_pYn h _ _ ?_
    exact ⟨rfl, rfl⟩
  · refine ad_pX hp _ _ ?_
    refine ad_pY hp _ _ ?_
    exact ⟨rfl, rfl⟩
