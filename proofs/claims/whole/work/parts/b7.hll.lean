/-! ===== the law holds ===== -/
def t0 : HisT := (0, fun _ _ => 0, 0, fun _ _ => 0, fun _ => 0, fun _ _ _ => 0)
def a0 : ClT := (fun _ => 0, 0, -1, hl0, law0, [], [], t0, row0 (hutT hl0), 0, fun _ => 0)
theorem hl0_ok : HutOk (hutT hl0) := ⟨Nat.zero_le _, Nat.zero_le _, fun p hp => absurd hp (Nat.not_lt_zero p), fun w hw => absurd hw (Nat.not_lt_zero w), 0, rfl, Nat.zero_le _⟩
theorem hl0_l : LOk hl0 := ⟨Nat.zero_le _, Nat.zero_le _, fun p hp => (nomatch hp), fun w hw => (nomatch hw), Nat.zero_le _⟩
theorem a0_K : ClK a0 := ⟨hl0_l, RowK.row0 hl0_ok, fun i hi => absurd hi (Nat.not_lt_zero i), fun k hk => absurd hk (Nat.not_lt_zero k)⟩
theorem wA_V : ClV wA fl0 630 a0 := by
  obtain ⟨⟨i1, i2, i3, i4, i5, i6, i7⟩, ⟨j1, j2, j3, j4⟩, ⟨k1, k2, k3, k4, k5⟩, n1⟩ := wA_i
  obtain ⟨s1, s2, s3⟩ := wA_sl
  refine ⟨fun k hk => by rw [wA_v3 k hk]; rfl, ⟨i1, Nat.zero_le _⟩, i2, ⟨i3, i4, i5, fun p hp => absurd hp (Nat.not_lt_zero p), fun w hw => absurd hw (Nat.not_lt_zero w)⟩, ⟨i6, by decide, law0_w, fun j q hq => ?_⟩, ⟨⟨j1, Nat.zero_le _, fun i hi => absurd hi (Nat.not_lt_zero i)⟩, fun p hp => (nomatch hp)⟩, ⟨j2, Nat.zero_le _, fun i hi => absurd hi (Nat.not_lt_zero i)⟩, ⟨wA_H, ⟨fun x i hx => Or.inl ?_, fun x i b j hx hb hne => Or.inl ?_⟩, ⟨j3, j4, Nat.zero_le _, Nat.zero_le _, fun i hi => absurd hi (Nat.not_lt_zero i), fun k hk => absurd hk (Nat.not_lt_zero k)⟩, by decide, by rw [n1]; decide⟩, ⟨Nat.zero_le _, k1, k2, k3, k4, fun p hp => absurd hp (Nat.not_lt_zero p)⟩, k5, wA_92.1⟩
  · match j, hq with
    | 0, hq =>
      have hq : ((1 : Int32), nI 2) = q := Option.some.inj hq
      subst hq
      exact ⟨i7, fun z => absurd z (by decide)⟩
    | j + 1, hq =>
      have hq : ([((1 : Int32), nI 2)] : OpsT)[j + 1]? = some q := hq
      simp at hq
  · rcases hx with ⟨rfl, h⟩ | ⟨rfl, h⟩ | ⟨rfl, h⟩
    · exact s1 i h
    · exact s2 i h
    · exact s3 i h
  · rcases hx with ⟨rfl, h⟩ | ⟨rfl, h⟩ | ⟨rfl, h⟩
    · exact s1 i h
    · exact s2 i h
    · exact s3 i h
theorem wA_M : RfR wA a0 := by
  obtain ⟨⟨i1, i2, i3, i4, i5⟩, ⟨j1, j2, j3⟩, k1, k2⟩ := wA_f
  exact ⟨wA_R, fun k hk => by rw [wA_v126 k hk]; rfl, ⟨i1, Nat.zero_le _⟩, i2, ⟨⟨k1, k2, Or.inl rfl⟩, fun p hp => absurd hp (Nat.not_lt_zero p), fun w hw => absurd hw (Nat.not_lt_zero w)⟩, Or.inl ⟨i3, rfl⟩, ⟨i5, Nat.zero_le _, fun i hi => absurd hi (Nat.not_lt_zero i)⟩, ⟨i4, Nat.zero_le _, fun i hi => absurd hi (Nat.not_lt_zero i)⟩, ⟨⟨j1, Nat.zero_le _⟩, ⟨j3, Nat.zero_le _⟩, fun i hi => absurd hi (Nat.not_lt_zero i), fun k hk => absurd hk (Nat.not_lt_zero k)⟩, wA_ro, j2, wA_92.2⟩
theorem wA_W : Wst (g_c wA) (g_w wA) wA fl0 a0 0 := ⟨⟨wA_N, wA_S, wA_V, a0_K, by decide⟩, wA_M, Nat.le_add_right _ _, Nat.le_add_right _ _, wA_c.2.2.1, wA_c.2.2.2⟩
theorem law_all {Ls : Nat} {xs : Nat → Int32} (hL : Ls ≤ 4608) : ∃ μ' : Mem, LL_law_ Ls xs mem0 = some ((), μ') ∧ g_c μ' ≤ 603072 ∧ g_w μ' ≤ 7215210 := by
  rw [law_init]
  exact law_go hL wA_c.1 wA_c.2.1 513 0 100000 wA fl0 a0 rfl (by decide) (by omega) (by decide) wA_W
