/-! ===== the reference: its things ===== -/
def ArS (μ : Mem) (h n : Nat) : Prop := isK μ h 15 = true ∧ g_N μ h = n
def TbS (μ : Mem) (h N K : Nat) : Prop := isK μ h 19 = true ∧ g_N μ h = N ∧ ∀ i, i < N → g_R μ h i = h + 1 + i ∧ ArS μ (h + 1 + i) K
/-- the names that the reference's object holds -/
def rfH : List (Nat × Nat) := [(9, 126), (10, 127), (11, 128), (12, 129), (13, 130), (14, 139), (15, 148), (16, 165), (19, 182), (20, 343), (21, 504), (22, 511), (23, 518), (24, 519), (25, 520), (26, 521), (27, 522), (29, 603), (30, 604), (31, 605), (32, 622), (41, 626), (42, 627), (45, 628)]
def rfAr : List (Nat × Nat) := [(126, 600), (127, 5), (128, 3), (129, 3), (518, 160), (519, 8), (520, 12), (521, 12), (603, 419), (604, 419), (626, 8), (627, 8), (628, 1001)]
def rfTb : List (Nat × Nat × Nat) := [(130, 8, 3), (139, 8, 3), (148, 16, 2), (165, 16, 2), (182, 160, 2), (343, 160, 2), (504, 6, 2), (511, 6, 2), (522, 80, 5), (605, 16, 419), (622, 3, 7124)]
def RfS (μ : Mem) : Prop := isK μ 125 12 = true ∧ (∀ q, q ∈ rfH → g_R μ 125 q.1 = q.2) ∧ (∀ q, q ∈ rfAr → ArS μ q.1 q.2) ∧ ∀ q, q ∈ rfTb → TbS μ q.1 q.2.1 q.2.2
theorem ArS.k {μ ν : Mem} {h n : Nat} (a : ArS μ h n) (e : ∀ c, isK μ h c = true → isK ν h c = true) (eN : g_N ν h = g_N μ h) : ArS ν h n := ⟨e _ a.1, eN.trans a.2⟩
theorem RfS.sh {μ ν : Mem} (s : RfS μ) (e : Sh μ ν) : RfS ν := by
  unfold RfS ArS TbS ArS at *
  rw [sh_isK e, sh_gR e, sh_gN e]
  exact s
theorem RfS.fr {μ ν : Mem} (s : RfS μ) (hn : g_n μ ≤ g_n ν) (e : ∀ x, 125 ≤ x → x < 629 → x ≤ g_n μ → g_K ν x = g_K μ x ∧ g_N ν x = g_N μ x ∧ g_R ν x = g_R μ x) : RfS ν := by
  obtain ⟨s0, s1, s2, s3⟩ := s
  have k : ∀ x c, 125 ≤ x → x < 629 → isK μ x c = true → isK ν x c = true := fun x c h1 h2 h => by
    obtain ⟨a1, a2, a3⟩ := isK_iff.mp h
    exact isK_iff.mpr ⟨a1, by omega, by rw [(e x h1 h2 a2).1]; exact a3⟩
  have ar : ∀ h n, 125 ≤ h → h < 629 → ArS μ h n → ArS ν h n := fun h n h1 h2 a => ⟨k h 15 h1 h2 a.1, by rw [(e h h1 h2 (isK_le a.1)).2.1]; exact a.2⟩
  have ba : ∀ q : Nat × Nat, q ∈ rfAr → 125 ≤ q.1 ∧ q.1 < 629 := by decide
  have bt : ∀ q : Nat × Nat × Nat, q ∈ rfTb → 125 ≤ q.1 ∧ q.1 + 1 + q.2.1 ≤ 629 := by decide
  refine ⟨k 125 12 (by decide) (by decide) s0, fun q hq => ?_, fun q hq => ar q.1 q.2 (ba q hq).1 (ba q hq).2 (s2 q hq), fun q hq => ?_⟩
  · rw [(e 125 (by decide) (by decide) (isK_le s0)).2.2]
    exact s1 q hq
  · obtain ⟨b1, b2⟩ := bt q hq
    obtain ⟨t1, t2, t3⟩ := s3 q hq
    have hb : q.1 < 629 := by omega
    refine ⟨k q.1 19 b1 hb t1, by rw [(e q.1 b1 hb (isK_le t1)).2.1]; exact t2, fun i hi => ?_⟩
    obtain ⟨u1, u2⟩ := t3 i hi
    rw [(e q.1 b1 hb (isK_le t1)).2.2]
    exact ⟨u1, ar _ _ (by omega) (by omega) u2⟩
theorem ArS.ix {μ : Mem} {h n i : Nat} (a : ArS μ h n) (hi : i < n) (hn : n < 2147483648) : inA μ h 15 (nI i) = true := inA_n a.1 a.2 hi hn
theorem TbS.ix {μ : Mem} {h N K i : Nat} (a : TbS μ h N K) (hi : i < N) (hn : N < 2147483648) : inA μ h 19 (nI i) = true := inA_n a.1 a.2.1 hi hn
/-- one row of a table: it is there, where it is, what it is -/
theorem TbS.at {μ : Mem} {h N K i : Nat} (a : TbS μ h N K) (hi : i < N) (hn : N < 2147483648) : inA μ h 19 (nI i) = true ∧ g_R μ h (nI i).toNatClampNeg = h + 1 + i ∧ 0 < h + 1 + i ∧ ArS μ (h + 1 + i) K := ⟨a.ix hi hn, by rw [nI_clamp (show i < 2147483648 by omega)]; exact (a.2.2 i hi).1, by omega, (a.2.2 i hi).2⟩
section RF
variable {μ : Mem}
theorem RfS.h9 (s : RfS μ) : g_R μ 125 9 = 126 := s.2.1 (9, 126) (by decide)
theorem RfS.h10 (s : RfS μ) : g_R μ 125 10 = 127 := s.2.1 (10, 127) (by decide)
theorem RfS.h11 (s : RfS μ) : g_R μ 125 11 = 128 := s.2.1 (11, 128) (by decide)
theorem RfS.h12 (s : RfS μ) : g_R μ 125 12 = 129 := s.2.1 (12, 129) (by decide)
theorem RfS.h13 (s : RfS μ) : g_R μ 125 13 = 130 := s.2.1 (13, 130) (by decide)
theorem RfS.h14 (s : RfS μ) : g_R μ 125 14 = 139 := s.2.1 (14, 139) (by decide)
theorem RfS.h15 (s : RfS μ) : g_R μ 125 15 = 148 := s.2.1 (15, 148) (by decide)
theorem RfS.h16 (s : RfS μ) : g_R μ 125 16 = 165 := s.2.1 (16, 165) (by decide)
theorem RfS.h19 (s : RfS μ) : g_R μ 125 19 = 182 := s.2.1 (19, 182) (by decide)
theorem RfS.h20 (s : RfS μ) : g_R μ 125 20 = 343 := s.2.1 (20, 343) (by decide)
theorem RfS.h21 (s : RfS μ) : g_R μ 125 21 = 504 := s.2.1 (21, 504) (by decide)
theorem RfS.h22 (s : RfS μ) : g_R μ 125 22 = 511 := s.2.1 (22, 511) (by decide)
theorem RfS.h23 (s : RfS μ) : g_R μ 125 23 = 518 := s.2.1 (23, 518) (by decide)
theorem RfS.h24 (s : RfS μ) : g_R μ 125 24 = 519 := s.2.1 (24, 519) (by decide)
theorem RfS.h25 (s : RfS μ) : g_R μ 125 25 = 520 := s.2.1 (25, 520) (by decide)
theorem RfS.h26 (s : RfS μ) : g_R μ 125 26 = 521 := s.2.1 (26, 521) (by decide)
theorem RfS.h27 (s : RfS μ) : g_R μ 125 27 = 522 := s.2.1 (27, 522) (by decide)
theorem RfS.h29 (s : RfS μ) : g_R μ 125 29 = 603 := s.2.1 (29, 603) (by decide)
theorem RfS.h30 (s : RfS μ) : g_R μ 125 30 = 604 := s.2.1 (30, 604) (by decide)
theorem RfS.h31 (s : RfS μ) : g_R μ 125 31 = 605 := s.2.1 (31, 605) (by decide)
theorem RfS.h32 (s : RfS μ) : g_R μ 125 32 = 622 := s.2.1 (32, 622) (by decide)
theorem RfS.h41 (s : RfS μ) : g_R μ 125 41 = 626 := s.2.1 (41, 626) (by decide)
theorem RfS.h42 (s : RfS μ) : g_R μ 125 42 = 627 := s.2.1 (42, 627) (by decide)
theorem RfS.h45 (s : RfS μ) : g_R μ 125 45 = 628 := s.2.1 (45, 628) (by decide)
theorem RfS.a126 (s : RfS μ) : ArS μ 126 600 := s.2.2.1 (126, 600) (by decide)
theorem RfS.a127 (s : RfS μ) : ArS μ 127 5 := s.2.2.1 (127, 5) (by decide)
theorem RfS.a128 (s : RfS μ) : ArS μ 128 3 := s.2.2.1 (128, 3) (by decide)
theorem RfS.a129 (s : RfS μ) : ArS μ 129 3 := s.2.2.1 (129, 3) (by decide)
theorem RfS.a518 (s : RfS μ) : ArS μ 518 160 := s.2.2.1 (518, 160) (by decide)
theorem RfS.a519 (s : RfS μ) : ArS μ 519 8 := s.2.2.1 (519, 8) (by decide)
theorem RfS.a520 (s : RfS μ) : ArS μ 520 12 := s.2.2.1 (520, 12) (by decide)
theorem RfS.a521 (s : RfS μ) : ArS μ 521 12 := s.2.2.1 (521, 12) (by decide)
theorem RfS.a603 (s : RfS μ) : ArS μ 603 419 := s.2.2.1 (603, 419) (by decide)
theorem RfS.a604 (s : RfS μ) : ArS μ 604 419 := s.2.2.1 (604, 419) (by decide)
theorem RfS.a626 (s : RfS μ) : ArS μ 626 8 := s.2.2.1 (626, 8) (by decide)
theorem RfS.a627 (s : RfS μ) : ArS μ 627 8 := s.2.2.1 (627, 8) (by decide)
theorem RfS.a628 (s : RfS μ) : ArS μ 628 1001 := s.2.2.1 (628, 1001) (by decide)
theorem RfS.t130 (s : RfS μ) : TbS μ 130 8 3 := s.2.2.2 (130, 8, 3) (by decide)
theorem RfS.t139 (s : RfS μ) : TbS μ 139 8 3 := s.2.2.2 (139, 8, 3) (by decide)
theorem RfS.t148 (s : RfS μ) : TbS μ 148 16 2 := s.2.2.2 (148, 16, 2) (by decide)
theorem RfS.t165 (s : RfS μ) : TbS μ 165 16 2 := s.2.2.2 (165, 16, 2) (by decide)
theorem RfS.t182 (s : RfS μ) : TbS μ 182 160 2 := s.2.2.2 (182, 160, 2) (by decide)
theorem RfS.t343 (s : RfS μ) : TbS μ 343 160 2 := s.2.2.2 (343, 160, 2) (by decide)
theorem RfS.t504 (s : RfS μ) : TbS μ 504 6 2 := s.2.2.2 (504, 6, 2) (by decide)
theorem RfS.t511 (s : RfS μ) : TbS μ 511 6 2 := s.2.2.2 (511, 6, 2) (by decide)
theorem RfS.t522 (s : RfS μ) : TbS μ 522 80 5 := s.2.2.2 (522, 80, 5) (by decide)
theorem RfS.t605 (s : RfS μ) : TbS μ 605 16 419 := s.2.2.2 (605, 16, 419) (by decide)
theorem RfS.t622 (s : RfS μ) : TbS μ 622 3 7124 := s.2.2.2 (622, 3, 7124) (by decide)
end RF
theorem q125 : (0 : Nat) < 125 := by decide
theorem q126 : (0 : Nat) < 126 := by decide
theorem q127 : (0 : Nat) < 127 := by decide
theorem q128 : (0 : Nat) < 128 := by decide
theorem q129 : (0 : Nat) < 129 := by decide
theorem q130 : (0 : Nat) < 130 := by decide
theorem q139 : (0 : Nat) < 139 := by decide
theorem q148 : (0 : Nat) < 148 := by decide
theorem q165 : (0 : Nat) < 165 := by decide
theorem q182 : (0 : Nat) < 182 := by decide
theorem q343 : (0 : Nat) < 343 := by decide
theorem q504 : (0 : Nat) < 504 := by decide
theorem q511 : (0 : Nat) < 511 := by decide
theorem q518 : (0 : Nat) < 518 := by decide
theorem q519 : (0 : Nat) < 519 := by decide
theorem q520 : (0 : Nat) < 520 := by decide
theorem q521 : (0 : Nat) < 521 := by decide
theorem q522 : (0 : Nat) < 522 := by decide
theorem q603 : (0 : Nat) < 603 := by decide
theorem q604 : (0 : Nat) < 604 := by decide
theorem q605 : (0 : Nat) < 605 := by decide
theorem q622 : (0 : Nat) < 622 := by decide
theorem q626 : (0 : Nat) < 626 := by decide
theorem q627 : (0 : Nat) < 627 := by decide
theorem q628 : (0 : Nat) < 628 := by decide
/-- what a run of the reference leaves: F the fields of its object that it may write, S its rows -/
def OF (F S : Nat → Prop) (μ μ' : Mem) : Prop := Out (fun h => h = 125 ∨ S h) μ μ' ∧ ∀ k, ¬ F k → g_I μ' 125 k = g_I μ 125 k
theorem OF.rf {F S : Nat → Prop} {μ : Mem} : OF F S μ μ := ⟨Out.rf, fun _ _ => rfl⟩
theorem OF.tr {F S : Nat → Prop} {μ ν ρ : Mem} (h1 : OF F S μ ν) (h2 : OF F S ν ρ) : OF F S μ ρ := ⟨h1.1.tr h2.1, fun k hk => (h2.2 k hk).trans (h1.2 k hk)⟩
theorem OF.mo {F S F' S' : Nat → Prop} {μ ν : Mem} (h : OF F S μ ν) (hF : ∀ k, F k → F' k) (hS : ∀ k, S k → S' k) : OF F' S' μ ν := ⟨h.1.mo fun a ha => ha.imp id (hS a), fun k hk => h.2 k fun z => hk (hF k z)⟩
theorem OF.p0 {F S : Nat → Prop} {μ ν : Mem} {k : Nat} {v : Int32} (h : OF F S μ ν) (hF : F k) : OF F S μ (p_I ν 125 k v) := ⟨h.1.pI (Or.inl rfl), fun j hj => by rw [gI_k (show j ≠ k from fun e => hj (by rw [e]; exact hF))]; exact h.2 j hj⟩
theorem OF.pS {F S : Nat → Prop} {μ ν : Mem} {a k : Nat} {v : Int32} (h : OF F S μ ν) (hS : S a) (ha : a ≠ 125) : OF F S μ (p_I ν a k v) := ⟨h.1.pI (Or.inr hS), fun j hj => by rw [gI_h (fun e => ha e.symm)]; exact h.2 j hj⟩
theorem OF.s {F S : Nat → Prop} {μ ν : Mem} (h : OF F S μ ν) (s : RfS μ) : RfS ν := s.sh h.1.1
theorem OF.r {F S : Nat → Prop} {μ ν : Mem} (h : OF F S μ ν) {a : Nat} (ha : a ≠ 125) (hS : ¬ S a) : g_I ν a = g_I μ a := (h.1.2 a (fun z => z.elim ha hS)).1
abbrev nS : Nat → Prop := fun _ => False
abbrev tF : Nat → Prop := fun k => k = 4 ∨ k = 5 ∨ k = 6
