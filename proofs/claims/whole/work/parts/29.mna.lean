/-! ===== new int[N][K]: the outer array first, then the inner ones ===== -/
def p_mna (μ : Mem) (N K : Nat) : Mem :=
  (g_I μ, g_L μ, g_D μ, (fun a j => if a = g_n μ + 1 then (if j < N then g_n μ + 2 + j else 0) else g_R μ a j), (fun a => if a = g_n μ + 1 then 19 else if g_n μ + 1 < a ∧ a ≤ g_n μ + 1 + N then 15 else g_K μ a), (fun a => if a = g_n μ + 1 then N else if g_n μ + 1 < a ∧ a ≤ g_n μ + 1 + N then K else g_N μ a), (g_n μ + 1 + N, g_c μ + 1 + N, g_w μ + N + N * K))
def mna (N K : Nat) (μ : Mem) : Option (Nat × Mem) := some (g_n μ + 1, p_mna μ N K)
theorem Mono.mna {μ : Mem} {N K : Nat} : Mono μ (p_mna μ N K) := by
  refine ⟨by show g_n μ ≤ g_n μ + 1 + N; omega, by show g_c μ ≤ g_c μ + 1 + N; omega, by show g_w μ ≤ g_w μ + N + N * K; omega, fun h hh => ?_⟩
  have h1 : ¬ h = g_n μ + 1 := by omega
  have h2 : ¬ (g_n μ + 1 < h ∧ h ≤ g_n μ + 1 + N) := by omega
  exact ⟨(if_neg h1).trans (if_neg h2), (if_neg h1).trans (if_neg h2)⟩
theorem isK_mna {μ : Mem} {N K : Nat} : isK (p_mna μ N K) (g_n μ + 1) 19 = true := isK_iff.mpr ⟨Nat.succ_pos _, by show g_n μ + 1 ≤ g_n μ + 1 + N; omega, if_pos rfl⟩
theorem Okm.mna {μ : Mem} {N K : Nat} (ho : Okm μ) : Okm (p_mna μ N K) := by
  refine ⟨fun a b => ?_, fun a b hl => ?_, fun a b hk => ?_⟩
  · show (if a = g_n μ + 1 then (if b < N then g_n μ + 2 + b else 0) else g_R μ a b) ≤ g_n μ + 1 + N
    have := ho.1 a b
    split
    · split <;> omega
    · omega
  · have hl : g_n μ + 1 + N < a := hl
    have h1 : ¬ a = g_n μ + 1 := by omega
    obtain ⟨z1, z2, z3, z4⟩ := ho.2.1 a b (by omega)
    exact ⟨z1, z2, z3, (if_neg h1).trans z4⟩
  · have hk : (if a = g_n μ + 1 then 19 else if g_n μ + 1 < a ∧ a ≤ g_n μ + 1 + N then 15 else g_K μ a) = 13 := hk
    by_cases h1 : a = g_n μ + 1
    · rw [if_pos h1] at hk
      omega
    · rw [if_neg h1] at hk
      by_cases h2 : g_n μ + 1 < a ∧ a ≤ g_n μ + 1 + N
      · rw [if_pos h2] at hk
        omega
      · rw [if_neg h2] at hk
        exact ho.2.2 a b hk
def adm (ad : Nat → Nat) (n N q : Nat) (r : Nat → Nat) : Nat → Nat := fun h => if h = n + 1 then q else if n + 1 < h ∧ h ≤ n + 1 + N then r (h - (n + 2)) else ad h
theorem adm_old {ad : Nat → Nat} {n N q : Nat} {r : Nat → Nat} {h : Nat} (hh : h ≤ n) : adm ad n N q r h = ad h := by
  have h1 : ¬ h = n + 1 := by omega
  have h2 : ¬ (n + 1 < h ∧ h ≤ n + 1 + N) := by omega
  exact (if_neg h1).trans (if_neg h2)
theorem adm_in {ad : Nat → Nat} {n N q : Nat} {r : Nat → Nat} {i : Nat} (hi : i < N) : adm ad n N q r (n + 2 + i) = r i := by
  have h1 : ¬ n + 2 + i = n + 1 := by omega
  have h2 : n + 1 < n + 2 + i ∧ n + 2 + i ≤ n + 1 + N := by omega
  have h3 : n + 2 + i - (n + 2) = i := by omega
  unfold adm
  rw [if_neg h1, if_pos h2, h3]
theorem fvs_adm {ad ad' : Nat → Nat} {c n : Nat} {fI : Nat → Int32} {fR : Nat → Nat} (ha : ∀ h, h ≤ n → ad' h = ad h) (ho : ∀ k, fR k ≤ n) : fvs ad' fI fR c = fvs ad fI fR c := by
  unfold fvs
  apply List.map_congr_left
  intro x _
  unfold fval ro
  rw [ha _ (ho _)]
theorem en_adm {g : Gx} {ad ad' : Nat → Nat} {μ : Mem} {h n : Nat} (ha : ∀ h, h ≤ n → ad' h = ad h) (ho : ∀ k, g_R μ h k ≤ n) : en g ad' μ h = en g ad μ h := by
  unfold en enf
  have e1 : (fun j => ro ad' (g_R μ h j)) = fun j => ro ad (g_R μ h j) := funext fun j => by unfold ro; rw [ha _ (ho _)]
  rw [e1, fvs_adm ha ho]
theorem wl_mna {g : Gx} {ad : Nat → Nat} {μ : Mem} {N K q : Nat} {r : Nat → Nat} (ho : Okm μ) :
    (wl g ad μ ++ [(q, .inl (g.2.2.1 19, N, .inr (.inr (.inr (.inr (fun i => if i < N then some (r i) else none))))))]) ++ (List.range N).map (fun i => (r i, (.inl (g.2.2.1 15, K, .inl (fun _ => 0)) : va_E))) = wl g (adm ad (g_n μ) N q r) (p_mna μ N K) := by
  have hn : g_n (p_mna μ N K) = g_n μ + 1 + N := rfl
  unfold wl
  rw [hn, List.range_add, List.map_append, List.range_succ, List.map_append]
  congr 1
  · congr 1
    · apply List.map_congr_left
      intro j hj
      have hj : j < g_n μ := List.mem_range.mp hj
      have h1 : ¬ j + 1 = g_n μ + 1 := by omega
      have h2 : ¬ (g_n μ + 1 < j + 1 ∧ j + 1 ≤ g_n μ + 1 + N) := by omega
      have eK : g_K (p_mna μ N K) (j + 1) = g_K μ (j + 1) := (if_neg h1).trans (if_neg h2)
      have eN : g_N (p_mna μ N K) (j + 1) = g_N μ (j + 1) := (if_neg h1).trans (if_neg h2)
      have eR : g_R (p_mna μ N K) (j + 1) = g_R μ (j + 1) := funext fun k => if_neg h1
      have e2 : en g (adm ad (g_n μ) N q r) (p_mna μ N K) (j + 1) = en g (adm ad (g_n μ) N q r) μ (j + 1) := by
        unfold en
        rw [eK, eN, eR]
        rfl
      rw [e2, en_adm (n := g_n μ) (fun h hh => adm_old hh) (ho.1 _), adm_old (by omega)]
    · simp only [List.map_cons, List.map_nil]
      have eK : g_K (p_mna μ N K) (g_n μ + 1) = 19 := if_pos rfl
      have eN : g_N (p_mna μ N K) (g_n μ + 1) = N := if_pos rfl
      have eq1 : adm ad (g_n μ) N q r (g_n μ + 1) = q := if_pos rfl
      rw [en_R eK (by decide), eN, eq1]
      have e3 : (fun i => if i < N then some (r i) else none) = fun j => ro (adm ad (g_n μ) N q r) (g_R (p_mna μ N K) (g_n μ + 1) j) := funext fun j => by
        have e4 : g_R (p_mna μ N K) (g_n μ + 1) j = if j < N then g_n μ + 2 + j else 0 := if_pos rfl
        rw [e4]
        by_cases hj : j < N
        · rw [if_pos hj, if_pos hj]
          have : ¬ g_n μ + 2 + j = 0 := by omega
          unfold ro
          rw [if_neg this, adm_in hj]
        · rw [if_neg hj, if_neg hj]
          rfl
      rw [e3]
  · rw [List.map_map]
    apply List.map_congr_left
    intro i hi
    have hi : i < N := List.mem_range.mp hi
    show _ = (adm ad (g_n μ) N q r (g_n μ + 1 + i + 1), en g (adm ad (g_n μ) N q r) (p_mna μ N K) (g_n μ + 1 + i + 1))
    have e0 : g_n μ + 1 + i + 1 = g_n μ + 2 + i := by omega
    rw [e0]
    have h1 : ¬ g_n μ + 2 + i = g_n μ + 1 := by omega
    have h2 : g_n μ + 1 < g_n μ + 2 + i ∧ g_n μ + 2 + i ≤ g_n μ + 1 + N := by omega
    have eK : g_K (p_mna μ N K) (g_n μ + 2 + i) = 15 := (if_neg h1).trans (if_pos h2)
    have eN : g_N (p_mna μ N K) (g_n μ + 2 + i) = K := (if_neg h1).trans (if_pos h2)
    have eI : g_I (p_mna μ N K) (g_n μ + 2 + i) = fun _ => 0 := funext fun k => (ho.2.1 _ k (by omega)).1
    rw [en_I eK, eN, eI, adm_in hi]
section SMN
variable {α : Type} {F : Option Fx} {enc : α → Outc} {own : String} {cc : ByteArray} {nL v : Nat} {pc : Nat} {pls : List (Nat × Value)} {st : List Value} {μ : Mem} {o : Option (α × Mem)} {ret : Option FieldType} {kf : Nat → Mem → Option (α × Mem)}
theorem s_mna {idx : Nat} {n k : Int32} (N K : Nat) (hF : FxO F own cc nL v) (hD : FxXO F ret) (hd : decode cc pc = .ok (.multianewarray idx 2, 4)) (hcl : Cond.classLink own idx "[[I" ∈ WA) (hov : Cond.arrayOver (.array .int) ∈ WX) (har : Cond.arrayClass .int ∈ WA) (hn : ¬ n < 0) (hk : ¬ k < 0) (hN : n.toNatClampNeg = N) (hM : k.toNatClampNeg = K)
    (hb1 : N * 4 ≤ 536870912) (hb2 : K * 4 ≤ 536870912) (hb3 : K ≤ 536870912) (kk : ∀ (r : Nat) (m : Mem), isK m r 19 = true → Mono μ m → Sim F enc (pc + 4) pls (.ref r :: st) m (kf r m)) : Sim F enc pc pls (.int k :: .int n :: st) μ (obind (mna N K μ) kf) := by
  intro r μ' ho
  have ho : kf (g_n μ + 1) (p_mna μ N K) = some (r, μ') := ho
  obtain ⟨hm', k2⟩ := kk _ _ isK_mna Mono.mna r μ' ho
  refine ⟨Mono.mna.tr hm', fun G hG ad H locs ls d hR hdp hV hl => ?_⟩
  have hFG := hF G hG
  have hNX : NX ((x_s G).setDrawn d) := NX.same (s := x_s G) rfl ((hD G hG).2.2.2.2.2.2.2.1)
  obtain ⟨r1, r2, r3, r4⟩ := hFG.2.2.2.2.2.2.2.2.2 (g_c μ' - x_c0 G) (g_w μ' - x_w0 G)
  obtain ⟨q1, q2, q3, q4, q5, q6, q7, q8⟩ := id hR
  have c2 : g_c μ + 1 + N ≤ g_c μ' := hm'.2.1
  have w2 : g_w μ + N + N * K ≤ g_w μ' := hm'.2.2.1
  have ec : g_c (p_mna μ N K) - x_c0 G = g_c μ - x_c0 G + 1 + N := by show g_c μ + 1 + N - x_c0 G = _; omega
  have ew : g_w (p_mna μ N K) - x_w0 G = g_w μ - x_w0 G + N + N * K := by show g_w μ + N + N * K - x_w0 G = _; omega
  have hcy := ((hFG.hK d).2 2 ((x_g G).2.2.1 15, .int) rfl).2
  have e0 : wl (x_g G) ad μ ++ va_pl [] (fun _ => (.inr (0, []) : va_E)) = wl (x_g G) ad μ := by rw [show va_pl [] (fun _ => (.inr (0, []) : va_E)) = [] from rfl, List.append_nil]
  refine va_mna (s := (x_s G).setDrawn d) (X := wl (x_g G) ad μ) (L := []) (f := fun _ => .inr (0, [])) (ty := .int) (cy := (x_g G).2.2.1 15) (z := (K, .inl (fun _ => 0))) hFG.1 hFG.2.1 hFG.2.2.2.2.1 (hFG.ht d _ hcl) (hNX _ hov) (hFG.ht d _ har) hcy (hFG.hK d) (by rw [e0]; exact q1) (by rw [e0]; exact q2) q3 hFG.2.2.2.2.2.2.1 hn hk hN hM hb1 hb2 hb3 rfl rfl (by omega) (by omega) (fun c => ?_) hd (fun q rr cA H1 hinj hnl hK hP hD1 hS => ?_)
  · show ({ cls := c, slots := Array.replicate K (.int 0), vm := .none } : Cell) = _
    rw [arrV_new]
    rfl
  · have e1 : cA = (x_g G).2.2.1 19 := by
      have h1 := (hK.2 7 (cA, .array .int) rfl).2
      have h2 := (hK.2 6 ((x_g G).2.2.1 19, .array .int) rfl).2
      exact Option.some.inj (h1.symm.trans h2)
    subst e1
    have e2 : va_pl ([] ++ (List.range N).map rr) (vr_up (fun _ => (.inr (0, []) : va_E)) ((List.range N).map rr) (.inl ((x_g G).2.2.1 15, (K, .inl (fun _ => 0))))) = (List.range N).map (fun i => (rr i, (.inl ((x_g G).2.2.1 15, K, .inl (fun _ => 0)) : va_E))) := by
      unfold va_pl
      rw [List.nil_append, List.map_map]
      apply List.map_congr_left
      intro i hi
      show (rr i, vr_up _ _ _ (rr i)) = _
      rw [vr_up_in (List.mem_map.mpr ⟨i, hi, rfl⟩)]
    rw [e2, wl_mna q4] at hP hD1
    have hRR : RelH G (adm ad (g_n μ) N q rr) (p_mna μ N K) H1 locs := ⟨hP, hD1, hS, q4.mna, fun h hh => (adm_old (Nat.le_trans hh q6)).trans (q5 h hh), Nat.le_trans q6 Mono.mna.1, Nat.le_trans q7 Mono.mna.2.1, Nat.le_trans q8 Mono.mna.2.2.1⟩
    have ho2 : ∀ h, h ≤ g_n μ → adm ad (g_n μ) N q rr h = ad h := fun h hh => adm_old hh
    have hV' : VOK (g_n (p_mna μ N K)) pls (.ref (g_n μ + 1) :: st) := by
      refine ⟨fun z hz => vok_mono Mono.mna.1 (hV.1 z hz), fun z hz => ?_⟩
      rcases List.mem_cons.mp hz with rfl | hz
      · show g_n μ + 1 ≤ g_n μ + 1 + N
        omega
      · exact vok_mono Mono.mna.1 (hV.2 z (List.mem_cons_of_mem _ (List.mem_cons_of_mem _ hz)))
    have hpl := trP_ext (g := x_g G) ho2 hV.1
    have := k2 G hG (adm ad (g_n μ) N q rr) H1 locs ls d hRR hdp hV' (by rw [hpl]; exact hl)
    rw [ec, ew, List.map_cons, trS_ext (g := x_g G) ho2 (fun z hz => hV.2 z (List.mem_cons_of_mem _ (List.mem_cons_of_mem _ hz)))] at this
    have eq1 : tr (x_g G) (adm ad (g_n μ) N q rr) (.ref (g_n μ + 1)) = .ref q := by
      show Value.ref (adm ad (g_n μ) N q rr (g_n μ + 1)) = _
      rw [show adm ad (g_n μ) N q rr (g_n μ + 1) = q from if_pos rfl]
    rw [eq1] at this
    exact this
end SMN
