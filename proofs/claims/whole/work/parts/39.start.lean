/-! ===== the law's walk, from its entry, out of its lifted function ===== -/
theorem arrC {args : Array Value} {s : State} {ty : FieldType} (h : (Cond.arrayClass ty).before args s = true) (hp : ∀ C, ty ≠ .object C) : ∃ cA : ClassId, ArrOfT s cA ty ∧ va_RA s cA ty := by
  obtain ⟨c, k, comp, h1, h2, h3⟩ := Cond.arrayClass_spec h
  refine ⟨c, fun N z => ⟨(fun k h => by cases h), k, h2, comp, h3⟩, ?_⟩
  cases ty with
  | object C => exact absurd rfl (hp C)
  | _ => exact h1
theorem arrO {args : Array Value} {s : State} {C : String} (h : (Cond.arrayOver (.object C)).before args s = true) : ∃ cA : ClassId, ArrOfT s cA (.object C) ∧ va_RA s cA (.object C) := by
  obtain ⟨comp, c, k, h1, h2, h3, h4, h5⟩ := Cond.arrayOver_spec h
  exact ⟨c, fun N z => ⟨(fun k h => by cases h), k, h3, comp, h4⟩, k, comp, h3, h4, h1, h5⟩
theorem arrA {args : Array Value} {s : State} {ty : FieldType} (h : (Cond.arrayOver (.array ty)).before args s = true) : ∃ cA : ClassId, ArrOfT s cA (.array ty) ∧ va_RA s cA (.array ty) := by
  obtain ⟨comp, c, k, h1, h2, h3, h4⟩ := Cond.arrayOver_specA h
  exact ⟨c, fun N z => ⟨(fun k h => by cases h), k, h2, comp, h3⟩, h4⟩
theorem clsK {args : Array Value} {s : State} {C : String} {T : u_T} {N : Nat} (hts : ∀ w ∈ WA, w.before args s = true) (hin : ∀ w ∈ u_ws C T N, w ∈ WA) (hi : Cond.instantiable C N ∈ WA) : ∃ (cC : ClassId) (iS : Nat → Nat), u_Kn s C T N cC iS := u_known hts hin (hts _ hi)
theorem law_K {s : State} {args : Array Value} (hts : ∀ w ∈ WA, w.before args s = true) (hN : ∀ w ∈ WX, w.before args s = true) : ∃ (dC : Nat → ClassId) (dI : Nat → Nat → Nat) (tA : Nat → ClassId), ∀ sa : Nat → Nat, va_K (gDI (dC, dI, tA, sa)) clL (tysL (dC, dI, tA, sa)) s := by
  have hc : ∀ k : Nat, ∃ q : ClassId × (Nat → Nat), ∀ r : vw_C, clL[k]? = some r → u_Kn s r.1 r.2.1 r.2.2 q.1 q.2 := by
    intro k
    by_cases hk : k < 13
    · have h9 : ∀ (C : String) (T : u_T) (N : Nat), clL[k]? = some (C, T, N) → (∀ w ∈ u_ws C T N, w ∈ WA) → Cond.instantiable C N ∈ WA → ∃ q : ClassId × (Nat → Nat), ∀ r : vw_C, clL[k]? = some r → u_Kn s r.1 r.2.1 r.2.2 q.1 q.2 := by
        intro C T N h1 h2 h3
        obtain ⟨c, i, hh⟩ := clsK hts h2 h3
        refine ⟨(c, i), fun r hr => ?_⟩
        rw [h1] at hr
        cases hr
        exact hh
      match k, hk with
      | 0, _ => exact h9 RX0 TX0 3 rfl wsinX0 insX0
      | 1, _ => exact h9 RX1 TX1 2 rfl wsinX1 insX1
      | 2, _ => exact h9 RX2 TX2 6 rfl wsinX2 insX2
      | 3, _ => exact h9 RX3 TX3 8 rfl wsinX3 insX3
      | 4, _ => exact h9 RX4 TX4 5 rfl wsinX4 insX4
      | 5, _ => exact h9 RX5 TX5 8 rfl wsinX5 insX5
      | 6, _ => exact h9 RX6 TX6 7 rfl wsinX6 insX6
      | 7, _ => exact h9 RX7 TX7 2 rfl wsinX7 insX7
      | 8, _ => exact h9 RX8 TX8 5 rfl wsinX8 insX8
      | 9, _ => exact h9 RX9 TX9 7 rfl wsinX9 insX9
      | 10, _ => exact h9 RX10 TX10 9 rfl wsinX10 insX10
      | 11, _ => exact h9 RX11 TX11 18 rfl wsinX11 insX11
      | 12, _ => exact h9 RX12 TX12 47 rfl wsinX12 insX12
      | k + 13, hk => exact absurd hk (by omega)
    · exact ⟨(0, fun _ => 0), fun r hr => absurd (List.getElem?_eq_some_iff.mp hr).1 hk⟩
  obtain ⟨f, hf⟩ := Classical.axiomOfChoice hc
  obtain ⟨a13, k13⟩ := arrC (hts _ ac_byte) (fun C h => by cases h)
  obtain ⟨a14, k14⟩ := arrC (hts _ ac_double) (fun C h => by cases h)
  obtain ⟨a15, k15⟩ := arrC (hts _ ac_int) (fun C h => by cases h)
  obtain ⟨a16, k16⟩ := arrC (hts _ ac_long) (fun C h => by cases h)
  obtain ⟨a17, k17⟩ := arrO (hN _ ov_X5)
  obtain ⟨a18, k18⟩ := arrO (hN _ ov_X8)
  obtain ⟨a19, k19⟩ := arrA (hN _ ov_I)
  refine ⟨fun k => (f k).1, fun k => (f k).2, fun k => if k = 13 then a13 else if k = 14 then a14 else if k = 15 then a15 else if k = 16 then a16 else if k = 17 then a17 else if k = 18 then a18 else a19, fun sa => ⟨fun c q hq => hf c q hq, fun k q hq => ?_⟩⟩
  match k, hq with
  | 0, hq => cases hq; exact k13
  | 1, hq => cases hq; exact k14
  | 2, hq => cases hq; exact k15
  | 3, hq => cases hq; exact k16
  | 4, hq => cases hq; exact k17
  | 5, hq => cases hq; exact k18
  | 6, hq => cases hq; exact k19
  | k + 7, hq => exact absurd (List.getElem?_eq_some_iff.mp hq).1 (by simp)
def tmS (i : Nat) : Term := match strL[i]? with
  | some q => .string q.1 q.2.1
  | none => .arg 0
abbrev flN : List Cond := flatC (Jvm.Cond.and given_1 narrow_1)
theorem inN {w : Cond} (h : (flN.any fun u => decide (u = w)) = true) : w ∈ flN := by
  obtain ⟨u, hu, e⟩ := List.any_eq_true.mp h
  exact (of_decide_eq_true e) ▸ hu
theorem str_ex : ∀ i : Nat, i < 10 → Cond.exactly (tmS i) "java/lang/String" ∈ flN := by
  have h : ((List.range 10).all fun i => flN.any fun u => decide (u = Cond.exactly (tmS i) "java/lang/String")) = true := by decide +kernel
  exact fun i hi => inN (List.all_eq_true.mp h i (List.mem_range.mpr hi))
theorem str_co : ∀ i : Nat, i < 10 → Cond.eq (.field (tmS i) "java/lang/String" "coder" "B") (.int 0) ∈ flN := by
  have h : ((List.range 10).all fun i => flN.any fun u => decide (u = Cond.eq (.field (tmS i) "java/lang/String" "coder" "B") (.int 0))) = true := by decide +kernel
  exact fun i hi => inN (List.all_eq_true.mp h i (List.mem_range.mpr hi))
theorem str_ar : ∀ i : Nat, i < 10 → Cond.arrayOf (.field (tmS i) "java/lang/String" "value" "[B") .byte ∈ flN := by
  have h : ((List.range 10).all fun i => flN.any fun u => decide (u = Cond.arrayOf (.field (tmS i) "java/lang/String" "value" "[B") .byte)) = true := by decide +kernel
  exact fun i hi => inN (List.all_eq_true.mp h i (List.mem_range.mpr hi))
theorem str_le : ∀ i : Nat, i < 10 → Cond.eq (.length (.field (tmS i) "java/lang/String" "value" "[B")) (.int (Int32.ofNat (lenS.getD i 0))) ∈ flN := by
  have h : ((List.range 10).all fun i => flN.any fun u => decide (u = Cond.eq (.length (.field (tmS i) "java/lang/String" "value" "[B")) (.int (Int32.ofNat (lenS.getD i 0))))) = true := by decide +kernel
  exact fun i hi => inN (List.all_eq_true.mp h i (List.mem_range.mpr hi))
theorem str_el0 : ((List.range 15).all fun j => decide (flN[164 + j]? = some (Cond.eq (.elem (.field (tmS 0) "java/lang/String" "value" "[B") (.int (Int32.ofNat j))) (.int ((bytS.getD 0 []).getD j 0))))) = true := by decide +kernel
theorem str_el1 : ((List.range 44).all fun j => decide (flN[184 + j]? = some (Cond.eq (.elem (.field (tmS 1) "java/lang/String" "value" "[B") (.int (Int32.ofNat j))) (.int ((bytS.getD 1 []).getD j 0))))) = true := by decide +kernel
theorem str_el2 : ((List.range 50).all fun j => decide (flN[254 + j]? = some (Cond.eq (.elem (.field (tmS 2) "java/lang/String" "value" "[B") (.int (Int32.ofNat j))) (.int ((bytS.getD 2 []).getD j 0))))) = true := by decide +kernel
theorem str_el3 : ((List.range 2).all fun j => decide (flN[244 + j]? = some (Cond.eq (.elem (.field (tmS 3) "java/lang/String" "value" "[B") (.int (Int32.ofNat j))) (.int ((bytS.getD 3 []).getD j 0))))) = true := by decide +kernel
theorem str_el4 : ((List.range 3).all fun j => decide (flN[234 + j]? = some (Cond.eq (.elem (.field (tmS 4) "java/lang/String" "value" "[B") (.int (Int32.ofNat j))) (.int ((bytS.getD 4 []).getD j 0))))) = true := by decide +kernel
theorem str_el5 : ((List.range 19).all fun j => decide (flN[313 + j]? = some (Cond.eq (.elem (.field (tmS 5) "java/lang/String" "value" "[B") (.int (Int32.ofNat j))) (.int ((bytS.getD 5 []).getD j 0))))) = true := by decide +kernel
theorem str_el6 : ((List.range 16).all fun j => decide (flN[144 + j]? = some (Cond.eq (.elem (.field (tmS 6) "java/lang/String" "value" "[B") (.int (Int32.ofNat j))) (.int ((bytS.getD 6 []).getD j 0))))) = true := by decide +kernel
theorem str_el7 : ((List.range 14).all fun j => decide (flN[367 + j]? = some (Cond.eq (.elem (.field (tmS 7) "java/lang/String" "value" "[B") (.int (Int32.ofNat j))) (.int ((bytS.getD 7 []).getD j 0))))) = true := by decide +kernel
theorem str_el8 : ((List.range 14).all fun j => decide (flN[342 + j]? = some (Cond.eq (.elem (.field (tmS 8) "java/lang/String" "value" "[B") (.int (Int32.ofNat j))) (.int ((bytS.getD 8 []).getD j 0))))) = true := by decide +kernel
theorem str_el9 : ((List.range 20).all fun j => decide (flN[393 + j]? = some (Cond.eq (.elem (.field (tmS 9) "java/lang/String" "value" "[B") (.int (Int32.ofNat j))) (.int ((bytS.getD 9 []).getD j 0))))) = true := by decide +kernel
theorem str_el : ∀ i : Nat, i < 10 → ∀ j : Nat, j < lenS.getD i 0 → Cond.eq (.elem (.field (tmS i) "java/lang/String" "value" "[B") (.int (Int32.ofNat j))) (.int ((bytS.getD i []).getD j 0)) ∈ flN := by
  intro i hi j hj
  have key : ∀ {n b : Nat} {w : Nat → Cond}, ((List.range n).all fun j => decide (flN[b + j]? = some (w j))) = true → j < n → w j ∈ flN := fun h hj => List.mem_of_getElem? (of_decide_eq_true (List.all_eq_true.mp h j (List.mem_range.mpr hj)))
  match i, hi with
  | 0, _ => exact key str_el0 hj
  | 1, _ => exact key str_el1 hj
  | 2, _ => exact key str_el2 hj
  | 3, _ => exact key str_el3 hj
  | 4, _ => exact key str_el4 hj
  | 5, _ => exact key str_el5 hj
  | 6, _ => exact key str_el6 hj
  | 7, _ => exact key str_el7 hj
  | 8, _ => exact key str_el8 hj
  | 9, _ => exact key str_el9 hj
  | i + 10, hi => exact absurd hi (by omega)
def neP : List (Nat × Nat × Nat) := [(0, 1, 229), (0, 2, 305), (0, 3, 247), (0, 4, 238), (0, 5, 333), (0, 7, 382), (0, 8, 357), (0, 9, 414), (1, 2, 306), (1, 3, 248), (1, 4, 239), (1, 5, 334), (1, 7, 383), (1, 8, 358), (1, 9, 415), (2, 5, 337), (2, 7, 386), (2, 8, 361), (2, 9, 418), (3, 2, 308), (3, 5, 336), (3, 7, 385), (3, 8, 360), (3, 9, 417), (4, 2, 307), (4, 3, 249), (4, 5, 335), (4, 7, 384), (4, 8, 359), (4, 9, 416), (5, 7, 387), (5, 8, 362), (5, 9, 419), (6, 0, 179), (6, 1, 228), (6, 2, 304), (6, 3, 246), (6, 4, 237), (6, 5, 332), (6, 7, 381), (6, 8, 356), (6, 9, 413), (7, 9, 421), (8, 7, 388), (8, 9, 420)]
theorem neP_ok : (neP.all fun q => decide (flN[q.2.2]? = some (Cond.not (Cond.eq (tmS q.1) (tmS q.2.1))))) = true := by decide +kernel
theorem neP_all : ((List.range 10).all fun i => (List.range 10).all fun j => decide (i = j) || neP.any fun q => (decide (q.1 = i) && decide (q.2.1 = j)) || (decide (q.1 = j) && decide (q.2.1 = i))) = true := by decide +kernel
theorem str_ne : ∀ i j : Nat, i < 10 → j < 10 → i ≠ j → Cond.not (Cond.eq (tmS i) (tmS j)) ∈ flN ∨ Cond.not (Cond.eq (tmS j) (tmS i)) ∈ flN := by
  intro i j hi hj hne
  have := List.all_eq_true.mp (List.all_eq_true.mp neP_all i (List.mem_range.mpr hi)) j (List.mem_range.mpr hj)
  simp only [Bool.or_eq_true, decide_eq_true_eq] at this
  obtain ⟨q, hq, h1⟩ := List.any_eq_true.mp (this.resolve_left hne)
  have h2 := of_decide_eq_true (List.all_eq_true.mp neP_ok q hq)
  have h3 := List.mem_of_getElem? h2
  simp only [Bool.or_eq_true, Bool.and_eq_true, decide_eq_true_eq] at h1
  rcases h1 with ⟨e1, e2⟩ | ⟨e1, e2⟩
  · rw [e1, e2] at h3
    exact Or.inl h3
  · rw [e1, e2] at h3
    exact Or.inr h3
theorem str_rf : ((List.range 10).all fun i => match strL[i]? with
    | some q => lw_tbl.any fun u => decide (u = Cond.stringRef q.1 q.2.1 q.2.2)
    | none => false) = true := by decide +kernel
theorem nc_in : ∀ q ∈ ncP, Cond.not (.castable (exN q.1) (exN q.2)) ∈ flN := by
  have h : (ncP.all fun q => flN.any fun u => decide (u = Cond.not (.castable (exN q.1) (exN q.2)))) = true := by decide +kernel
  exact fun q hq => inN (List.all_eq_true.mp h q hq)
theorem nx_of {args : Array Value} {s : State} : ∀ w ∈ WX, w.before args s = true → va_Nw w s := by
  intro w hw h
  have h2 : NXw w = true := (List.mem_filter.mp hw).2
  cases w <;> first | exact absurd h2 Bool.false_ne_true | exact va_Nw.of rfl h | exact h
theorem law_S {s : State} {b : Nat} (hts : ∀ w ∈ lw_tbl, w.before #[Value.ref b] s = true) (hgv : (Jvm.Cond.and given_1 narrow_1).before #[Value.ref b] s = true) : ∃ sa : Nat → Nat, sa 300 = b ∧ ∀ (dC : Nat → ClassId) (dI : Nat → Nat → Nat) (tA : Nat → ClassId), SX (dC, dI, tA, sa) (fun q => s.heap.size ≤ q) s s.heap := by
  have hs := flat_of_before _ hgv
  have hA : ∀ a : Nat, a < s.heap.size → ¬ (fun q => s.heap.size ≤ q) a := fun a h => Nat.not_le.mpr h
  obtain ⟨adK, adV, hS, hE⟩ := vk_Sof (N := 10) (tm := tmS) (len := lenS) (byt := bytS) (A := fun q => s.heap.size ≤ q) (args := #[Value.ref b]) (s := s) (by decide) (fun i hi => hs _ (str_ex i hi)) (fun i hi => hs _ (str_co i hi)) (fun i hi => hs _ (str_ar i hi)) (fun i hi => hs _ (str_le i hi)) (fun i hi j hj => hs _ (str_el i hi j hj))
    (fun i j hi hj hne => (str_ne i j hi hj hne).elim (fun h => Or.inl (hs _ h)) (fun h => Or.inr (hs _ h))) hA
  have hq : ∃ f : Nat, va_Z "jdk/internal/util/Preconditions" "SIOOBE_FORMATTER" "Ljava/util/function/BiFunction;" .null (fun q => s.heap.size ≤ q) s s.heap ∨ va_Z "jdk/internal/util/Preconditions" "SIOOBE_FORMATTER" "Ljava/util/function/BiFunction;" (.ref f) (fun q => s.heap.size ≤ q) s s.heap := by
    rcases va_Zqof (args := #[Value.ref b]) (C := "jdk/internal/util/Preconditions") (n := "SIOOBE_FORMATTER") (d := "Ljava/util/function/BiFunction;") (A := fun q => s.heap.size ≤ q) (hts _ (by decide +kernel)) (hts _ (by decide +kernel)) (hs _ (by decide +kernel)) hA with h | ⟨t, h⟩
    · exact ⟨0, Or.inl h⟩
    · exact ⟨t, Or.inr h⟩
  obtain ⟨f, hf⟩ := hq
  have e1 : ∀ k : Nat, k < 10 → (if k = 300 then b else if k = 200 then f else if 100 ≤ k then adV (k - 100) else adK k) = adK k := fun k hk => by rw [if_neg (by omega), if_neg (by omega), if_neg (by omega)]
  have e2 : ∀ k : Nat, k < 10 → (if 100 + k = 300 then b else if 100 + k = 200 then f else if 100 ≤ 100 + k then adV (100 + k - 100) else adK (100 + k)) = adV k := fun k hk => by
    rw [if_neg (by omega), if_neg (by omega), if_pos (by omega), Nat.add_sub_cancel_left]
  refine ⟨fun k => if k = 300 then b else if k = 200 then f else if 100 ≤ k then adV (k - 100) else adK k, if_pos rfl, fun dC dI tA => ⟨fun k q hk => ?_, ⟨fun i hi => ?_, fun i j hi hj e => ?_⟩, va_Zof (args := #[Value.ref b]) (hts _ (by decide +kernel)) (hts _ (by decide +kernel)) (va_eqt (hs (Cond.eq (.static "java/lang/String" "COMPACT_STRINGS" "Z") (.int 1)) (by decide +kernel))) hA, ?_⟩⟩
  · have hk10 : k < 10 := (List.getElem?_eq_some_iff.mp hk).1
    have h1 := List.all_eq_true.mp str_rf k (List.mem_range.mpr hk10)
    rw [hk] at h1
    obtain ⟨u, hu, e⟩ := List.any_eq_true.mp h1
    have e := of_decide_eq_true e
    subst e
    have h2 := hE k hk10
    unfold tmS at h2
    rw [hk] at h2
    have := vk_R.of (hts _ hu) h2
    show vk_R q.1 q.2.1 q.2.2 (if k = 300 then b else if k = 200 then f else if 100 ≤ k then adV (k - 100) else adK k) s
    rw [e1 k hk10]
    exact this
  · show va_O _ (if i = 300 then b else if i = 200 then f else if 100 ≤ i then adV (i - 100) else adK i) _ _ _ ∧ va_OF _ _ _ _ (if i = 300 then b else if i = 200 then f else if 100 ≤ i then adV (i - 100) else adK i) _ _ _ ∧ va_OF _ _ _ (.ref (if 100 + i = 300 then b else if 100 + i = 200 then f else if 100 ≤ 100 + i then adV (100 + i - 100) else adK (100 + i))) (if i = 300 then b else if i = 200 then f else if 100 ≤ i then adV (i - 100) else adK i) _ _ _ ∧ va_T _ (if 100 + i = 300 then b else if 100 + i = 200 then f else if 100 ≤ 100 + i then adV (100 + i - 100) else adK (100 + i)) _ _ _ _ _
    rw [e1 i hi, e2 i hi]
    exact hS.1 i hi
  · refine hS.2 i j hi hj ?_
    have e : (if i = 300 then b else if i = 200 then f else if 100 ≤ i then adV (i - 100) else adK i) = (if j = 300 then b else if j = 200 then f else if 100 ≤ j then adV (j - 100) else adK j) := e
    rw [e1 i hi, e1 j hj] at e
    exact e
  · rcases hf with h | h
    · exact Or.inl h
    · exact Or.inr h
/-- the empty world -/
def mem0 : Mem := (fun _ _ => 0, fun _ _ => 0, fun _ _ => 0, fun _ _ => 0, fun _ => 0, fun _ => 0, (0, 0, 0))
theorem okm0 : Okm mem0 := ⟨fun _ _ => Nat.le_refl 0, fun _ _ _ => ⟨rfl, rfl, rfl, rfl⟩, fun _ _ h => absurd h (by show ¬ (0 : Nat) = 13; decide)⟩
/-- the law from its entry, if its lifted function comes to its end -/
theorem law_start {p : Program} {e : Env} {s : State} {m : MethodId} {below : List Frame} {meth : Method} {c : Code} (l : Launch) (hflags : l.flags = flags0) {b L : Nat} {xs : Nat → Int32} (hLL : ∃ μ' : Mem, LL_law_ L xs mem0 = some ((), μ') ∧ g_c μ' ≤ 603072 ∧ g_w μ' ≤ 7215210) (C0 : lw_At p s m meth c b L xs) : W p l e room_1 s m #[Value.ref b] below meth c s.heap [] 0 0 (lw_Z below #[Value.ref b] s) (entryFrame m ([Value.ref b] : List Value).toArray 7) := by
  obtain ⟨μ', hLL, hcb⟩ := hLL
  obtain ⟨hx, hb, hr, hml, hown, hts, hX, hbl, hlocks, hgv⟩ := id C0
  have hs := flat_of_before _ hgv
  have hA : ∀ a : Nat, a < s.heap.size → ¬ (fun q => s.heap.size ≤ q) a := fun a h => Nat.not_le.mpr h
  have hstr : l.stackTraces = false := by
    unfold Launch.stackTraces
    rw [hflags]
    decide +kernel
  have hWA : ∀ w ∈ WA, w.before #[Value.ref b] s = true := fun w hw => hts w (List.mem_filter.mp hw).1
  have hWX : ∀ w ∈ WX, w.before #[Value.ref b] s = true := fun w hw => hts w (List.mem_filter.mp hw).1
  obtain ⟨dC, dI, tA, hK⟩ := law_K hWA hWX
  obtain ⟨sa, hsa, hSX⟩ := law_S hts hgv
  have hNX : NX s := fun w hw => nx_of w hw (hWX w hw)
  have hNC : NCX s := fun q hq => va_Nc.of (hs _ (nc_in q hq))
  have hZX : ZX (fun q => s.heap.size ≤ q) s s.heap := ⟨vx_Zqof (args := #[Value.ref b]) (hts _ (by decide +kernel)) (hts _ (by decide +kernel)) (hs _ (by decide +kernel)) hA, vx_Zqof (args := #[Value.ref b]) (hts _ (by decide +kernel)) (hts _ (by decide +kernel)) (hs _ (by decide +kernel)) hA⟩
  let G : Fx := ((p, l, e, s, m, #[Value.ref b], below, meth, c), ((dC, dI, tA, sa), (fun q => s.heap.size ≤ q), fun _ => 0), (7, 100, 0, 0, 0), (fun d => s.drawn.sameBut d lw_cs), roomL, fun _ _ _ _ => lw_Z below #[Value.ref b] s)
  have hF : FxO (some G) RL cL_law_ 7 100 := fun G' h => by
    cases h
    exact ⟨hx, hb, hml, hWA, hown, hK sa, fun q h => h, rfl, rfl, roomL_ok⟩
  have hD : FxLO (some G) := fun G' h => by
    cases h
    exact ⟨⟨hstr, hNX, hZX, hSX dC dI tA⟩, hNC⟩
  have hDr : DrO (some G) := fun G' h d d' h1 h2 => by
    cases h
    exact Drawn.sameBut.trans h1 h2
  have hSc : FxS (some G) L xs := fun G' h => by
    cases h
    exact ⟨by show va_X (sa 300) L xs s s.heap; rw [hsa]; exact hX, by show sa 300 < s.heap.size; rw [hsa]; exact hbl, by show ¬ s.heap.size ≤ sa 300; rw [hsa]; exact Nat.not_le.mpr hbl⟩
  have hQ : FxLQ (some G) := fun G' h => by
    cases h
    exact ⟨hr, hlocks, ⟨b, rfl⟩, rfl, rfl, rfl, rfl, rfl, rfl⟩
  obtain ⟨-, kk⟩ := ctL_law_ hF hD hDr hSc hQ mem0 () μ' hLL
  have hl := lv_entry ([.ref b]) (n := 7) (Nat.le_of_ble_eq_true rfl)
  rw [lg_entry_eq]
  generalize (lg_sl ([.ref b]) ++ List.replicate (7 - (lg_sl ([.ref b])).length) Slot.unset).toArray = ls at hl ⊢
  have hl : lv_has ls 7 [(0, .ref b)] := hl
  have hl2 : lv_has ls 7 (trP (dC, dI, tA, sa) (fun _ => 0) [(0, .retAddr 300)]) := by
    show lv_has ls 7 [(0, .ref (sa 300))]
    rw [hsa]
    exact hl
  have h9 := kk G rfl (fun _ => 0) s.heap [] ls s.drawn ⟨fun k q h => by simp [wl, mem0, g_n] at h, ⟨fun i j p q h => by simp [wl, mem0, g_n] at h, fun k q h => by simp [wl, mem0, g_n] at h⟩, va_S.rf, okm0, fun _ _ => rfl, Nat.le_refl _, Nat.le_refl _, Nat.le_refl _⟩ (Drawn.sameBut.refl s.drawn lw_cs) ⟨fun q hq => by rcases List.mem_singleton.mp hq with rfl; trivial, fun _ h => by cases h⟩ hl2
  unfold Wg at h9
  have e1 : x_R G (g_c μ' - x_c0 G) (g_w μ' - x_w0 G) = room_1 := roomL_of hcb
  rw [e1] at h9
  refine W.base ?_
  exact h9
