/-! ===== ROWS that read and write the world ===== -/
/-- field k of kind c: what the pool's entry idx of the class own says (b: a reference; fin: final) -/
def FL (own : String) (idx c k : Nat) (b fin : Bool) : Prop := ∃ (C : String) (T : u_T) (N : Nat) (ty0 : Nat → FieldType), clL[c]? = some (C, T, N) ∧ c < 13 ∧ k < N ∧ (∀ w ∈ u_ws C T N, w ∈ WA) ∧ Cond.fieldLink own idx (T k).1 (T k).2.1 (T k).2.2.1 ∈ WA ∧ (fko c)[k]? = some b ∧
  (∀ j, j < N → parseFieldDescriptor (T j).2.2.1 = some (ty0 j)) ∧ (∀ a, a < N → ∀ b, b < N → a ≠ b → (T a).2.1 ≠ (T b).2.1) ∧ (T k).2.2.2 = fin ∧ (T k).1 = own ∧ (b = false → ty0 k = .int) ∧ (b = true → (∃ n, ty0 k = .object n) ∨ ∃ t, ty0 k = .array t)
section SM
variable {α : Type} {F : Option Fx} {enc : α → Outc} {own : String} {cc : ByteArray} {nL v : Nat} {pc : Nat} {pls pls' : List (Nat × Value)} {st : List Value} {μ : Mem} {o : Option (α × Mem)}
theorem s_getI (hF : FxO F own cc nL v) {h c f idx : Nat} {fin : Bool} (hd : decode cc pc = .ok (.getfield idx, 3)) (hL : FL own idx c f false fin) (hk : isK μ h c = true) {x : Int32} (hx : g_I μ h f = x) (k : Sim F enc (pc + 3) pls (.int x :: st) μ o) : Sim F enc pc pls (.ref h :: st) μ o := by
  subst hx
  obtain ⟨C, T, N, ty0, hc, hc13, hkN, hin, hl, hb, -⟩ := hL
  obtain ⟨h0, hn, hK⟩ := isK_iff.mp hk
  refine sim_go (fun _ h => h.tl.cn (v := Value.int _) trivial) (fun G hG ad H locs ls d mc ms cells slots Q hR hl9 kk => ?_) k
  have he : (wl (x_g G) ad μ)[h - 1]? = some (ad h, .inr (c, fvs ad (g_I μ h) (g_R μ h) c)) := by rw [wl_at h0 hn, en_O hK hc13]
  exact va_get (v := .int (g_I μ h f)) (hF G hG).1 (hF G hG).2.1 ((hF G hG).ht d) hin (hF G hG).2.2.2.2.1 ((hF G hG).hK d) hR.1 (h - 1) he hc f hkN ((hF G hG).ht d _ hl) (fun _ q => q) (fvs_at hb) hd (kk ls hl9)
theorem fval_r {ad : Nat → Nat} {fI : Nat → Int32} {fR : Nat → Nat} {k : Nat} (hz : 0 < fR k) : fval ad fI fR k true = .ref (ad (fR k)) := by
  have : ¬ fR k = 0 := by omega
  simp [fval, ro, this, va_rf]
theorem fval_n {ad : Nat → Nat} {fI : Nat → Int32} {fR : Nat → Nat} {k : Nat} (hz : fR k = 0) : fval ad fI fR k true = .null := by
  simp [fval, ro, hz, va_rf]
theorem s_getR (hF : FxO F own cc nL v) {h c f idx : Nat} {fin : Bool} (hd : decode cc pc = .ok (.getfield idx, 3)) (hL : FL own idx c f true fin) (hk : isK μ h c = true) (hz : 0 < g_R μ h f) {x : Nat} (hx : g_R μ h f = x) (k : Sim F enc (pc + 3) pls (.ref x :: st) μ o) : Sim F enc pc pls (.ref h :: st) μ o := by
  subst hx
  obtain ⟨C, T, N, ty0, hc, hc13, hkN, hin, hl, hb, -⟩ := hL
  obtain ⟨h0, hn, hK⟩ := isK_iff.mp hk
  refine sim_go (fun ho h9 => h9.tl.cn (v := Value.ref _) (ho.1 h f)) (fun G hG ad H locs ls d mc ms cells slots Q hR hl9 kk => ?_) k
  have he : (wl (x_g G) ad μ)[h - 1]? = some (ad h, .inr (c, fvs ad (g_I μ h) (g_R μ h) c)) := by rw [wl_at h0 hn, en_O hK hc13]
  exact va_get (v := .ref (ad (g_R μ h f))) (hF G hG).1 (hF G hG).2.1 ((hF G hG).ht d) hin (hF G hG).2.2.2.2.1 ((hF G hG).hK d) hR.1 (h - 1) he hc f hkN ((hF G hG).ht d _ hl) (fun _ q => q) ((fvs_at hb).trans (congrArg some (fval_r hz))) hd (kk ls hl9)
theorem s_getN (hF : FxO F own cc nL v) {h c f idx : Nat} {fin : Bool} (hd : decode cc pc = .ok (.getfield idx, 3)) (hL : FL own idx c f true fin) (hk : isK μ h c = true) (hz : g_R μ h f = 0) (k : Sim F enc (pc + 3) pls (.null :: st) μ o) : Sim F enc pc pls (.ref h :: st) μ o := by
  obtain ⟨C, T, N, ty0, hc, hc13, hkN, hin, hl, hb, -⟩ := hL
  obtain ⟨h0, hn, hK⟩ := isK_iff.mp hk
  refine sim_go (fun ho h9 => h9.tl.cn (v := Value.null) trivial) (fun G hG ad H locs ls d mc ms cells slots Q hR hl9 kk => ?_) k
  have he : (wl (x_g G) ad μ)[h - 1]? = some (ad h, .inr (c, fvs ad (g_I μ h) (g_R μ h) c)) := by rw [wl_at h0 hn, en_O hK hc13]
  exact va_get (v := .null) (hF G hG).1 (hF G hG).2.1 ((hF G hG).ht d) hin (hF G hG).2.2.2.2.1 ((hF G hG).hK d) hR.1 (h - 1) he hc f hkN ((hF G hG).ht d _ hl) (fun _ q => q) ((fvs_at hb).trans (congrArg some (fval_n hz))) hd (kk ls hl9)
/-- a step that writes the world, making nothing -/
theorem sim_wr {pc' : Nat} {pls' : List (Nat × Value)} {st' : List Value} {μ1 : Mem} (hn : g_n μ1 = g_n μ) (hc : g_c μ1 = g_c μ) (hw : g_w μ1 = g_w μ) (hm : Mono μ μ1) (hok : Okm μ → VOK (g_n μ) pls st → Okm μ1) (hv : VOK (g_n μ) pls st → VOK (g_n μ) pls' st')
    (h : ∀ (G : Fx), F = some G → ∀ (ad : Nat → Nat) (H : Heap) (locs : List Loc) (ls : Array Slot) (d : Drawn) (mc ms cells slots : Nat) (Q : State → Prop), RelH G ad μ H locs → VOK (g_n μ) pls st → lv_has ls (x_nL G) (trP (x_g G) ad pls) →
      (∀ (H1 : Heap) (locs1 : List Loc), va_P (gDI (x_g G)) clL (wl (x_g G) ad μ1) H1 → va_D (x_A G) (wl (x_g G) ad μ1) → va_S (x_A G) (x_s G).heap H1 locs1 → ∀ ls' : Array Slot, lv_has ls' (x_nL G) (trP (x_g G) ad pls') → Wg G mc ms d H1 locs1 cells slots Q pc' ls' (st'.map (tr (x_g G) ad))) → Wg G mc ms d H locs cells slots Q pc ls (st.map (tr (x_g G) ad)))
    (k : Sim F enc pc' pls' st' μ1 o) : Sim F enc pc pls st μ o := by
  intro r μ' ho
  obtain ⟨hm', kk⟩ := k r μ' ho
  refine ⟨hm.tr hm', fun G hG ad H locs ls d hR hd hV hl => ?_⟩
  refine h G hG ad H locs ls d _ _ _ _ _ hR hV hl fun H1 locs1 hP hD hS ls' hl' => ?_
  have hRR : RelH G ad μ1 H1 locs1 := ⟨hP, hD, hS, hok hR.2.2.2.1 hV, hR.2.2.2.2.1, by rw [hn]; exact hR.2.2.2.2.2.1, by rw [hc]; exact hR.2.2.2.2.2.2.1, by rw [hw]; exact hR.2.2.2.2.2.2.2⟩
  have := kk G hG ad H1 locs1 ls' d hRR hd (by rw [hn]; exact hv hV) hl'
  rw [hc, hw] at this
  exact this
theorem Mono.pI {h k : Nat} {v : Int32} : Mono μ (p_I μ h k v) := ⟨Nat.le_refl _, Nat.le_refl _, Nat.le_refl _, fun _ _ => ⟨rfl, rfl⟩⟩
theorem Mono.pL {h k : Nat} {v : Int64} : Mono μ (p_L μ h k v) := ⟨Nat.le_refl _, Nat.le_refl _, Nat.le_refl _, fun _ _ => ⟨rfl, rfl⟩⟩
theorem Mono.pD {h k : Nat} {v : UInt64} : Mono μ (p_D μ h k v) := ⟨Nat.le_refl _, Nat.le_refl _, Nat.le_refl _, fun _ _ => ⟨rfl, rfl⟩⟩
theorem Mono.pR {h k : Nat} {v : Nat} : Mono μ (p_R μ h k v) := ⟨Nat.le_refl _, Nat.le_refl _, Nat.le_refl _, fun _ _ => ⟨rfl, rfl⟩⟩
theorem fvs_pI {ad : Nat → Nat} {h c f : Nat} {x : Int32} (hb : (fko c)[f]? = some false) : (fvs ad (g_I μ h) (g_R μ h) c).set f (.int x) = fvs ad (g_I (p_I μ h f x) h) (g_R (p_I μ h f x) h) c := by
  refine fvs_set (fun b hb' => ?_) (fun j b hj => ?_)
  · rw [hb] at hb'
    cases hb'
    show Value.int (up2 μ.1 h f x h f) = _
    simp [up2]
  · cases b
    · show Value.int (up2 μ.1 h f x h j) = _
      simp [up2, hj, fval, g_I]
    · rfl
theorem fvs_pR {ad : Nat → Nat} {h c f x : Nat} (hx : 0 < x) (hb : (fko c)[f]? = some true) : (fvs ad (g_I μ h) (g_R μ h) c).set f (.ref (ad x)) = fvs ad (g_I (p_R μ h f x) h) (g_R (p_R μ h f x) h) c := by
  refine fvs_set (fun b hb' => ?_) (fun j b hj => ?_)
  · rw [hb] at hb'
    cases hb'
    show va_rf (ro ad (up2 μ.2.2.2.1 h f x h f)) = _
    have : ¬ x = 0 := by omega
    simp [up2, ro, this, va_rf]
  · cases b
    · rfl
    · show va_rf (ro ad (up2 μ.2.2.2.1 h f x h j)) = _
      simp [up2, hj, fval, g_R]
theorem s_putI (hF : FxO F own cc nL v) {h c f idx : Nat} {x : Int32} (hd : decode cc pc = .ok (.putfield idx, 3)) (hL : FL own idx c f false false) (hk : isK μ h c = true) (k : Sim F enc (pc + 3) pls st (p_I μ h f x) o) : Sim F enc pc pls (.int x :: .ref h :: st) μ o := by
  obtain ⟨C, T, N, ty0, hc, hc13, hkN, hin, hl, hb, hty, hnm, hfin, hdc, hti, -⟩ := hL
  obtain ⟨h0, hn, hK⟩ := isK_iff.mp hk
  refine sim_wr (μ1 := p_I μ h f x) rfl rfl rfl Mono.pI (fun ho _ => ho.pI hn fun e => absurd (hK.symm.trans e) (by omega)) (fun h9 => h9.tl.tl) (fun G hG ad H locs ls d mc ms cells slots Q hR _ hl9 kk => ?_) k
  have he : (wl (x_g G) ad μ)[h - 1]? = some (ad h, .inr (c, fvs ad (g_I μ h) (g_R μ h) c)) := by rw [wl_at h0 hn, en_O hK hc13]
  have e1 : (wl (x_g G) ad μ).set (h - 1) (ad h, .inr (c, (fvs ad (g_I μ h) (g_R μ h) c).set f (.int x))) = wl (x_g G) ad (p_I μ h f x) := by
    rw [fvs_pI hb]
    exact wl_set h0 rfl (en_O (show g_K (p_I μ h f x) h = c from hK) hc13) (fun a ha => en_pI ha)
  have hty1 := hti rfl
  refine va_put (v := .int x) (ty := .int) (hF G hG).1 (hF G hG).2.1 ((hF G hG).ht d) hin ty0 hty hnm (hF G hG).2.2.2.2.1 ((hF G hG).hK d) hR.1 hR.2.1 hR.2.2.1 (h - 1) he hc f hkN ((hF G hG).ht d _ hl) (fun _ q => q) hfin (by rw [hty f hkN, hty1]) rfl rfl (by rw [fvs_len]; exact (List.getElem?_eq_some_iff.mp hb).1) hd (fun H1 locs1 hP hD hS => ?_)
  rw [e1] at hP hD
  exact kk H1 locs1 hP hD hS ls hl9
theorem nar_ref {ty : FieldType} {a : Nat} (h : (∃ n, ty = .object n) ∨ ∃ t, ty = .array t) : narrow ty (.ref a) = .ref a ∧ fits ty (.ref a) = true := by
  rcases h with ⟨n, rfl⟩ | ⟨t, rfl⟩ <;> exact ⟨rfl, rfl⟩
theorem s_putR (hF : FxO F own cc nL v) {h c f idx : Nat} {x : Nat} (hd : decode cc pc = .ok (.putfield idx, 3)) (hL : FL own idx c f true false) (hk : isK μ h c = true) (hx : 0 < x) (k : Sim F enc (pc + 3) pls st (p_R μ h f x) o) : Sim F enc pc pls (.ref x :: .ref h :: st) μ o := by
  obtain ⟨C, T, N, ty0, hc, hc13, hkN, hin, hl, hb, hty, hnm, hfin, hdc, -, htr⟩ := hL
  obtain ⟨h0, hn, hK⟩ := isK_iff.mp hk
  refine sim_wr (μ1 := p_R μ h f x) rfl rfl rfl Mono.pR (fun ho h9 => ho.pR hn h9.hd) (fun h9 => h9.tl.tl) (fun G hG ad H locs ls d mc ms cells slots Q hR _ hl9 kk => ?_) k
  have he : (wl (x_g G) ad μ)[h - 1]? = some (ad h, .inr (c, fvs ad (g_I μ h) (g_R μ h) c)) := by rw [wl_at h0 hn, en_O hK hc13]
  have e1 : (wl (x_g G) ad μ).set (h - 1) (ad h, .inr (c, (fvs ad (g_I μ h) (g_R μ h) c).set f (.ref (ad x)))) = wl (x_g G) ad (p_R μ h f x) := by
    rw [fvs_pR hx hb]
    exact wl_set h0 rfl (en_O (show g_K (p_R μ h f x) h = c from hK) hc13) (fun a ha => en_pR ha)
  refine va_put (v := .ref (ad x)) (ty := ty0 f) (hF G hG).1 (hF G hG).2.1 ((hF G hG).ht d) hin ty0 hty hnm (hF G hG).2.2.2.2.1 ((hF G hG).hK d) hR.1 hR.2.1 hR.2.2.1 (h - 1) he hc f hkN ((hF G hG).ht d _ hl) (fun _ q => q) hfin (hty f hkN) (nar_ref (htr rfl)).1 (nar_ref (htr rfl)).2 (by rw [fvs_len]; exact (List.getElem?_eq_some_iff.mp hb).1) hd (fun H1 locs1 hP hD hS => ?_)
  rw [e1] at hP hD
  exact kk H1 locs1 hP hD hS ls hl9
/-- a final field, in a constructor -/
theorem s_putRF (hF : FxO F own cc nL v) {h c f idx : Nat} {x : Nat} (hi : ∀ G, F = some G → (x_y G).name = "<init>") (hd : decode cc pc = .ok (.putfield idx, 3)) (hL : FL own idx c f true true) (hk : isK μ h c = true) (hx : 0 < x) (k : Sim F enc (pc + 3) pls st (p_R μ h f x) o) : Sim F enc pc pls (.ref x :: .ref h :: st) μ o := by
  obtain ⟨C, T, N, ty0, hc, hc13, hkN, hin, hl, hb, hty, hnm, hfin, hdc, -, htr⟩ := hL
  obtain ⟨h0, hn, hK⟩ := isK_iff.mp hk
  refine sim_wr (μ1 := p_R μ h f x) rfl rfl rfl Mono.pR (fun ho h9 => ho.pR hn h9.hd) (fun h9 => h9.tl.tl) (fun G hG ad H locs ls d mc ms cells slots Q hR _ hl9 kk => ?_) k
  have he : (wl (x_g G) ad μ)[h - 1]? = some (ad h, .inr (c, fvs ad (g_I μ h) (g_R μ h) c)) := by rw [wl_at h0 hn, en_O hK hc13]
  have e1 : (wl (x_g G) ad μ).set (h - 1) (ad h, .inr (c, (fvs ad (g_I μ h) (g_R μ h) c).set f (.ref (ad x)))) = wl (x_g G) ad (p_R μ h f x) := by
    rw [fvs_pR hx hb]
    exact wl_set h0 rfl (en_O (show g_K (p_R μ h f x) h = c from hK) hc13) (fun a ha => en_pR ha)
  refine va_putF (v := .ref (ad x)) (ty := ty0 f) (hF G hG).1 (hF G hG).2.1 ((hF G hG).ht d) hin ty0 hty hnm (hF G hG).2.2.2.2.1 ((hF G hG).hK d) hR.1 hR.2.1 hR.2.2.1 (h - 1) he hc f hkN ((hF G hG).ht d _ hl) (fun _ q => q) hfin (hi G hG) hdc (hty f hkN) (nar_ref (htr rfl)).1 (nar_ref (htr rfl)).2 (by rw [fvs_len]; exact (List.getElem?_eq_some_iff.mp hb).1) hd (fun H1 locs1 hP hD hS => ?_)
  rw [e1] at hP hD
  exact kk H1 locs1 hP hD hS ls hl9
theorem en_at {g : Gx} {ad : Nat → Nat} {h : Nat} {e : va_E} (h0 : 0 < h) (hn : h ≤ g_n μ) (he : en g ad μ h = e) : (wl g ad μ)[h - 1]? = some (ad h, e) := by rw [wl_at h0 hn, he]
theorem s_iaload (hF : FxO F own cc nL v) {h : Nat} {i : Int32} (hd : decode cc pc = .ok (.iaload, 1)) (hk : inA μ h 15 i = true) {x : Int32} (hx : g_I μ h i.toNatClampNeg = x) (k : Sim F enc (pc + 1) pls (.int x :: st) μ o) : Sim F enc pc pls (.int i :: .ref h :: st) μ o := by
  subst hx
  obtain ⟨hk, hi⟩ := inA_iff.mp hk
  obtain ⟨h0, hn, hK⟩ := isK_iff.mp hk
  refine sim_go (fun _ h => h.tl.tl.cn (v := Value.int _) trivial) (fun G hG ad H locs ls d mc ms cells slots Q hR hl9 kk => ?_) k
  exact va_iald (hF G hG).1 (hF G hG).2.1 ((hF G hG).hK d) hR.1 (h - 1) 2 (en_at h0 hn (en_I hK)) rfl hi hd (kk ls hl9)
theorem s_baload (hF : FxO F own cc nL v) {h : Nat} {i : Int32} (hd : decode cc pc = .ok (.baload, 1)) (hk : inA μ h 13 i = true) {x : Int32} (hx : g_I μ h i.toNatClampNeg = x) (k : Sim F enc (pc + 1) pls (.int x :: st) μ o) : Sim F enc pc pls (.int i :: .ref h :: st) μ o := by
  subst hx
  obtain ⟨hk, hi⟩ := inA_iff.mp hk
  obtain ⟨h0, hn, hK⟩ := isK_iff.mp hk
  refine sim_go (fun _ h => h.tl.tl.cn (v := Value.int _) trivial) (fun G hG ad H locs ls d mc ms cells slots Q hR hl9 kk => ?_) k
  exact va_bald (hF G hG).1 (hF G hG).2.1 ((hF G hG).hK d) hR.1 (h - 1) 0 (en_at h0 hn (en_B hK)) rfl hi hd (kk ls hl9)
theorem s_laload (hF : FxO F own cc nL v) {h : Nat} {i : Int32} (hd : decode cc pc = .ok (.laload, 1)) (hk : inA μ h 16 i = true) {x : Int64} (hx : g_L μ h i.toNatClampNeg = x) (k : Sim F enc (pc + 1) pls (.long x :: st) μ o) : Sim F enc pc pls (.int i :: .ref h :: st) μ o := by
  subst hx
  obtain ⟨hk, hi⟩ := inA_iff.mp hk
  obtain ⟨h0, hn, hK⟩ := isK_iff.mp hk
  refine sim_go (fun _ h => h.tl.tl.cn (v := Value.long _) trivial) (fun G hG ad H locs ls d mc ms cells slots Q hR hl9 kk => ?_) k
  exact va_lald (hF G hG).1 (hF G hG).2.1 ((hF G hG).hK d) hR.1 (h - 1) 3 (en_at h0 hn (en_L hK)) rfl hi hd (kk ls hl9)
theorem s_daload (hF : FxO F own cc nL v) {h : Nat} {i : Int32} (hd : decode cc pc = .ok (.daload, 1)) (hk : inA μ h 14 i = true) {x : UInt64} (hx : g_D μ h i.toNatClampNeg = x) (k : Sim F enc (pc + 1) pls (.double x :: st) μ o) : Sim F enc pc pls (.int i :: .ref h :: st) μ o := by
  subst hx
  obtain ⟨hk, hi⟩ := inA_iff.mp hk
  obtain ⟨h0, hn, hK⟩ := isK_iff.mp hk
  refine sim_go (fun _ h => h.tl.tl.cn (v := Value.double _) trivial) (fun G hG ad H locs ls d mc ms cells slots Q hR hl9 kk => ?_) k
  exact va_dald (hF G hG).1 (hF G hG).2.1 ((hF G hG).hK d) hR.1 (h - 1) 1 (en_at h0 hn (en_D hK)) rfl hi hd (kk ls hl9)
/-- array kinds of references, by kind -/
def tyK (c : Nat) : FieldType := if c = 17 then .object RX5 else if c = 18 then .object RX8 else .array .int
theorem tyK_at {g : Gx} {c : Nat} (h1 : 16 < c) (h2 : c < 20) : (tysL g)[c - 13]? = some (g.2.2.1 c, tyK c) := by
  have : c = 17 ∨ c = 18 ∨ c = 19 := by omega
  rcases this with rfl | rfl | rfl <;> rfl
theorem va_ro (ad : Nat → Nat) (r : Nat) (hz : 0 < r) : va_rf (ro ad r) = .ref (ad r) := by
  have : ¬ r = 0 := by omega
  simp [ro, this, va_rf]
theorem s_aaload (hF : FxO F own cc nL v) {h c : Nat} {i : Int32} (hd : decode cc pc = .ok (.aaload, 1)) (h1 : 16 < c) (h2 : c < 20) (hk : inA μ h c i = true) (hz : 0 < g_R μ h i.toNatClampNeg) {x : Nat} (hx : g_R μ h i.toNatClampNeg = x) (k : Sim F enc (pc + 1) pls (.ref x :: st) μ o) : Sim F enc pc pls (.int i :: .ref h :: st) μ o := by
  subst hx
  obtain ⟨hk, hin⟩ := inA_iff.mp hk
  obtain ⟨h0, hn, hK⟩ := isK_iff.mp hk
  refine sim_go (fun ho h9 => h9.tl.tl.cn (v := Value.ref _) (ho.1 _ _)) (fun G hG ad H locs ls d mc ms cells slots Q hR hl9 kk => ?_) k
  have hlt : i.toNatClampNeg < g_N μ h := Nat.not_le.mp fun q => hin (Or.inr q)
  have ha := en_at (g := x_g G) (ad := ad) h0 hn (en_R hK h1)
  have hkk := kk ls hl9
  refine W.aald (v := va_rf (ro ad (g_R μ h i.toNatClampNeg))) (ty := tyK c) (hF G hG).1 (hF G hG).2.1 (hR.1 _ _ ha) (((((hF G hG).hK d).2 _ _ (tyK_at h1 h2)).1) (g_N μ h) (fun j => va_rf (ro ad (g_R μ h j)))) ?_ (fun q => by cases q) (by show ¬ (i < 0 ∨ (arrV _ _ _).slots.size ≤ _); rw [arrV_size]; exact hin) (by show (arrV _ _ _).slots[_]? = _; rw [arrV_read _ _ hlt]) rfl rfl hd (by rw [va_ro ad _ hz]; exact hkk)
  unfold tyK
  split
  · rfl
  · split <;> rfl
theorem s_aaloadN (hF : FxO F own cc nL v) {h c : Nat} {i : Int32} (hd : decode cc pc = .ok (.aaload, 1)) (h1 : 16 < c) (h2 : c < 20) (hk : inA μ h c i = true) (hz : g_R μ h i.toNatClampNeg = 0) (k : Sim F enc (pc + 1) pls (.null :: st) μ o) : Sim F enc pc pls (.int i :: .ref h :: st) μ o := by
  obtain ⟨hk, hin⟩ := inA_iff.mp hk
  obtain ⟨h0, hn, hK⟩ := isK_iff.mp hk
  refine sim_go (fun ho h9 => h9.tl.tl.cn (v := Value.null) trivial) (fun G hG ad H locs ls d mc ms cells slots Q hR hl9 kk => ?_) k
  have hlt : i.toNatClampNeg < g_N μ h := Nat.not_le.mp fun q => hin (Or.inr q)
  have ha := en_at (g := x_g G) (ad := ad) h0 hn (en_R hK h1)
  have hkk := kk ls hl9
  refine W.aald (v := va_rf (ro ad (g_R μ h i.toNatClampNeg))) (ty := tyK c) (hF G hG).1 (hF G hG).2.1 (hR.1 _ _ ha) (((((hF G hG).hK d).2 _ _ (tyK_at h1 h2)).1) (g_N μ h) (fun j => va_rf (ro ad (g_R μ h j)))) ?_ (fun q => by cases q) (by show ¬ (i < 0 ∨ (arrV _ _ _).slots.size ≤ _); rw [arrV_size]; exact hin) (by show (arrV _ _ _).slots[_]? = _; rw [arrV_read _ _ hlt]) rfl rfl hd (by rw [hz]; exact hkk)
  unfold tyK
  split
  · rfl
  · split <;> rfl
theorem s_iastore (hF : FxO F own cc nL v) {h : Nat} {i x : Int32} (hd : decode cc pc = .ok (.iastore, 1)) (hk : inA μ h 15 i = true) (k : Sim F enc (pc + 1) pls st (p_I μ h i.toNatClampNeg x) o) : Sim F enc pc pls (.int x :: .int i :: .ref h :: st) μ o := by
  obtain ⟨hk, hi⟩ := inA_iff.mp hk
  obtain ⟨h0, hn, hK⟩ := isK_iff.mp hk
  refine sim_wr (μ1 := p_I μ h i.toNatClampNeg x) rfl rfl rfl Mono.pI (fun ho _ => ho.pI hn fun e => absurd (hK.symm.trans e) (by omega)) (fun h9 => h9.tl.tl.tl) (fun G hG ad H locs ls d mc ms cells slots Q hR _ hl9 kk => ?_) k
  refine va_iast (hF G hG).1 (hF G hG).2.1 ((hF G hG).hK d) hR.1 hR.2.1 hR.2.2.1 (h - 1) 2 (en_at h0 hn (en_I hK)) rfl hi hd (fun H1 locs1 hP hD hS => ?_)
  have e1 : (wl (x_g G) ad μ).set (h - 1) (ad h, .inl ((x_g G).2.2.1 15, g_N μ h, .inl (upd (g_I μ h) i.toNatClampNeg x))) = wl (x_g G) ad (p_I μ h i.toNatClampNeg x) :=
    wl_set h0 rfl ((en_I (show g_K (p_I μ h i.toNatClampNeg x) h = 15 from hK)).trans (by show Sum.inl (_, _, Sum.inl (up2 μ.1 h i.toNatClampNeg x h)) = _; rw [up2_s]; rfl)) (fun a ha => en_pI ha)
  rw [e1] at hP hD
  exact kk H1 locs1 hP hD hS ls hl9
theorem s_bastore (hF : FxO F own cc nL v) {h : Nat} {i x : Int32} (hd : decode cc pc = .ok (.bastore, 1)) (hk : inA μ h 13 i = true) (k : Sim F enc (pc + 1) pls st (p_I μ h i.toNatClampNeg (vp_nar .byte x)) o) : Sim F enc pc pls (.int x :: .int i :: .ref h :: st) μ o := by
  obtain ⟨hk, hi⟩ := inA_iff.mp hk
  obtain ⟨h0, hn, hK⟩ := isK_iff.mp hk
  refine sim_wr (μ1 := p_I μ h i.toNatClampNeg (vp_nar .byte x)) rfl rfl rfl Mono.pI (fun ho _ => ho.pI hn fun _ => by rw [vp_nar_byte]; exact pk_fb x) (fun h9 => h9.tl.tl.tl) (fun G hG ad H locs ls d mc ms cells slots Q hR _ hl9 kk => ?_) k
  refine va_bast (hF G hG).1 (hF G hG).2.1 ((hF G hG).hK d) hR.1 hR.2.1 hR.2.2.1 (h - 1) 0 (en_at h0 hn (en_B hK)) rfl hi hd (fun H1 locs1 hP hD hS => ?_)
  have e1 : (wl (x_g G) ad μ).set (h - 1) (ad h, .inl ((x_g G).2.2.1 13, g_N μ h, .inl (upd (g_I μ h) i.toNatClampNeg (vp_nar .byte x)))) = wl (x_g G) ad (p_I μ h i.toNatClampNeg (vp_nar .byte x)) :=
    wl_set h0 rfl ((en_B (show g_K (p_I μ h i.toNatClampNeg (vp_nar .byte x)) h = 13 from hK)).trans (by show Sum.inl (_, _, Sum.inl (up2 μ.1 h i.toNatClampNeg (vp_nar .byte x) h)) = _; rw [up2_s]; rfl)) (fun a ha => en_pI ha)
  rw [e1] at hP hD
  exact kk H1 locs1 hP hD hS ls hl9
theorem s_lastore (hF : FxO F own cc nL v) {h : Nat} {i : Int32} {x : Int64} (hd : decode cc pc = .ok (.lastore, 1)) (hk : inA μ h 16 i = true) (k : Sim F enc (pc + 1) pls st (p_L μ h i.toNatClampNeg x) o) : Sim F enc pc pls (.long x :: .int i :: .ref h :: st) μ o := by
  obtain ⟨hk, hi⟩ := inA_iff.mp hk
  obtain ⟨h0, hn, hK⟩ := isK_iff.mp hk
  refine sim_wr (μ1 := p_L μ h i.toNatClampNeg x) rfl rfl rfl Mono.pL (fun ho _ => ho.pL hn) (fun h9 => h9.tl.tl.tl) (fun G hG ad H locs ls d mc ms cells slots Q hR _ hl9 kk => ?_) k
  refine va_last (hF G hG).1 (hF G hG).2.1 ((hF G hG).hK d) hR.1 hR.2.1 hR.2.2.1 (h - 1) 3 (en_at h0 hn (en_L hK)) rfl hi hd (fun H1 locs1 hP hD hS => ?_)
  have e1 : (wl (x_g G) ad μ).set (h - 1) (ad h, .inl ((x_g G).2.2.1 16, g_N μ h, .inr (.inl (vp_updL (g_L μ h) i.toNatClampNeg x)))) = wl (x_g G) ad (p_L μ h i.toNatClampNeg x) :=
    wl_set h0 rfl ((en_L (show g_K (p_L μ h i.toNatClampNeg x) h = 16 from hK)).trans (by show Sum.inl (_, _, Sum.inr (Sum.inl (up2 μ.2.1 h i.toNatClampNeg x h))) = _; rw [up2_s]; rfl)) (fun a ha => en_pL ha)
  rw [e1] at hP hD
  exact kk H1 locs1 hP hD hS ls hl9
theorem s_dastore (hF : FxO F own cc nL v) {h : Nat} {i : Int32} {x : UInt64} (hd : decode cc pc = .ok (.dastore, 1)) (hk : inA μ h 14 i = true) (k : Sim F enc (pc + 1) pls st (p_D μ h i.toNatClampNeg x) o) : Sim F enc pc pls (.double x :: .int i :: .ref h :: st) μ o := by
  obtain ⟨hk, hi⟩ := inA_iff.mp hk
  obtain ⟨h0, hn, hK⟩ := isK_iff.mp hk
  refine sim_wr (μ1 := p_D μ h i.toNatClampNeg x) rfl rfl rfl Mono.pD (fun ho _ => ho.pD hn) (fun h9 => h9.tl.tl.tl) (fun G hG ad H locs ls d mc ms cells slots Q hR _ hl9 kk => ?_) k
  refine va_dast (hF G hG).1 (hF G hG).2.1 ((hF G hG).hK d) hR.1 hR.2.1 hR.2.2.1 (h - 1) 1 (en_at h0 hn (en_D hK)) rfl hi hd (fun H1 locs1 hP hD hS => ?_)
  have e1 : (wl (x_g G) ad μ).set (h - 1) (ad h, .inl ((x_g G).2.2.1 14, g_N μ h, .inr (.inr (.inr (.inl (vf_upd (g_D μ h) i.toNatClampNeg x)))))) = wl (x_g G) ad (p_D μ h i.toNatClampNeg x) :=
    wl_set h0 rfl ((en_D (show g_K (p_D μ h i.toNatClampNeg x) h = 14 from hK)).trans (by show Sum.inl (_, _, Sum.inr (Sum.inr (Sum.inr (Sum.inl (up2 μ.2.2.1 h i.toNatClampNeg x h))))) = _; rw [up2_s]; rfl)) (fun a ha => en_pD ha)
  rw [e1] at hP hD
  exact kk H1 locs1 hP hD hS ls hl9
/-- an object into an array of its kind -/
theorem s_aastore (hF : FxO F own cc nL v) {h c ck x : Nat} {i : Int32} (hd : decode cc pc = .ok (.aastore, 1)) (hc : c = 17 ∧ ck = 5 ∨ c = 18 ∧ ck = 8) (hk : inA μ h c i = true) (hx : isK μ x ck = true) (k : Sim F enc (pc + 1) pls st (p_R μ h i.toNatClampNeg x) o) : Sim F enc pc pls (.ref x :: .int i :: .ref h :: st) μ o := by
  obtain ⟨hk, hi⟩ := inA_iff.mp hk
  obtain ⟨h0, hn, hK⟩ := isK_iff.mp hk
  obtain ⟨x0, xn, xK⟩ := isK_iff.mp hx
  have hc16 : 16 < c := by omega
  refine sim_wr (μ1 := p_R μ h i.toNatClampNeg x) rfl rfl rfl Mono.pR (fun ho h9 => ho.pR hn h9.hd) (fun h9 => h9.tl.tl.tl) (fun G hG ad H locs ls d mc ms cells slots Q hR _ hl9 kk => ?_) k
  have e1 : (wl (x_g G) ad μ).set (h - 1) (ad h, .inl ((x_g G).2.2.1 c, g_N μ h, .inr (.inr (.inr (.inr (va_up (fun j => ro ad (g_R μ h j)) i.toNatClampNeg (some (ad x)))))))) = wl (x_g G) ad (p_R μ h i.toNatClampNeg x) := by
    refine wl_set h0 rfl ((en_R (show g_K (p_R μ h i.toNatClampNeg x) h = c from hK) hc16).trans ?_) (fun a ha => en_pR ha)
    have e2 : (fun j => ro ad (g_R (p_R μ h i.toNatClampNeg x) h j)) = va_up (fun j => ro ad (g_R μ h j)) i.toNatClampNeg (some (ad x)) := by
      funext j
      show ro ad (up2 μ.2.2.2.1 h i.toNatClampNeg x h j) = if j = i.toNatClampNeg then _ else _
      have : ¬ x = 0 := by omega
      by_cases hj : j = i.toNatClampNeg
      · simp [up2, hj, ro, this]
      · unfold up2
        rw [if_pos rfl, if_neg hj, if_neg hj]
        rfl
    rw [e2]
    rfl
  have ha := en_at (g := x_g G) (ad := ad) h0 hn (en_R hK hc16)
  rcases hc with ⟨rfl, rfl⟩ | ⟨rfl, rfl⟩
  · refine va_astq (hF G hG).1 (hF G hG).2.1 ((hF G hG).hK d) hR.1 hR.2.1 hR.2.2.1 (h - 1) 4 (x - 1) 5 (r := (RX5, TX5, 8)) ha rfl (en_at x0 xn (en_O xK (by omega))) rfl hi hd (fun H1 locs1 hP hD hS => ?_)
    rw [e1] at hP hD
    exact kk H1 locs1 hP hD hS ls hl9
  · refine va_astq (hF G hG).1 (hF G hG).2.1 ((hF G hG).hK d) hR.1 hR.2.1 hR.2.2.1 (h - 1) 5 (x - 1) 8 (r := (RX8, TX8, 5)) ha rfl (en_at x0 xn (en_O xK (by omega))) rfl hi hd (fun H1 locs1 hP hD hS => ?_)
    rw [e1] at hP hD
    exact kk H1 locs1 hP hD hS ls hl9
theorem s_alenI (hF : FxO F own cc nL v) {h : Nat} (hd : decode cc pc = .ok (.arraylength, 1)) (hk : isK μ h 15 = true) (k : Sim F enc (pc + 1) pls (.int (Int32.ofNat (g_N μ h)) :: st) μ o) : Sim F enc pc pls (.ref h :: st) μ o := by
  obtain ⟨h0, hn, hK⟩ := isK_iff.mp hk
  refine sim_go (fun _ h => h.tl.cn (v := Value.int _) trivial) (fun G hG ad H locs ls d mc ms cells slots Q hR hl9 kk => ?_) k
  exact va_alen (hF G hG).1 (hF G hG).2.1 ((hF G hG).hK d) hR.1 (h - 1) 2 (en_at h0 hn (en_I hK)) (ty := .int) rfl rfl hd (kk ls hl9)
end SM
