/-! new int[n][m]; System.arraycopy of numbers. -/
def mR (ρ : Rf) (n x : Nat) : Rf := fun q => if q = n then (fun j => if j < x then some (n + 1 + j) else none) else if n < q ∧ q ≤ n + x then (fun _ => none) else ρ q
def mS (σ : St) (n x : Nat) : St := (fun q => if n ≤ q ∧ q ≤ n + x then (fun _ => 0) else σ.1 q, fun q => if n ≤ q ∧ q ≤ n + x then (fun _ => 0) else σ.2 q)
theorem sln_rows {n y : Nat} : ∀ {x : Nat}, (∀ j, j < x → (shp (n + j)).2 = y) → sln (n + x) = sln n + x * y
  | 0, _ => by simp
  | x + 1, h => by
    have ih := sln_rows (x := x) (fun j hj => h j (by omega))
    show sln (n + x) + (shp (n + x)).2 = _
    rw [ih, h x (by omega), Nat.succ_mul, Nat.add_assoc]
theorem arrc_w : wt 863 = some (Jvm.Cond.static arraycopyName) ∧ wt 864 = some (Jvm.Cond.native arraycopyName) ∧ wt 160 = some (Jvm.Cond.initialized "java/lang/System") := by decide +kernel
theorem nfw_le : nativeFrameWords "java/lang/System" "arraycopy" 5 + 11 ≤ 52 := by decide +kernel
theorem mr_outer (c : ClassId) (N h0 : Nat) : ∀ i : Nat, Jvm.Free.Multi.outerC c N h0 i = arrV c N (fun j => va_rf (if j < i then some (h0 + 1 + j) else none))
  | 0 => by
    show ({ cls := c, slots := Array.replicate N .null, vm := .none } : Cell) = _
    rw [arrV_new]
    refine congrArg (arrV c N) (funext fun j => ?_)
    simp [va_rf]
  | i + 1 => by
    show (Jvm.Free.Multi.outerC c N h0 i).setSlot i (.ref (h0 + 1 + i)) = _
    rw [mr_outer c N h0 i, arrV_store]
    refine congrArg (arrV c N) (funext fun j => ?_)
    by_cases e : j = i
    · subst e
      simp [updV, va_rf]
    · by_cases h : j < i
      · simp [updV, e, h, Nat.lt_succ_of_lt h]
      · simp [updV, e, h, show ¬ j < i + 1 by omega]
section EvM
variable {l : Launch} {X : Cx} {d i pc tag b c e nx : Nat} {vi : Int32} {vl : Int64} {ls st : List Value} {n0 n1 n : Nat} {ρ : Rf} {σ : St} {Q : Po}
theorem Ev_multi {x y : Int32} (N K : Nat) (h : opn i pc = some (113, b, c, e, nx, vi, vl)) (hN : x = nI N) (hK0 : y = nI K) (hNK : N < 1000 ∧ K < 1000) (hs : shp n = (4, N) ∧ ∀ j, j < N → shp (n + 1 + j) = (0, K)) (hn : n0 ≤ n ∧ n + 1 + N ≤ n1)
    (kk : Ev l X d i nx ls (.ref n :: st) n0 n1 (n + 1 + N) (mR ρ n N) (mS σ n N) Q) : Ev l X d i pc ls (.int y :: .int x :: st) n0 n1 n ρ σ Q := by
  subst hN; subst hK0
  obtain ⟨-, ins, len, hd, rfl, hc⟩ := op_ok h
  replace hc : ckMulti i e ins len = true := hc
  unfold ckMulti at hc
  split at hc
  · rename_i ix kd _
    simp only [Bool.and_eq_true, decide_eq_true_eq] at hc
    obtain ⟨⟨a1, a2⟩, a3⟩ := hc
    have a1 := Nat.eq_of_beq_eq_true a1
    have a2 := Nat.eq_of_beq_eq_true a2
    subst a1; subst a2
    intro p ev s m args below meth cc H locs lsA C hP hS hL T hT Xs
    have hts := C.2.2.2.2.2.2.1
    have hK := C.2.2.2.2.2.2.2.2.2.1
    have cN0 : (nI N).toNatClampNeg = N := nI_clamp (by omega)
    have cK0 : (nI K).toNatClampNeg = K := nI_clamp (by omega)
    have hsl : sln (n + 1 + N) = sln n + N + N * K := by
      have h1 : sln (n + 1) = sln n + N := by show sln n + (shp n).2 = _; rw [hs.1]
      rw [sln_rows (n := n + 1) (x := N) (y := K) (fun j hj => by rw [hs.2 j hj]), h1]
    have hm0 := sln_le hn.1
    have hm1 := sln_le hn.2
    have hov : (Jvm.Cond.arrayOver (.array .int)).before args s = true := C.2.2.2.2.2.2.2.2.1.2.2.2.2.2.2.1
    obtain ⟨vm₁, cA, comp, -, fA, fC, hO, -, X', step⟩ := Xs.multianewarray2F (ty := .int) C.1 C.2.2.2.2.2.1 (hts _ (wg_mem a3 rfl)) hov (hts _ (wg_mem (aI_ok 0 (by decide)) rfl)) (g := F0 m pc lsA (.int (nI K) :: .int (nI N) :: st.map (cv X))) rfl (by rw [C.2.1]; exact hd) rfl (nI_pos (by omega)) (nI_pos (by omega)) (by rw [cN0]; omega) (by rw [cK0]; show K * 4 ≤ _; omega) (by rw [cK0]; omega) rfl rfl
      (by rw [cN0]; show n - n0 + (1 + N) ≤ n1 - n0; omega) (by rw [cN0, cK0]; show sln n - sln n0 + (N + N * K) ≤ sln n1 - sln n0; omega)
    rw [cN0, cK0] at X' step
    have ecA : cA = xA X 4 := by
      have := (hK.2 4 _ rfl).2
      exact Option.some.inj (fA.symm.trans this)
    have eco : comp = xA X 0 := by
      have := (hK.2 0 _ rfl).2
      exact Option.some.inj (fC.symm.trans this)
    subst ecA
    subst eco
    generalize hF : Jvm.Free.Multi.fill (T.setVm vm₁) (xA X 4) (xA X 0) N K (defaultValue .int) N = F at X' step
    have hTh : (T.setVm vm₁).heap = H := hT
    obtain ⟨f1, f2, -, -⟩ := Jvm.Free.Multi.fill_facts (T.setVm vm₁) (xA X 4) (xA X 0) N K (defaultValue .int) N
    rw [hF, hTh] at f1 f2
    have hold : ∀ q : Nat, q < H.size → F.heap[q]? = H[q]? := fun q hq => by
      have := Jvm.Free.Multi.fill_old (T.setVm vm₁) (xA X 4) (xA X 0) N K (defaultValue .int) (a := q) (by rw [hTh]; exact hq) N
      rw [hF, hTh] at this
      exact this
    have hrow : ∀ j : Nat, j < N → F.heap[H.size + 1 + j]? = some (vp_cell (xA X 0) (K, .inl (fun _ => 0))) := fun j hj => by
      have := Jvm.Free.Multi.fill_inner (T.setVm vm₁) (xA X 4) (xA X 0) N K (defaultValue .int) N j hj
      rw [hF, hTh] at this
      rw [this, vp_cell_i]
      show some ({ cls := xA X 0, slots := Array.replicate K (.int 0), vm := .none } : Cell) = _
      rw [arrV_new]
    have hout : F.heap[H.size]? = some (vp_cell (xA X 4) (N, .inr (.inr (.inr (.inr (fun j => if j < N then some (H.size + 1 + j) else none)))))) := by
      rw [f2, vp_cell_q]
      exact congrArg some (mr_outer (xA X 4) N H.size N)
    have hWP : WP X (n + 1 + N) (mR ρ n N) (mS σ n N) F.heap := by
      refine ⟨fun k q hk => ?_, by rw [f1, hP.2]; omega⟩
      obtain ⟨hkn, rfl⟩ := WS_some hk
      by_cases h1 : k < n
      · have hce : ce X (mR ρ n N) (mS σ n N) k (shp k) = ce X ρ σ k (shp k) := ce_congr (by simp [mS, show ¬ (n ≤ k ∧ k ≤ n + N) by omega]) (by simp [mS, show ¬ (n ≤ k ∧ k ≤ n + N) by omega]) (by simp [mR, show ¬ k = n by omega, show ¬ (n < k ∧ k ≤ n + N) by omega])
        rw [hce]
        exact (hP.1 k _ (WS_get h1)).kept (hold _ (by show xB X + k < _; rw [hP.2]; omega))
      by_cases h2 : k = n
      · subst h2
        have hce : ce X (mR ρ k N) (mS σ k N) k (shp k) = .inl (xA X 4, (N, .inr (.inr (.inr (.inr (fun j => if j < N then some (xB X + k + 1 + j) else none)))))) := by
          rw [hs.1]
          unfold ce
          show Sum.inl (xA X 4, (N, Sum.inr (Sum.inr (Sum.inr (Sum.inr (fun j => (mR ρ k N k j).map (xB X + ·))))))) = _
          congr 7
          funext j
          simp only [mR, if_true]
          by_cases hj : j < N
          · simp [hj]; omega
          · simp [hj]
        rw [hce]
        rw [hP.2] at hout
        exact hout
      · have hj : shp k = (0, K) := by
          have := hs.2 (k - (n + 1)) (by omega)
          rwa [show n + 1 + (k - (n + 1)) = k by omega] at this
        have hce : ce X (mR ρ n N) (mS σ n N) k (shp k) = .inl (xA X 0, (K, .inl (fun _ => 0))) := by
          rw [hj]
          unfold ce
          show Sum.inl (xA X 0, (K, Sum.inl ((mS σ n N).1 k))) = _
          simp only [mS, show n ≤ k ∧ k ≤ n + N from ⟨by omega, by omega⟩, and_self, if_true]
        rw [hce]
        have := hrow (k - (n + 1)) (by omega)
        rw [hP.2, show xB X + n + 1 + (k - (n + 1)) = xB X + k by omega] at this
        exact this
    obtain ⟨t, a4, b4⟩ := kk p ev s m args below meth cc F.heap locs lsA C hWP (va_S_push hS (by rw [f1]; omega) hold) hL F rfl (by
      rw [show n + 1 + N - n0 = n - n0 + 1 + N by omega, show sln (n + 1 + N) - sln n0 = sln n - sln n0 + N + N * K by omega]
      exact X')
    refine ⟨t, step t ?_, b4⟩
    have e9 : T.heap.size = xB X + n := by rw [hT, hP.2]
    rw [e9]
    exact a4
  · cases hc
theorem Ev_copy {k k' : Nat} {sp dp z : Int32} (h : opn i pc = some (90, b, 8, e, nx, vi, vl)) (hk : isA n k 0 = true) (hk' : isA n k' 0 = true) (h1 : ¬ sp < 0) (h2 : ¬ dp < 0) (h3 : ¬ z < 0) (h4 : sp.toNatClampNeg + z.toNatClampNeg ≤ (shp k).2) (h5 : dp.toNatClampNeg + z.toNatClampNeg ≤ (shp k').2) (hcat : Nat.ble (catS st) 8 = true)
    (kk : Ev l X (d + 1) i nx ls st n0 n1 n ρ (sI σ k' (va_cpy (σ.1 k) (σ.1 k') sp.toNatClampNeg dp.toNatClampNeg z.toNatClampNeg)) Q) : Ev l X (d + 1) i pc ls (.int z :: .int dp :: .ref k' :: .int sp :: .ref k :: st) n0 n1 n ρ σ Q := by
  obtain ⟨-, ins, len, hd, rfl, hc⟩ := op_ok h
  replace hc : ckCall i b 8 e ins len = true := hc
  obtain ⟨rfl, ix, hins, h8, -, -, -⟩ := call_ok hc
  have hins : ins = .invokestatic ix := by
    rcases hins with ⟨-, q⟩ | ⟨q, -⟩ | ⟨-, q⟩
    · omega
    · exact q
    · omega
  subst hins
  obtain ⟨k1, k2⟩ := isA_lt hk
  obtain ⟨j1, j2⟩ := isA_lt hk'
  intro p ev s m args below meth cc H locs lsA C hP hS hL T hT Xs
  have hts := C.2.2.2.2.2.2.1
  have hK := C.2.2.2.2.2.2.2.2.2.1
  have hceA : ∀ (q : Nat) (τ : St), (shp q).1 = 0 → ce X ρ τ q (shp q) = .inl (xA X 0, ((shp q).2, .inl (τ.1 q))) := fun q τ hq => by unfold ce; rw [hq]; rfl
  have e0 := WS_get (X := X) (ρ := ρ) (σ := σ) k1
  have e1 := WS_get (X := X) (ρ := ρ) (σ := σ) j1
  rw [hceA k σ k2] at e0
  rw [hceA k' σ j2] at e1
  have hc0 : H[xB X + k]? = some (vp_cell (xA X 0) ((shp k).2, .inl (σ.1 k))) := hP.1 k _ e0
  have hc1 : H[xB X + k']? = some (vp_cell (xA X 0) ((shp k').2, .inl (σ.1 k'))) := hP.1 k' _ e1
  have hD := WS_D X n ρ σ
  have nn : ∀ z : Int32, ¬ z < 0 → z.toInt = (z.toNatClampNeg : Int) := by
    intro z hz
    have hz0 : (0 : Int) ≤ z.toInt := by
      have := Int32.not_lt.mp hz
      simpa using Int32.le_iff_toInt_le.mp this
    show z.toInt = ((z.toInt.toNat : Nat) : Int)
    omega
  obtain ⟨-, kA, hkA, cmA, hkkA⟩ := (hK.2 0 _ rfl).1 (shp k).2 (fun j => .int (σ.1 k j))
  obtain ⟨-, kB, hkB, cmB, hkkB⟩ := (hK.2 0 _ rfl).1 (shp k').2 (fun j => .int (σ.1 k' j))
  obtain ⟨vm', X', step⟩ := Xs.arraycopy C.1 C.2.2.2.2.2.1 (hts _ (h8 rfl)) (hts _ (wg_mem arrc_w.2.1 rfl)) (hts _ (wg_mem arrc_w.1 rfl)) (hts _ (wg_mem arrc_w.2.2 rfl)) (src := xB X + k) (dst := xB X + k') (cs := vp_cell (xA X 0) ((shp k).2, .inl (σ.1 k))) (cd := vp_cell (xA X 0) ((shp k').2, .inl (σ.1 k'))) (srcPos := sp) (destPos := dp) (n := z) (by rw [hT]; exact hc0) (by rw [hT]; exact hc1)
    (fun _ h => by cases h) (fun _ h => by cases h) (fun h => by cases h) (fun h => by cases h) hkA hkB hkkA hkkB (by simp [refKind]) h1 h2 h3
    (by rw [nn sp h1, nn z h3]; show ¬ _ > ((arrV (xA X 0) (shp k).2 (fun j => .int (σ.1 k j))).slots.size : Int); rw [arrV_size]; omega)
    (by rw [nn dp h2, nn z h3]; show ¬ _ > ((arrV (xA X 0) (shp k').2 (fun j => .int (σ.1 k' j))).slots.size : Int); rw [arrV_size]; omega)
    (fun vm₁ _ i hi => by
      have e : (vp_cell (xA X 0) ((shp k).2, .inl (σ.1 k))).slots.getD (sp.toNatClampNeg + i) .null = .int (σ.1 k (sp.toNatClampNeg + i)) := by
        show (arrV (xA X 0) (shp k).2 (fun j => .int (σ.1 k j))).slots.getD _ _ = _
        rw [Array.getD_eq_getD_getElem?, arrV_read _ _ (by omega)]
        rfl
      refine ⟨?_, ?_⟩
      · rw [e]
        rfl
      · rw [e]
        exact trivial)
    (g := F0 m pc lsA (.int z :: .int dp :: .ref (xB X + k') :: .int sp :: .ref (xB X + k) :: st.map (cv X))) rfl (by rw [C.2.2.2.1]; exact hL.1) (rest := st.map (cv X)) rfl (by rw [C.2.1]; exact hd) (by show 1 ≤ d + 1; omega) (by
      have q1 := catS_ge (X := X) st
      have q2 := Nat.le_of_ble_eq_true hcat
      have q3 := nfw_le
      show 2 * 0 + _ + _ ≤ 60 * (d + 1)
      omega)
  have ec : copied (vp_cell (xA X 0) ((shp k).2, .inl (σ.1 k))) (vp_cell (xA X 0) ((shp k').2, .inl (σ.1 k'))) sp dp z = vp_cell (xA X 0) ((shp k').2, .inl (va_cpy (σ.1 k) (σ.1 k') sp.toNatClampNeg dp.toNatClampNeg z.toNatClampNeg)) := va_copied (fun z => .int z) (xA X 0) (xA X 0) (σ.1 k) (σ.1 k') h4
  rw [ec] at X' step
  have hl : xB X + k' < H.size := (Array.getElem?_eq_some_iff.mp hc1).1
  generalize hNC : vp_cell (xA X 0) ((shp k').2, .inl (va_cpy (σ.1 k) (σ.1 k') sp.toNatClampNeg dp.toNatClampNeg z.toNatClampNeg)) = NC at X' step
  have hheap : ((T.setVm vm').setCell (xB X + k') NC).heap = H.setIfInBounds (xB X + k') NC := by rw [← hT]; rfl
  have oq : ∀ q : Nat, q ≠ xB X + k' → (H.setIfInBounds (xB X + k') NC)[q]? = H[q]? := fun q hq => by simp [Array.getElem?_setIfInBounds, Ne.symm hq]
  have hP1 := hP.1.set hD e1 (e := ce X ρ (sI σ k' (va_cpy (σ.1 k) (σ.1 k') sp.toNatClampNeg dp.toNatClampNeg z.toNatClampNeg)) k' (shp k')) (show va_at X.1 vwCl (xB X + k', _) (H.setIfInBounds (xB X + k') NC) by
    rw [hceA k' _ j2, sI_1, if_pos rfl]
    show (H.setIfInBounds (xB X + k') NC)[xB X + k']? = some _
    rw [hNC]
    simp [Array.getElem?_setIfInBounds, hl]) oq
  rw [WS_set rfl (fun q hq => by exact ce_congr (by rw [sI_1, if_neg hq]) rfl rfl)] at hP1
  obtain ⟨t, a1, b1⟩ := kk p ev s m args below meth cc (H.setIfInBounds (xB X + k') NC) _ lsA C ⟨hP1, by rw [Array.size_setIfInBounds]; exact hP.2⟩ ⟨by rw [Array.size_setIfInBounds]; exact hS.1, fun q g1 g2 => by
      rw [oq q (fun e => g2 (by rw [e]; exact Nat.le_add_right _ _))]
      exact hS.2.1 q g1 g2, fun q hq => by
      rcases List.mem_append.mp hq with h | h
      · exact hS.2.2 q h
      · obtain ⟨z, -, hz⟩ := List.mem_map.mp h
        rw [← hz]
        exact Nat.le_add_right _ _⟩ hL _ hheap X'
  exact ⟨t, step t a1, b1⟩
end EvM
