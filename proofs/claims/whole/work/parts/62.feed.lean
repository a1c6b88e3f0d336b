/-! Bytes put on the tape. -/
def byt (x : Int32) (s : Nat) : Nat := ((x >>> (nI s &&& 31)) &&& 255).toBitVec.toNat
theorem nI_tb (y : Int32) : nI y.toBitVec.toNat = y := by
  apply Int32.toBitVec_inj.mp
  apply BitVec.eq_of_toNat_eq
  show (BitVec.ofNat 32 y.toBitVec.toNat).toNat = _
  rw [BitVec.toNat_ofNat]
  exact Nat.mod_eq_of_lt y.toBitVec.isLt
theorem byt_lt (x : Int32) (s : Nat) : byt x s < 256 := by
  unfold byt
  show (((x >>> (nI s &&& 31)).toBitVec) &&& BitVec.ofNat 32 255).toNat < 256
  rw [BitVec.toNat_and]
  exact Nat.lt_of_le_of_lt Nat.and_le_right (by decide)
theorem sb_of (y : Int32) : y.toInt8.toInt32 = sb ((y &&& 255).toBitVec.toNat) := by
  unfold sb
  rw [nI_tb]
  have e : y.toInt8 = (y &&& 255).toInt8 := by
    apply Int8.toBitVec_inj.mp
    apply BitVec.eq_of_toNat_eq
    show (y.toBitVec.signExtend 8).toNat = ((y.toBitVec &&& BitVec.ofNat 32 255).signExtend 8).toNat
    rw [BitVec.signExtend_eq_setWidth_of_le _ (by decide), BitVec.signExtend_eq_setWidth_of_le _ (by decide), BitVec.toNat_setWidth, BitVec.toNat_setWidth, BitVec.toNat_and, BitVec.toNat_ofNat, show (255 % 2 ^ 32 : Nat) = 2 ^ 8 - 1 by decide, Nat.and_two_pow_sub_one_eq_mod]
    omega
  rw [← e]
theorem sb_sb : ∀ v, v < 256 → (sb v).toInt8.toInt32 = sb v := by decide +kernel
def shN (j : Nat) : Int32 := if j < 4 then nI (24 - 8 * j) else -8
theorem shN_step : ∀ j, j < 4 → nI (24 - 8 * j) + (-8) = shN (j + 1) := by decide
def put4 (f : Nat → Int32) (m : Nat) (x : Int32) (j : Nat) (k : Nat) : Int32 := if m ≤ k ∧ k < m + j then sb (byt x (24 - 8 * (k - m))) else f k
theorem put4_s (f : Nat → Int32) (m : Nat) (x : Int32) (j : Nat) : upd (put4 f m x j) (m + j) (sb (byt x (24 - 8 * j))) = put4 f m x (j + 1) := by
  funext k
  unfold put4
  by_cases h : k = m + j
  · subst h; rw [pk_us, if_pos (by omega), Nat.add_sub_cancel_left]
  · rw [pk_un h]
    by_cases h2 : m ≤ k ∧ k < m + j
    · rw [if_pos h2, if_pos (by omega)]
    · rw [if_neg h2, if_neg (by omega)]
theorem put4_0 (f : Nat → Int32) (m : Nat) (x : Int32) : put4 f m x 0 = f := by
  funext k
  unfold put4
  rw [if_neg (by omega)]
theorem upd_2 (f : Nat → Int32) (k : Nat) (x y : Int32) : upd (upd f k x) k y = upd f k y := by
  funext j
  by_cases h : j = k
  · subst h; rw [pk_us, pk_us]
  · rw [pk_un h, pk_un h, pk_un h]
theorem st_feed (σ : St) (a c : Nat → Int32) (b d : Nat → Int32) : sI (sI (sI (sI σ 1 a) 0 b) 1 c) 0 d = sI (sI σ 1 c) 0 d := by
  refine Prod.ext (funext fun q => ?_) rfl
  rw [sI_1, sI_1, sI_1, sI_1, sI_1, sI_1]
  by_cases h0 : q = 0
  · rw [if_pos h0, if_pos h0]
  · rw [if_neg h0, if_neg h0, if_neg h0]
    by_cases h1 : q = 1
    · rw [if_pos h1, if_pos h1]
    · rw [if_neg h1, if_neg h1, if_neg h1]
theorem st_feedM (σ : St) (a c : Nat → Int32) (b d : Nat → Int32) : sI (sI (sI (sI σ 327 a) 326 b) 327 c) 326 d = sI (sI σ 327 c) 326 d := by
  refine Prod.ext (funext fun q => ?_) rfl
  rw [sI_1, sI_1, sI_1, sI_1, sI_1, sI_1]
  by_cases h0 : q = 326
  · rw [if_pos h0, if_pos h0]
  · rw [if_neg h0, if_neg h0, if_neg h0]
    by_cases h1 : q = 327
    · rw [if_pos h1, if_pos h1]
    · rw [if_neg h1, if_neg h1, if_neg h1]
section S62
variable {l : Launch} {X : Cx}
theorem pn_loop {d m : Nat} {ρ : Rf} {σ : St} {x : Int32} (hρ : RF ρ) (hm : m + 4 ≤ 1600) : ∀ (n j : Nat), j + n = 4 → Ev l X (d + 1) 104 3 [.ref 0, .int x, .int (shN j)] [] 402 402 402 ρ (sI (sI σ 1 (put4 (σ.1 1) m x j)) 0 (upd (σ.1 0) 1 (nI (m + j)))) (fun v ρ' σ' => v = none ∧ ρ' = ρ ∧ σ' = sI (sI σ 1 (put4 (σ.1 1) m x 4)) 0 (upd (σ.1 0) 1 (nI (m + 4)))) := by
  intro n
  induction n with
  | zero =>
    intro j hj
    have hj : j = 4 := by omega
    subst hj
    refine Ev_iload rfl rfl ?_
    refine Ev_if_lt rfl (fun h4 => ?_) (fun h4 => absurd (by decide) h4)
    exact Ev_return rfl rfl rfl ⟨rfl, rfl, rfl⟩
  | succ n ih =>
    intro j hj
    have e : shN j = nI (24 - 8 * j) := if_pos (by omega)
    rw [e]
    refine Ev_iload rfl rfl ?_
    refine Ev_if_lt rfl (fun h4 => absurd h4 (nI_pos (by omega))) (fun h4 => ?_)
    refine Ev_aload rfl rfl rfl ?_
    refine Ev_getI rfl (by first | rfl | assumption) ?_
    refine Ev_norm (by rw [sR_0]; exact pk_us : _ = nI (m + j)) ?_
    refine Ev_const rfl ?_
    refine Ev_icmp_ge rfl (fun h14 => absurd h14 (nI_ge (b := 1600) (by omega) (by decide))) (fun h14 => ?_)
    refine Ev_aload rfl rfl rfl ?_
    refine Ev_getR rfl (by first | rfl | assumption) (hρ _ _ _ rfl) ?_
    refine Ev_aload rfl rfl rfl ?_
    refine Ev_getI rfl (by first | rfl | assumption) ?_
    refine Ev_norm (by rw [sR_0]; exact pk_us : _ = nI (m + j)) ?_
    refine Ev_iload rfl rfl ?_
    refine Ev_iload rfl rfl ?_
    refine Ev_ishr rfl ?_
    refine Ev_i2b rfl ?_
    refine Ev_norm (show _ = sb (byt x (24 - 8 * j)) from sb_of _) ?_
    refine Ev_bast rfl (by first | rfl | assumption) (vp_in_nI (n := m + j) (show m + j < 1600 by omega) (by decide)) ?_
    rw [nI_clamp (show m + j < 2 ^ 31 by omega), sb_sb _ (byt_lt _ _)]
    refine Ev_aload rfl rfl rfl ?_
    refine Ev_dup rfl (fun _ q => nomatch q) ?_
    refine Ev_getI rfl (by first | rfl | assumption) ?_
    refine Ev_norm (by rw [sR_1 _ _ (by decide), sR_0]; exact pk_us : _ = nI (m + j)) ?_
    refine Ev_const rfl ?_
    refine Ev_iadd rfl ?_
    refine Ev_norm (nI_1 (m + j)) ?_
    refine Ev_putI rfl (by first | rfl | assumption) ⟨rfl, rfl⟩ rfl ?_
    refine Ev_iincE rfl rfl (shN_step j (by omega)) ?_
    refine Ev_goto rfl ?_
    refine Ev_st rfl (show _ = sI (sI σ 1 (put4 (σ.1 1) m x (j + 1))) 0 (upd (σ.1 0) 1 (nI (m + (j + 1)))) from ?_) (ih (j + 1) (by omega))
    rw [st_feed, sR_1 _ _ (show (0 : Nat) ≠ 1 by decide), sR_0, upd_2, sR_1 _ _ (show (1 : Nat) ≠ 0 by decide), sR_0]
    rw [put4_s]; rfl
theorem t_putNumber (d : Nat) {m : Nat} {ρ : Rf} {σ : St} {x : Int32} (hρ : RF ρ) (hl : σ.1 0 1 = nI m) (hm : m + 4 ≤ 1600) : T l X (d + 1) 104 [.ref 0, .int x] 402 402 ρ σ (fun v ρ' σ' => v = none ∧ ρ' = ρ ∧ σ' = sI (sI σ 1 (put4 (σ.1 1) m x 4)) 0 (upd (σ.1 0) 1 (nI (m + 4)))) := by
  refine T_of rfl ?_
  refine Ev_const rfl ?_
  refine Ev_istore rfl ?_
  have := pn_loop (l := l) (X := X) (d := d) (m := m) (σ := σ) (x := x) hρ hm 4 0 rfl
  rw [put4_0, sI_self, show nI (m + 0) = σ.1 0 1 from hl.symm] at this
  have e : upd (σ.1 0) 1 (σ.1 0 1) = σ.1 0 := by
    funext j
    by_cases hj : j = 1
    · subst hj; rw [pk_us]
    · rw [pk_un hj]
  rw [e, sI_self] at this
  exact this
/-- which of five numbers -/
def sel (a b c d e : Int32) (k : Nat) : Int32 := if k < 4 then a else if k < 8 then b else if k < 12 then c else if k < 16 then d else e
/-- the tape with twenty bytes more -/
def fdT (T : Nat × (Nat → Nat)) (a b c d e : Int32) : Nat × (Nat → Nat) := (T.1 + 20, fun k => if T.1 ≤ k ∧ k < T.1 + 20 then byt (sel a b c d e (k - T.1)) (24 - 8 * ((k - T.1) % 4)) else T.2 k)
theorem mf_loop {dd m : Nat} {ρ : Rf} {σ : St} {a b c d e : Int32} (hρ : RF ρ) (hm : m + 20 ≤ 1600) (f0 : Nat → Int32) : ∀ (n k : Nat) (f : Nat → Int32) (w : Value), k + n = 20 → (∀ j, f j = if m ≤ j ∧ j < m + k then nI (byt (sel a b c d e (j - m)) (24 - 8 * ((j - m) % 4))) else f0 j) → Ev l X (dd + 1) 165 28 [.ref 326, .int a, .int b, .int c, .int d, .int e, .int (nI k), w] [] 402 402 402 ρ (sI (sI σ 327 f) 326 (upd (σ.1 326) 1 (nI (m + k)))) (fun v ρ' σ' => v = some (.int (nI (m + 20))) ∧ ρ' = ρ ∧ ∃ f, σ' = sI (sI σ 327 f) 326 (upd (σ.1 326) 1 (nI (m + 20))) ∧ ∀ j, f j = if m ≤ j ∧ j < m + 20 then nI (byt (sel a b c d e (j - m)) (24 - 8 * ((j - m) % 4))) else f0 j) := by
  intro n
  induction n with
  | zero =>
    intro k f w hk hf
    have hk : k = 20 := by omega
    subst hk
    refine Ev_iload rfl rfl ?_
    refine Ev_const rfl ?_
    refine Ev_icmp_ge rfl (fun h32 => ?_) (fun h32 => absurd (by decide) h32)
    refine Ev_aload rfl rfl rfl ?_
    refine Ev_getI rfl (by first | rfl | assumption) ?_
    refine Ev_norm (by rw [sR_0]; exact pk_us : _ = nI (m + 20)) ?_
    exact Ev_ireturn rfl rfl rfl rfl ⟨rfl, rfl, f, rfl, hf⟩
  | succ n ih =>
    intro k f w hk hf
    have key : ∀ x, x = sel a b c d e k → Ev l X (dd + 1) 165 81 [.ref 326, .int a, .int b, .int c, .int d, .int e, .int (nI k), w] [.int x] 402 402 402 ρ (sI (sI σ 327 f) 326 (upd (σ.1 326) 1 (nI (m + k)))) (fun v ρ' σ' => v = some (.int (nI (m + 20))) ∧ ρ' = ρ ∧ ∃ f, σ' = sI (sI σ 327 f) 326 (upd (σ.1 326) 1 (nI (m + 20))) ∧ ∀ j, f j = if m ≤ j ∧ j < m + 20 then nI (byt (sel a b c d e (j - m)) (24 - 8 * ((j - m) % 4))) else f0 j) := by
      intro x hx
      refine Ev_istore rfl ?_
      refine Ev_aload rfl rfl rfl ?_
      refine Ev_getR rfl (by first | rfl | assumption) (hρ _ _ _ rfl) ?_
      refine Ev_aload rfl rfl rfl ?_
      refine Ev_getI rfl (by first | rfl | assumption) ?_
      refine Ev_norm (by rw [sR_0]; exact pk_us : _ = nI (m + k)) ?_
      refine Ev_iload rfl rfl ?_
      refine Ev_const rfl ?_
      refine Ev_const rfl ?_
      refine Ev_iload rfl rfl ?_
      refine Ev_const rfl ?_
      refine Ev_irem rfl (by decide : ¬ (4 : Int32) = 0) ?_
      refine Ev_norm (pk_rem (a := k) (d := 4) (by omega) (by decide) (by decide) : _ = nI (k % 4)) ?_
      refine Ev_isub rfl ?_
      refine Ev_norm (pk_sub (a := 3) (b := k % 4) (by omega) : _ = nI (3 - k % 4)) ?_
      refine Ev_imul rfl ?_
      refine Ev_norm (pk_mul 8 (3 - k % 4) : _ = nI (8 * (3 - k % 4))) ?_
      refine Ev_norm (by rw [show 8 * (3 - k % 4) = 24 - 8 * (k % 4) by omega] : _ = nI (24 - 8 * (k % 4))) ?_
      refine Ev_ishr rfl ?_
      refine Ev_const rfl ?_
      refine Ev_iand rfl ?_
      refine Ev_norm (show _ = nI (byt x (24 - 8 * (k % 4))) from (nI_tb _).symm) ?_
      refine Ev_iast rfl (by first | rfl | assumption) (vp_in_nI (n := m + k) (show m + k < 1600 by omega) (by decide)) ?_
      rw [nI_clamp (show m + k < 2 ^ 31 by omega)]
      refine Ev_aload rfl rfl rfl ?_
      refine Ev_dup rfl (fun _ q => nomatch q) ?_
      refine Ev_getI rfl (by first | rfl | assumption) ?_
      refine Ev_norm (by rw [sR_1 _ _ (by decide), sR_0]; exact pk_us : _ = nI (m + k)) ?_
      refine Ev_const rfl ?_
      refine Ev_iadd rfl ?_
      refine Ev_norm (nI_1 (m + k)) ?_
      refine Ev_putI rfl (by first | rfl | assumption) ⟨rfl, rfl⟩ rfl ?_
      refine Ev_iincE rfl rfl (nI_1 k) ?_
      refine Ev_goto rfl ?_
      refine Ev_st rfl (show _ = sI (sI σ 327 (upd f (m + k) (nI (byt x (24 - 8 * (k % 4)))))) 326 (upd (σ.1 326) 1 (nI (m + (k + 1)))) from ?_) (ih (k + 1) _ _ (by omega) (fun j => ?_))
      · rw [sR_1 _ _ (show (327 : Nat) ≠ 326 by decide), sR_0, sR_1 _ _ (show (326 : Nat) ≠ 327 by decide), sR_0, upd_2, st_feedM]; rfl
      · by_cases hj : j = m + k
        · subst hj; rw [pk_us, if_pos (by omega), Nat.add_sub_cancel_left, hx]
        · rw [pk_un hj, hf j]
          by_cases hj2 : m ≤ j ∧ j < m + k
          · rw [if_pos hj2, if_pos (by omega)]
          · rw [if_neg hj2, if_neg (by omega)]
    refine Ev_iload rfl rfl ?_
    refine Ev_const rfl ?_
    refine Ev_icmp_ge rfl (fun h32 => absurd h32 (nI_ge (b := 20) (by omega) (by decide))) (fun h32 => ?_)
    refine Ev_iload rfl rfl ?_
    refine Ev_const rfl ?_
    refine Ev_icmp_ge rfl (fun h38 => ?_) (fun h38 => ?_)
    · refine Ev_iload rfl rfl ?_
      refine Ev_const rfl ?_
      refine Ev_icmp_ge rfl (fun h49 => ?_) (fun h49 => ?_)
      · refine Ev_iload rfl rfl ?_
        refine Ev_const rfl ?_
        refine Ev_icmp_ge rfl (fun h60 => ?_) (fun h60 => ?_)
        · refine Ev_iload rfl rfl ?_
          refine Ev_const rfl ?_
          refine Ev_icmp_ge rfl (fun h71 => ?_) (fun h71 => ?_)
          · refine Ev_iload rfl rfl ?_
            exact key e (by unfold sel; rw [if_neg (fun q => nI_ge (b := 4) q (by decide) h38), if_neg (fun q => nI_ge (b := 8) q (by decide) h49), if_neg (fun q => nI_ge (b := 12) q (by decide) h60), if_neg (fun q => nI_ge (b := 16) q (by decide) h71)])
          · refine Ev_iload rfl rfl ?_
            refine Ev_goto rfl ?_
            exact key d (by unfold sel; rw [if_neg (fun q => nI_ge (b := 4) q (by decide) h38), if_neg (fun q => nI_ge (b := 8) q (by decide) h49), if_neg (fun q => nI_ge (b := 12) q (by decide) h60), if_pos (Decidable.byContradiction fun q => h71 (nI_le (a := 16) (by omega) (by omega)))])
        · refine Ev_iload rfl rfl ?_
          refine Ev_goto rfl ?_
          exact key c (by unfold sel; rw [if_neg (fun q => nI_ge (b := 4) q (by decide) h38), if_neg (fun q => nI_ge (b := 8) q (by decide) h49), if_pos (Decidable.byContradiction fun q => h60 (nI_le (a := 12) (by omega) (by omega)))])
      · refine Ev_iload rfl rfl ?_
        refine Ev_goto rfl ?_
        exact key b (by unfold sel; rw [if_neg (fun q => nI_ge (b := 4) q (by decide) h38), if_pos (Decidable.byContradiction fun q => h49 (nI_le (a := 8) (by omega) (by omega)))])
    · refine Ev_iload rfl rfl ?_
      refine Ev_goto rfl ?_
      exact key a (by unfold sel; rw [if_pos (Decidable.byContradiction fun q => h38 (nI_le (a := 4) (by omega) (by omega)))])
theorem CTap.feed {σ : St} {T : Nat × (Nat → Nat)} (H : CTap σ T) {a b c d e : Int32} {g : Nat → Int32} (hg : ∀ k, g k = if T.1 ≤ k ∧ k < T.1 + 20 then sb (byt (sel a b c d e (k - T.1)) (24 - 8 * ((k - T.1) % 4))) else σ.1 1 k) : CTap (sI (sI σ 1 g) 0 (upd (σ.1 0) 1 (nI (T.1 + 20)))) (fdT T a b c d e) := by
  refine ⟨by rw [sR_0, pk_us]; rfl, fun j hj => ?_⟩
  have hj : j < T.1 + 20 := hj
  show (sI (sI σ 1 g) 0 (upd (σ.1 0) 1 (nI (T.1 + 20)))).1 1 j = sb (if T.1 ≤ j ∧ j < T.1 + 20 then byt (sel a b c d e (j - T.1)) (24 - 8 * ((j - T.1) % 4)) else T.2 j)
  rw [sR_1 _ _ (by decide), sR_0, hg j]
  by_cases h : T.1 ≤ j ∧ j < T.1 + 20
  · rw [if_pos h, if_pos h]
  · rw [if_neg h, if_neg h]; exact H.2 j (by omega)
theorem put_5 (f : Nat → Int32) (m : Nat) (a b c d e : Int32) (k : Nat) : put4 (put4 (put4 (put4 (put4 f m a 4) (m + 4) b 4) (m + 8) c 4) (m + 12) d 4) (m + 16) e 4 k = if m ≤ k ∧ k < m + 20 then sb (byt (sel a b c d e (k - m)) (24 - 8 * ((k - m) % 4))) else f k := by
  unfold put4 sel
  by_cases h5 : m + 16 ≤ k ∧ k < m + 16 + 4
  · rw [if_pos h5, if_pos (by omega), if_neg (by omega), if_neg (by omega), if_neg (by omega), if_neg (by omega), show k - (m + 16) = (k - m) % 4 by omega]
  · rw [if_neg h5]
    by_cases h4 : m + 12 ≤ k ∧ k < m + 12 + 4
    · rw [if_pos h4, if_pos (by omega), if_neg (by omega), if_neg (by omega), if_neg (by omega), if_pos (by omega), show k - (m + 12) = (k - m) % 4 by omega]
    · rw [if_neg h4]
      by_cases h3 : m + 8 ≤ k ∧ k < m + 8 + 4
      · rw [if_pos h3, if_pos (by omega), if_neg (by omega), if_neg (by omega), if_pos (by omega), show k - (m + 8) = (k - m) % 4 by omega]
      · rw [if_neg h3]
        by_cases h2 : m + 4 ≤ k ∧ k < m + 4 + 4
        · rw [if_pos h2, if_pos (by omega), if_neg (by omega), if_pos (by omega), show k - (m + 4) = (k - m) % 4 by omega]
        · rw [if_neg h2]
          by_cases h1 : m ≤ k ∧ k < m + 4
          · rw [if_pos h1, if_pos (by omega), if_pos (by omega), show (k - m) % 4 = k - m by omega]
          · rw [if_neg h1, if_neg (by omega)]
theorem st_10 (σ : St) (a c b d : Nat → Int32) : sI (sI (sI (sI σ 1 a) 0 b) 1 c) 0 d = sI (sI σ 1 c) 0 d := st_feed σ a c b d
theorem WfA.feed {A : Ab} (h : WfA A) {a b c d e : Int32} (hn : (aT A).1 + 20 ≤ 1600) : WfA (sT A (fdT (aT A) a b c d e)) := by
  obtain ⟨h1, h2, h3, h4, h5, h6, h7⟩ := h
  refine ⟨h1, h2, h3, h4, h5, ⟨hn, fun j => ?_⟩, h7⟩
  show (if (aT A).1 ≤ j ∧ j < (aT A).1 + 20 then byt (sel a b c d e (j - (aT A).1)) (24 - 8 * ((j - (aT A).1) % 4)) else (aT A).2 j) < 256
  by_cases hc : (aT A).1 ≤ j ∧ j < (aT A).1 + 20
  · rw [if_pos hc]; exact byt_lt _ _
  · rw [if_neg hc]; exact h6.2 j
theorem op_feed (a b c d e : Int32) : OpI l X InvA 103 165 [.int a, .int b, .int c, .int d, .int e] := by
  refine op_of (fun A q ρ σ hA hC hρ => ?_)
  have hl := hA.2.2.2.2.2.1.1
  have hT := hC.2.2.2.2.2.2.2.1
  by_cases h : (aT A).1 + 20 ≤ 1600
  · refine ⟨nI ((aT A).1 + 20), sT A (fdT (aT A) a b c d e), hA.feed h, ?_, fun ρ σ hM => ?_⟩
    · refine T_of rfl ?_
      refine Ev_aload rfl rfl rfl ?_
      refine Ev_getI rfl (by first | rfl | assumption) ?_
      refine Ev_norm hT.1 ?_
      refine Ev_const rfl ?_
      refine Ev_iadd rfl ?_
      refine Ev_norm (nI_add (aT A).1 20) ?_
      refine Ev_const rfl ?_
      refine Ev_icmp_le rfl (fun h10 => ?_) (fun h10 => absurd (nI_le h (by decide)) h10)
      refine Ev_aload rfl rfl rfl ?_
      refine Ev_iload rfl rfl ?_
      refine Ev_callV rfl rfl rfl rfl rfl (same_n 402) (t_putNumber _ hρ hT.1 (by omega)) ?_
      rintro v21 ρ21 σ21 ⟨rfl, e21, g21⟩
      obtain rfl := e21.symm
      subst g21
      refine Ev_aload rfl rfl rfl ?_
      refine Ev_iload rfl rfl ?_
      refine Ev_callV rfl rfl rfl rfl rfl (same_n 402) (t_putNumber _ hρ (m := (aT A).1 + 4) (by rw [sR_0, pk_us]) (by omega)) ?_
      rintro v26 ρ26 σ26 ⟨rfl, e26, g26⟩
      obtain rfl := e26.symm
      rw [st_10, sR_1 _ _ (show (1 : Nat) ≠ 0 by decide), sR_0, sR_0, upd_2] at g26
      subst g26
      refine Ev_aload rfl rfl rfl ?_
      refine Ev_iload rfl rfl ?_
      refine Ev_callV rfl rfl rfl rfl rfl (same_n 402) (t_putNumber _ hρ (m := (aT A).1 + 4 + 4) (by rw [sR_0, pk_us]) (by omega)) ?_
      rintro v31 ρ31 σ31 ⟨rfl, e31, g31⟩
      obtain rfl := e31.symm
      rw [st_10, sR_1 _ _ (show (1 : Nat) ≠ 0 by decide), sR_0, sR_0, upd_2] at g31
      subst g31
      refine Ev_aload rfl rfl rfl ?_
      refine Ev_iload rfl rfl ?_
      refine Ev_callV rfl rfl rfl rfl rfl (same_n 402) (t_putNumber _ hρ (m := (aT A).1 + 4 + 4 + 4) (by rw [sR_0, pk_us]) (by omega)) ?_
      rintro v37 ρ37 σ37 ⟨rfl, e37, g37⟩
      obtain rfl := e37.symm
      rw [st_10, sR_1 _ _ (show (1 : Nat) ≠ 0 by decide), sR_0, sR_0, upd_2] at g37
      subst g37
      refine Ev_aload rfl rfl rfl ?_
      refine Ev_iload rfl rfl ?_
      refine Ev_callV rfl rfl rfl rfl rfl (same_n 402) (t_putNumber _ hρ (m := (aT A).1 + 4 + 4 + 4 + 4) (by rw [sR_0, pk_us]) (by omega)) ?_
      rintro v43 ρ43 σ43 ⟨rfl, e43, g43⟩
      obtain rfl := e43.symm
      rw [st_10, sR_1 _ _ (show (1 : Nat) ≠ 0 by decide), sR_0, sR_0, upd_2] at g43
      subst g43
      refine Ev_aload rfl rfl rfl ?_
      refine Ev_getI rfl (by first | rfl | assumption) ?_
      refine Ev_norm (by rw [sR_0]; exact pk_us : _ = nI ((aT A).1 + 4 + 4 + 4 + 4 + 4)) ?_
      exact Ev_ireturn rfl rfl rfl rfl (by
      have hx := hT.feed (a := a) (b := b) (c := c) (d := d) (e := e) (fun k => put_5 (σ.1 1) (aT A).1 a b c d e k)
      refine ⟨by rw [show (aT A).1 + 4 + 4 + 4 + 4 + 4 = (aT A).1 + 20 by omega], hρ, (upM.put _ _ (by decide)).tr (upM.put _ _ (by decide)), q, ?_⟩
      have hs : CF (fun k j => Nat.beq k 1 || c0 1 k j) σ (sI (sI σ 1 (put4 (put4 (put4 (put4 (put4 (σ.1 1) (aT A).1 a 4) ((aT A).1 + 4) b 4) ((aT A).1 + 4 + 4) c 4) ((aT A).1 + 4 + 4 + 4) d 4) ((aT A).1 + 4 + 4 + 4 + 4) e 4)) 0 (upd (σ.1 0) 1 (nI ((aT A).1 + 4 + 4 + 4 + 4 + 4)))) := by
        have c1 := CF.cell (C := fun k j => Nat.beq k 1 || c0 1 k j) σ (k := 1) (put4 (put4 (put4 (put4 (put4 (σ.1 1) (aT A).1 a 4) ((aT A).1 + 4) b 4) ((aT A).1 + 4 + 4) c 4) ((aT A).1 + 4 + 4 + 4) d 4) ((aT A).1 + 4 + 4 + 4 + 4) e 4) (fun _ => rfl)
        have c2 := c1.tr (CF.put (C := fun k j => Nat.beq k 1 || c0 1 k j) _ (k := 0) (j := 1) (nI ((aT A).1 + 4 + 4 + 4 + 4 + 4)) rfl)
        rw [sR_1 _ _ (by decide)] at c2
        exact c2
      have H' := hC
      obtain ⟨h1, h2, h3, h4, h5, h6, h7, h8, h9, h10, h11⟩ := hC
      have hne : ∀ k j : Nat, k ≠ 1 → (k ≠ 0 ∨ j ≠ 1) → (fun k j => Nat.beq k 1 || c0 1 k j) k j = false := fun k j q1 q2 => by
        show (Nat.beq k 1 || c0 1 k j) = false
        rw [nbeq q1, c0_ne q2]; rfl
      refine H'.chg hs (fun k j hk => hne k j (by omega) (by omega)) (sT A (fdT (aT A) a b c d e)) rfl (h4.cf hs (fun k j k1 k2 => hne k j (by omega) (by omega))) (h5.cf hs (fun k j k1 k2 => hne k j (by omega) (by omega))) (h6.cf hs rfl (fun _ => rfl)) ?_ hx (fun j hj => ?_) ?_ (h11.cf hs rfl (fun _ => rfl))
      · rw [hs.1 0 _ rfl]; exact h7
      · rw [hs.1 325 j rfl]; exact h9 j hj
      · rw [hs.1 0 _ rfl, hs.1 0 _ rfl]; exact h10)
    · have hρ := hM.1
      have hTm := hM.2.2.2.2.2.2.2.1
      refine T_of rfl ?_
      refine Ev_aload rfl rfl rfl ?_
      refine Ev_getI rfl (by first | rfl | assumption) ?_
      refine Ev_norm hTm.1 ?_
      refine Ev_const rfl ?_
      refine Ev_iadd rfl ?_
      refine Ev_norm (nI_add (aT A).1 20) ?_
      refine Ev_const rfl ?_
      refine Ev_icmp_le rfl (fun h10 => ?_) (fun h10 => absurd (nI_le h (by decide)) h10)
      refine Ev_const rfl ?_
      refine Ev_istore rfl ?_
      have hlp := mf_loop (l := l) (X := X) (dd := 99) (m := (aT A).1) (σ := σ) (a := a) (b := b) (c := c) (d := d) (e := e) hρ h (σ.1 327) 20 0 (σ.1 327) (.float 0) rfl (fun j => by rw [if_neg (by omega)])
      rw [sI_self, show nI ((aT A).1 + 0) = σ.1 326 1 from hTm.1.symm] at hlp
      have eu : upd (σ.1 326) 1 (σ.1 326 1) = σ.1 326 := by
        funext j
        by_cases hj : j = 1
        · subst hj; rw [pk_us]
        · rw [pk_un hj]
      rw [eu, sI_self] at hlp
      refine Ev.mono hlp (fun v ρ' σ' hq => ?_)
      obtain ⟨rfl, rfl, f, rfl, hf⟩ := hq
      have hs : MF (fun q => Nat.beq q 327) (fun j => Nat.beq j 1) σ (sI (sI σ 327 f) 326 (upd (σ.1 326) 1 (nI ((aT A).1 + 20)))) := by
        have c1 : MF (fun q => Nat.beq q 327) (fun j => Nat.beq j 1) σ (sI σ 327 f) := MF.cell f (by decide) rfl
        have c2 := c1.tr (MF.put (C := fun q => Nat.beq q 327) (Fd := fun j => Nat.beq j 1) (f := 1) (nI ((aT A).1 + 20)) rfl)
        rw [sR_1 _ _ (by decide)] at c2
        exact c2
      have H' := hM
      obtain ⟨h0, h1, h5, h6, h7, h8, h9, h10, h11, h12, h13⟩ := hM
      refine ⟨rfl, rfl, (upC.put _ _ (by decide)).tr (upC.put _ _ (by decide)), H'.chg hs rfl (sT A (fdT (aT A) a b c d e)) rfl ?_ ?_ (h7.mf hs rfl rfl) (h8.mf hs rfl rfl) ?_ ⟨?_, fun j hj => ?_⟩ (fun j hj => ?_) ?_ (h13.mf hs rfl rfl)⟩
      · rw [hs.2.2 _ rfl, hs.2.2 _ rfl]; exact h5
      · rw [hs.1 365 (by decide) rfl]; exact h6
      · rw [hs.2.1 326 (by decide)]; exact h9
      · rw [sR_0, pk_us]; rfl
      · have hj : j < (aT A).1 + 20 := hj
        show (sI (sI σ 327 f) 326 (upd (σ.1 326) 1 (nI ((aT A).1 + 20)))).1 327 j = nI (if (aT A).1 ≤ j ∧ j < (aT A).1 + 20 then byt (sel a b c d e (j - (aT A).1)) (24 - 8 * ((j - (aT A).1) % 4)) else (aT A).2 j)
        rw [sR_1 _ _ (by decide), sR_0, hf j]
        by_cases hc : (aT A).1 ≤ j ∧ j < (aT A).1 + 20
        · rw [if_pos hc, if_pos hc]
        · rw [if_neg hc, if_neg hc]; exact h10.2 j (by omega)
      · rw [hs.1 328 (by decide) rfl]; exact h11 j hj
      · rw [hs.2.2 _ rfl, hs.2.2 _ rfl]; exact h12
  · refine ⟨-1, sU A 0, hA.refu 0, ?_, fun ρ σ hM => ?_⟩
    · refine T_of rfl ?_
      refine Ev_aload rfl rfl rfl ?_
      refine Ev_getI rfl (by first | rfl | assumption) ?_
      refine Ev_norm hT.1 ?_
      refine Ev_const rfl ?_
      refine Ev_iadd rfl ?_
      refine Ev_norm (nI_add (aT A).1 20) ?_
      refine Ev_const rfl ?_
      refine Ev_icmp_le rfl (fun h10 => absurd h10 (nI_ge (a := 1600) (by omega) (by omega))) (fun h10 => ?_)
      refine Ev_aload rfl rfl rfl ?_
      refine Ev_const rfl ?_
      refine Ev_callV rfl rfl rfl rfl rfl (same_n 402) (t_refuse _ hρ (w := 0) (by decide)) ?_
      rintro v15 ρ15 σ15 ⟨rfl, e15, g15⟩
      obtain rfl := e15.symm
      obtain rfl := g15.symm
      exact Ev_ireturn rfl rfl rfl rfl ⟨rfl, hρ, upM.bump _, q, hC.refu (by decide)⟩
    · have hρ := hM.1
      refine T_of rfl ?_
      refine Ev_aload rfl rfl rfl ?_
      refine Ev_getI rfl (by first | rfl | assumption) ?_
      refine Ev_norm hM.2.2.2.2.2.2.2.1.1 ?_
      refine Ev_const rfl ?_
      refine Ev_iadd rfl ?_
      refine Ev_norm (nI_add (aT A).1 20) ?_
      refine Ev_const rfl ?_
      refine Ev_icmp_le rfl (fun h10 => absurd h10 (nI_ge (a := 1600) (by omega) (by omega))) (fun h10 => ?_)
      refine Ev_aload rfl rfl rfl ?_
      refine Ev_getR rfl (by first | rfl | assumption) (hρ _ _ _ rfl) ?_
      refine Ev_const rfl ?_
      refine Ev_dup2 rfl (fun _ q => nomatch q) (fun _ q => nomatch q) ?_
      refine Ev_iald rfl (by first | rfl | assumption) (vp_in_nI (n := 0) (by decide) (by decide)) ?_
      refine Ev_const rfl ?_
      refine Ev_iadd rfl ?_
      refine Ev_iast rfl (by first | rfl | assumption) (vp_in_nI (n := 0) (by decide) (by decide)) ?_
      refine Ev_const rfl ?_
      exact Ev_ireturn rfl rfl rfl rfl ⟨rfl, rfl, upC.put _ _ (by decide), hM.refu (w := 0) (by decide)⟩
end S62
