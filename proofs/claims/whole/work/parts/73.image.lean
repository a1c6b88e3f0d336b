/-! An image, written. -/
def ck (f : Nat → Nat) : Nat → Nat
  | 0 => 239
  | n + 1 => (3 * ck f n + f n) % 251
theorem ck_lt (f : Nat → Nat) (n : Nat) : ck f n < 251 := by
  cases n with
  | zero => exact (by decide : 239 < 251)
  | succ n => exact Nat.mod_lt _ (by decide)
theorem ck_congr {f g : Nat → Nat} : ∀ {n : Nat}, (∀ j, j < n → f j = g j) → ck f n = ck g n := by
  intro n
  induction n with
  | zero => intro _; rfl
  | succ n ih =>
    intro h
    show (3 * ck f n + f n) % 251 = (3 * ck g n + g n) % 251
    rw [ih (fun j hj => h j (by omega)), h n (by omega)]
def imM (B : Bh) : Nat := 2 + nb B * ni B + 2 * np B
def im0 (B : Bh) (N : Mo) (j : Nat) : Nat := if j = 0 then N.1 / 256 else if j = 1 then N.1 % 256 else if j < 2 + nb B * ni B then N.2.1 ((j - 2) / ni B) ((j - 2) % ni B) else N.2.2.1 (j - (2 + nb B * ni B))
def imA (B : Bh) (N : Mo) : Nat × (Nat → Nat) := (imM B + 1, fun j => if j = imM B then ck (im0 B N) (imM B) else if j < imM B then im0 B N j else 0)
theorem im0_S {B : Bh} {N : Mo} {b i : Nat} (hb : b < nb B) (hi : i < ni B) : 2 + b * ni B + i < 2 + nb B * ni B ∧ im0 B N (2 + b * ni B + i) = N.2.1 b i := by
  have h1 : (b + 1) * ni B ≤ nb B * ni B := Nat.mul_le_mul_right _ hb
  rw [Nat.succ_mul] at h1
  have h2 : 2 + b * ni B + i < 2 + nb B * ni B := by omega
  refine ⟨h2, ?_⟩
  unfold im0
  rw [if_neg (by omega), if_neg (by omega), if_pos h2, show 2 + b * ni B + i - 2 = i + ni B * b by rw [Nat.mul_comm]; omega, Nat.add_mul_div_left _ _ (by omega), Nat.add_mul_mod_self_left, Nat.div_eq_of_lt hi, Nat.zero_add, Nat.mod_eq_of_lt hi]
theorem im0_P {B : Bh} {N : Mo} {k : Nat} : im0 B N (2 + nb B * ni B + k) = N.2.2.1 k := by
  unfold im0
  rw [if_neg (by omega), if_neg (by omega), if_neg (by omega), Nat.add_sub_cancel_left]
theorem imM_le {B : Bh} (hW : WfN B) : imM B ≤ 82 := by
  have h1 := Nat.mul_le_mul hW.2.1 hW.1
  have h2 := hW.2.2.2.1
  unfold imM
  omega
theorem im0_lt {B : Bh} {N : Mo} (hW : WfN B) (hN : WfM B N) {j : Nat} (hj : j < imM B) : im0 B N j < 256 := by
  have h9 := hN.1
  unfold im0
  by_cases h0 : j = 0
  · rw [if_pos h0]; omega
  · rw [if_neg h0]
    by_cases h1 : j = 1
    · rw [if_pos h1]; omega
    · rw [if_neg h1]
      by_cases h2 : j < 2 + nb B * ni B
      · rw [if_pos h2]; have := (hN.2.1 ((j - 2) / ni B) ((j - 2) % ni B)).1; omega
      · rw [if_neg h2]
        have h3 : (j - (2 + nb B * ni B)) / 2 < np B := by unfold imM at hj; omega
        have h4 := hN.2.2.1 _ h3
        have n8 := hW.1
        have n6 := hW.2.1
        rcases Nat.mod_two_eq_zero_or_one (j - (2 + nb B * ni B)) with q | q
        · rw [show 2 * ((j - (2 + nb B * ni B)) / 2) = j - (2 + nb B * ni B) by omega] at h4; omega
        · rw [show 2 * ((j - (2 + nb B * ni B)) / 2) + 1 = j - (2 + nb B * ni B) by omega] at h4; omega
def WsI (σ : St) (g : Nat → Int32) (w : Nat) : St := sI (sI σ 324 g) 0 (upd (σ.1 0) 12 (nI w))
def MsI (σ : St) (g : Nat → Int32) (w : Nat) : St := sI (sI σ 401 g) 326 (upd (σ.1 326) 110 (nI w))
theorem st_ws (σ : St) (a c : Nat → Int32) (b d : Nat → Int32) : sI (sI (sI (sI σ 324 a) 0 b) 324 c) 0 d = sI (sI σ 324 c) 0 d := by
  refine Prod.ext (funext fun q => ?_) rfl
  rw [sI_1, sI_1, sI_1, sI_1, sI_1, sI_1]
  by_cases h0 : q = 0
  · rw [if_pos h0, if_pos h0]
  · rw [if_neg h0, if_neg h0, if_neg h0]
    by_cases h1 : q = 324
    · rw [if_pos h1, if_pos h1]
    · rw [if_neg h1, if_neg h1, if_neg h1]
theorem st_ms (σ : St) (a c : Nat → Int32) (b d : Nat → Int32) : sI (sI (sI (sI σ 401 a) 326 b) 401 c) 326 d = sI (sI σ 401 c) 326 d := by
  refine Prod.ext (funext fun q => ?_) rfl
  rw [sI_1, sI_1, sI_1, sI_1, sI_1, sI_1]
  by_cases h0 : q = 326
  · rw [if_pos h0, if_pos h0]
  · rw [if_neg h0, if_neg h0, if_neg h0]
    by_cases h1 : q = 401
    · rw [if_pos h1, if_pos h1]
    · rw [if_neg h1, if_neg h1, if_neg h1]
theorem WsI_x (σ : St) (g : Nat → Int32) (w : Nat) {k : Nat} (h0 : k ≠ 0) (h1 : k ≠ 324) : (WsI σ g w).1 k = σ.1 k := by unfold WsI; rw [sR_1 _ _ h0, sR_1 _ _ h1]
theorem MsI_x (σ : St) (g : Nat → Int32) (w : Nat) {k : Nat} (h0 : k ≠ 326) (h1 : k ≠ 401) : (MsI σ g w).1 k = σ.1 k := by unfold MsI; rw [sR_1 _ _ h0, sR_1 _ _ h1]
def gOk (g : Nat → Int32) (w : Nat) (z : Nat → Int32) : Prop := ∀ j, j < w → g j = z j
theorem gOk.add {g : Nat → Int32} {w : Nat} {z : Nat → Int32} {x : Int32} (h : gOk g w z) (hx : x = z w) : gOk (upd g w x) (w + 1) z := fun j hj => by
  by_cases hq : j = w
  · rw [hq, pk_us, hx]
  · rw [pk_un hq]; exact h j (by omega)
section S73
variable {l : Launch} {X : Cx} {ρ : Rf} {B : Bh} {q : Nat}
theorem t_write (d : Nat) {σ : St} {g : Nat → Int32} {w v : Nat} (hρ : RF ρ) (hw : w < 83) (hv : v < 256) : T l X d 142 [.ref 0, .int (nI v)] 402 402 ρ (WsI σ g w) (fun u ρ' σ' => u = none ∧ ρ' = ρ ∧ σ' = WsI σ (upd g w (sb v)) (w + 1)) := by
  have e : (WsI σ g w).1 0 12 = nI w := by unfold WsI; rw [sR_0]; exact pk_us
  refine T_of rfl ?_
  refine Ev_aload rfl rfl rfl ?_
  refine Ev_getI rfl (by first | rfl | assumption) ?_
  refine Ev_norm e ?_
  refine Ev_const rfl ?_
  refine Ev_icmp_ge rfl (fun h6 => absurd h6 (nI_ge (b := 83) hw (by decide))) (fun h6 => ?_)
  refine Ev_aload rfl rfl rfl ?_
  refine Ev_getR rfl (by first | rfl | assumption) (hρ _ _ _ rfl) ?_
  refine Ev_aload rfl rfl rfl ?_
  refine Ev_getI rfl (by first | rfl | assumption) ?_
  refine Ev_norm e ?_
  refine Ev_iload rfl rfl ?_
  refine Ev_i2b rfl ?_
  refine Ev_norm (show _ = sb v from rfl) ?_
  refine Ev_bast rfl (by first | rfl | assumption) (vp_in_nI (n := w) (show w < 83 by omega) (by decide)) ?_
  rw [nI_clamp (show w < 2 ^ 31 by omega), sb_sb _ hv]
  refine Ev_aload rfl rfl rfl ?_
  refine Ev_dup rfl (fun _ q => nomatch q) ?_
  refine Ev_getI rfl (by first | rfl | assumption) ?_
  refine Ev_norm (by rw [sR_1 _ _ (by decide)]; exact e : _ = nI w) ?_
  refine Ev_const rfl ?_
  refine Ev_iadd rfl ?_
  refine Ev_norm (nI_1 w) ?_
  refine Ev_putI rfl (by first | rfl | assumption) ⟨rfl, rfl⟩ rfl ?_
  exact Ev_return rfl rfl rfl ⟨rfl, rfl, by
  unfold WsI
  rw [sR_1 _ _ (show (324 : Nat) ≠ 0 by decide), sR_0, sR_1 _ _ (show (0 : Nat) ≠ 324 by decide), sR_0, upd_2, st_ws]⟩
theorem ch_lp {d k n L : Nat} {σ : St} {f : Nat → Nat} (hk : isA 402 k 1 = true) (hL : (shp k).2 = L) (hn : n ≤ L) (hL2 : L < 10000) (hf : ∀ j, j < n → σ.1 k j = sb (f j)) (h256 : ∀ j, j < n → f j < 256) : ∀ (m j : Nat), j + m = n → Ev l X d 160 6 [.ref k, .int (nI n), .int (nI (ck f j)), .int (nI j)] [] 402 402 402 ρ σ (Rs (.int (nI (ck f n))) ρ σ) := by
  have hlt := isA_lt hk
  intro m
  induction m with
  | zero =>
    intro j hj
    have hj : j = n := by omega
    subst hj
    refine Ev_iload rfl rfl ?_
    refine Ev_iload rfl rfl ?_
    refine Ev_icmp_ge rfl (fun h8 => ?_) (fun h8 => absurd (nI_le (Nat.le_refl _) (by omega)) h8)
    refine Ev_iload rfl rfl ?_
    exact Ev_ireturn rfl rfl rfl rfl ⟨rfl, rfl, rfl⟩
  | succ m ih =>
    intro j hj
    have hc := ck_lt f j
    have hb := h256 j (by omega)
    refine Ev_iload rfl rfl ?_
    refine Ev_iload rfl rfl ?_
    refine Ev_icmp_ge rfl (fun h8 => absurd h8 (nI_ge (by omega) (by omega))) (fun h8 => ?_)
    refine Ev_iload rfl rfl ?_
    refine Ev_aload rfl rfl rfl ?_
    refine Ev_alen rfl (by rw [Nat.blt_eq.mpr hlt.1, hlt.2]; rfl) ?_
    refine Ev_norm (by rw [hL]; rfl : _ = nI L) ?_
    refine Ev_icmp_ge rfl (fun h14 => absurd h14 (nI_ge (by omega) (by omega))) (fun h14 => ?_)
    refine Ev_const rfl ?_
    refine Ev_iload rfl rfl ?_
    refine Ev_imul rfl ?_
    refine Ev_norm (pk_mul 3 (ck f j) : _ = nI (3 * ck f j)) ?_
    refine Ev_aload rfl rfl rfl ?_
    refine Ev_iload rfl rfl ?_
    refine Ev_bald rfl hk (by rw [hL]; exact vp_in_nI (n := j) (by omega) (by omega)) ?_
    refine Ev_norm (by rw [nI_clamp (by omega)]; exact hf j (by omega) : _ = sb (f j)) ?_
    refine Ev_const rfl ?_
    refine Ev_iand rfl ?_
    refine Ev_norm (sb_and _ hb) ?_
    refine Ev_iadd rfl ?_
    refine Ev_norm (nI_add _ _) ?_
    refine Ev_const rfl ?_
    refine Ev_irem rfl (by decide : ¬ (251 : Int32) = 0) ?_
    refine Ev_norm (pk_rem (a := 3 * ck f j + f j) (d := 251) (by omega) (by decide) (by decide) : _ = nI ((3 * ck f j + f j) % 251)) ?_
    refine Ev_istore rfl ?_
    refine Ev_iincE rfl rfl (nI_1 j) ?_
    refine Ev_goto rfl ?_
    exact ih (j + 1) (by omega)
theorem t_checkOf (d : Nat) {k n L : Nat} {σ : St} {f : Nat → Nat} (hk : isA 402 k 1 = true) (hL : (shp k).2 = L) (hn : n ≤ L) (hL2 : L < 10000) (hf : ∀ j, j < n → σ.1 k j = sb (f j)) (h256 : ∀ j, j < n → f j < 256) : T l X d 160 [.ref k, .int (nI n)] 402 402 ρ σ (Rs (.int (nI (ck f n))) ρ σ) := by
  refine T_of rfl ?_
  refine Ev_const rfl ?_
  refine Ev_istore rfl ?_
  refine Ev_const rfl ?_
  refine Ev_istore rfl ?_
  exact ch_lp hk hL hn hL2 hf h256 n 0 (by omega)
theorem wi_loop {d b : Nat} {σ : St} {N : Mo} {Q : Po} (hb0 : ρ 0 2 = some q) (hR : CRd ρ σ q B) (hW : WfN B) (hN : WfM B N) (hS : CStr σ N.2.1) (hb : b < nb B)
    (hQ : ∀ g, gOk g (2 + (b + 1) * ni B) (fun j => sb (im0 B N j)) → Ev l X (d + 1) 141 81 [.ref 0, .int (nI b), .int (nI (ni B))] [] 402 402 402 ρ (WsI σ g (2 + (b + 1) * ni B)) Q) :
    ∀ (m i : Nat) (g : Nat → Int32), i + m = ni B → gOk g (2 + b * ni B + i) (fun j => sb (im0 B N j)) → Ev l X (d + 1) 141 49 [.ref 0, .int (nI b), .int (nI i)] [] 402 402 402 ρ (WsI σ g (2 + b * ni B + i)) Q := by
  have hρ := hR.1
  have n8 := hW.1
  have n6 := hW.2.1
  intro m
  induction m with
  | zero =>
    intro i g hi hg
    have hi : i = ni B := by omega
    subst hi
    refine Ev_iload rfl rfl ?_
    refine Ev_aload rfl rfl rfl ?_
    refine Ev_getR rfl (by first | rfl | assumption) hb0 ?_
    refine Ev_getI rfl (by rcases hR.2.1 with rfl | rfl <;> rfl) ?_
    refine Ev_norm (by rw [WsI_x _ _ _ (by have := hR.2.1; omega) (by have := hR.2.1; omega)]; exact hR.2.2.2.1.1 : _ = nI (ni B)) ?_
    refine Ev_icmp_ge rfl (fun h57 => ?_) (fun h57 => absurd (nI_le (Nat.le_refl _) (by omega)) h57)
    have e : 2 + b * ni B + ni B = 2 + (b + 1) * ni B := by rw [Nat.succ_mul]; omega
    rw [e] at hg ⊢
    exact hQ g hg
  | succ m ih =>
    intro i g hi hg
    have hi2 : i < ni B := by omega
    have hs := im0_S (N := N) hb hi2
    have h82 := imM_le hW
    have hM : imM B = 2 + nb B * ni B + 2 * np B := rfl
    have h99 := (hN.2.1 b i).1
    refine Ev_iload rfl rfl ?_
    refine Ev_aload rfl rfl rfl ?_
    refine Ev_getR rfl (by first | rfl | assumption) hb0 ?_
    refine Ev_getI rfl (by rcases hR.2.1 with rfl | rfl <;> rfl) ?_
    refine Ev_norm (by rw [WsI_x _ _ _ (by have := hR.2.1; omega) (by have := hR.2.1; omega)]; exact hR.2.2.2.1.1 : _ = nI (ni B)) ?_
    refine Ev_icmp_ge rfl (fun h57 => absurd h57 (nI_ge (by omega) (by omega))) (fun h57 => ?_)
    refine Ev_aload rfl rfl rfl ?_
    refine Ev_aload rfl rfl rfl ?_
    refine Ev_getR rfl (by first | rfl | assumption) (hρ _ _ _ rfl) ?_
    refine Ev_getR rfl (by first | rfl | assumption) (hρ _ _ _ rfl) ?_
    refine Ev_iload rfl rfl ?_
    refine Ev_aald (t := 4) rfl (Or.inl rfl) (by first | rfl | assumption) (vp_in_nI (n := b) (show b < 6 by omega) (by decide)) (by rw [nI_clamp (by omega)]; exact rf33 hρ (by omega) : _ = some (34 + b)) ?_
    refine Ev_iload rfl rfl ?_
    refine Ev_iald rfl ((rowN (show b < 6 by omega)).1) (by rw [(rowN (show b < 6 by omega)).2.1]; exact vp_in_nI (n := i) (show i < 8 by omega) (by decide)) ?_
    refine Ev_norm (by rw [nI_clamp (by omega), WsI_x _ _ _ (by omega) (by omega)]; exact hS b (by omega) i (by omega) : _ = nI (N.2.1 b i)) ?_
    refine Ev_callV rfl rfl rfl rfl rfl (same_n 402) (t_write _ hρ (by omega) (by omega)) ?_
    rintro v72 ρ72 σ72 ⟨rfl, e72, g72⟩
    obtain rfl := e72.symm
    subst g72
    refine Ev_iincE rfl rfl (nI_1 i) ?_
    refine Ev_goto rfl ?_
    exact ih (i + 1) _ (by omega) (hg.add (by rw [hs.2]))
theorem wb_loop {d : Nat} {σ : St} {N : Mo} {Q : Po} (hb0 : ρ 0 2 = some q) (hR : CRd ρ σ q B) (hW : WfN B) (hN : WfM B N) (hS : CStr σ N.2.1)
    (hQ : ∀ g w, gOk g (2 + nb B * ni B) (fun j => sb (im0 B N j)) → Ev l X (d + 1) 141 87 [.ref 0, .int (nI (nb B)), w] [] 402 402 402 ρ (WsI σ g (2 + nb B * ni B)) Q) :
    ∀ (m b : Nat) (g : Nat → Int32) (w : Value), b + m = nb B → gOk g (2 + b * ni B) (fun j => sb (im0 B N j)) → Ev l X (d + 1) 141 36 [.ref 0, .int (nI b), w] [] 402 402 402 ρ (WsI σ g (2 + b * ni B)) Q := by
  have n8 := hW.1
  have n6 := hW.2.1
  intro m
  induction m with
  | zero =>
    intro b g w hb hg
    have hb : b = nb B := by omega
    subst hb
    refine Ev_iload rfl rfl ?_
    refine Ev_aload rfl rfl rfl ?_
    refine Ev_getR rfl (by first | rfl | assumption) hb0 ?_
    refine Ev_getI rfl (by rcases hR.2.1 with rfl | rfl <;> rfl) ?_
    refine Ev_norm (by rw [WsI_x _ _ _ (by have := hR.2.1; omega) (by have := hR.2.1; omega)]; exact hR.2.2.2.1.2.2.1 : _ = nI (nb B)) ?_
    refine Ev_icmp_ge rfl (fun h44 => ?_) (fun h44 => absurd (nI_le (Nat.le_refl _) (by omega)) h44)
    exact hQ g w hg
  | succ m ih =>
    intro b g w hb hg
    refine Ev_iload rfl rfl ?_
    refine Ev_aload rfl rfl rfl ?_
    refine Ev_getR rfl (by first | rfl | assumption) hb0 ?_
    refine Ev_getI rfl (by rcases hR.2.1 with rfl | rfl <;> rfl) ?_
    refine Ev_norm (by rw [WsI_x _ _ _ (by have := hR.2.1; omega) (by have := hR.2.1; omega)]; exact hR.2.2.2.1.2.2.1 : _ = nI (nb B)) ?_
    refine Ev_icmp_ge rfl (fun h44 => absurd h44 (nI_ge (by omega) (by omega))) (fun h44 => ?_)
    refine Ev_const rfl ?_
    refine Ev_istore rfl ?_
    refine wi_loop hb0 hR hW hN hS (by omega) (fun g2 hg2 => ?_) (ni B) 0 g (by omega) hg
    refine Ev_iincE rfl rfl (nI_1 b) ?_
    refine Ev_goto rfl ?_
    exact ih (b + 1) g2 _ (by omega) hg2
theorem wk_loop {d : Nat} {σ : St} {N : Mo} {Q : Po} (hρ : RF ρ) (hW : WfN B) (hN : WfM B N) (hP : CPl σ 32 B N.2.2.1)
    (hQ : ∀ g w, gOk g (imM B) (fun j => sb (im0 B N j)) → Ev l X (d + 1) 141 132 [.ref 0, .int (nI (np B)), w] [] 402 402 402 ρ (WsI σ g (imM B)) Q) :
    ∀ (m k : Nat) (g : Nat → Int32) (w : Value), k + m = np B → gOk g (2 + nb B * ni B + 2 * k) (fun j => sb (im0 B N j)) → Ev l X (d + 1) 141 89 [.ref 0, .int (nI k), w] [] 402 402 402 ρ (WsI σ g (2 + nb B * ni B + 2 * k)) Q := by
  have n8 := hW.1
  have n6 := hW.2.1
  have n16 := hW.2.2.2.1
  intro m
  induction m with
  | zero =>
    intro k g w hk hg
    have hk : k = np B := by omega
    subst hk
    refine Ev_iload rfl rfl ?_
    refine Ev_aload rfl rfl rfl ?_
    refine Ev_getR rfl (by first | rfl | assumption) (hρ _ _ _ rfl) ?_
    refine Ev_getI rfl (by first | rfl | assumption) ?_
    refine Ev_norm (by rw [WsI_x _ _ _ (by decide) (by decide)]; exact hP.1 : _ = nI (np B)) ?_
    refine Ev_icmp_ge rfl (fun h97 => ?_) (fun h97 => absurd (nI_le (Nat.le_refl _) (by omega)) h97)
    exact hQ g w hg
  | succ m ih =>
    intro k g w hk hg
    have hl := hN.2.2.1 k (by omega)
    have h82 := imM_le hW
    have hM : imM B = 2 + nb B * ni B + 2 * np B := rfl
    have c1 := (hP.2 k (by omega)).1
    have c2 := (hP.2 k (by omega)).2
    refine Ev_iload rfl rfl ?_
    refine Ev_aload rfl rfl rfl ?_
    refine Ev_getR rfl (by first | rfl | assumption) (hρ _ _ _ rfl) ?_
    refine Ev_getI rfl (by first | rfl | assumption) ?_
    refine Ev_norm (by rw [WsI_x _ _ _ (by decide) (by decide)]; exact hP.1 : _ = nI (np B)) ?_
    refine Ev_icmp_ge rfl (fun h97 => absurd h97 (nI_ge (by omega) (by omega))) (fun h97 => ?_)
    refine Ev_aload rfl rfl rfl ?_
    refine Ev_aload rfl rfl rfl ?_
    refine Ev_getR rfl (by first | rfl | assumption) (hρ _ _ _ rfl) ?_
    refine Ev_getR rfl (by first | rfl | assumption) (hρ _ _ _ rfl) ?_
    refine Ev_iload rfl rfl ?_
    refine Ev_iald rfl (by first | rfl | assumption) (vp_in_nI (n := k) (show k < 16 by omega) (by decide)) ?_
    refine Ev_norm (by rw [nI_clamp (by omega), WsI_x _ _ _ (by decide) (by decide)]; exact c1 : _ = nI (N.2.2.1 (2 * k))) ?_
    refine Ev_callV rfl rfl rfl rfl rfl (same_n 402) (t_write _ hρ (by omega) (by omega)) ?_
    rintro v110 ρ110 σ110 ⟨rfl, e110, g110⟩
    obtain rfl := e110.symm
    subst g110
    refine Ev_aload rfl rfl rfl ?_
    refine Ev_aload rfl rfl rfl ?_
    refine Ev_getR rfl (by first | rfl | assumption) (hρ _ _ _ rfl) ?_
    refine Ev_getR rfl (by first | rfl | assumption) (hρ _ _ _ rfl) ?_
    refine Ev_iload rfl rfl ?_
    refine Ev_iald rfl (by first | rfl | assumption) (vp_in_nI (n := k) (show k < 16 by omega) (by decide)) ?_
    refine Ev_norm (by rw [nI_clamp (by omega), WsI_x _ _ _ (by decide) (by decide)]; exact c2 : _ = nI (N.2.2.1 (2 * k + 1))) ?_
    refine Ev_callV rfl rfl rfl rfl rfl (same_n 402) (t_write _ hρ (by omega) (by omega)) ?_
    rintro v123 ρ123 σ123 ⟨rfl, e123, g123⟩
    obtain rfl := e123.symm
    subst g123
    refine Ev_iincE rfl rfl (nI_1 k) ?_
    refine Ev_goto rfl ?_
    exact ih (k + 1) _ _ (by omega) ((hg.add (by rw [im0_P])).add (by rw [Nat.add_assoc, im0_P]))
end S73
