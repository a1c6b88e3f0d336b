/-! The reference's pile. -/
def lI (z : Int) : Int64 := Int64.ofInt z
theorem lI_to (x : Int64) : lI x.toInt = x := Int64.ofInt_toInt x
theorem lI_eq {x : Int64} {z : Int} (h : x.toInt = z) : x = lI z := by rw [← h, lI_to]
theorem to_lI {z : Int} (h : -9223372036854775808 ≤ z ∧ z < 9223372036854775808) : (lI z).toInt = z := Int64.toInt_ofInt_of_le (by omega) (by omega)
theorem z_lI {v : Int} (h : Bd v) : (lI v).toInt = v := to_lI ⟨by have := h.1; omega, by have := h.2; omega⟩
theorem nI_lI (n : Nat) (h : n < 2 ^ 31) : (nI n).toInt64 = lI (n : Int) := lI_eq (by rw [l_of, nI_toInt h])
section S27
variable {l : Launch} {X : Cx} {ρ : Rf} {σ : St}
theorem Ev_normL {l : Launch} {X : Cx} {d i pc : Nat} {ls st : List Value} {n0 n1 n : Nat} {ρ : Rf} {σ : St} {Q : Po} {x v : Int64} (h : x = v) (k : Ev l X d i pc ls (.long v :: st) n0 n1 n ρ σ Q) : Ev l X d i pc ls (.long x :: st) n0 n1 n ρ σ Q := by subst h; exact k
theorem m_qClip (d : Nat) (v : Int64) : T l X d 288 [.long v] 400 400 ρ σ (Rs (.long (lI (clip v.toInt))) ρ σ) := by
  have hA : (1000000 : Int64).toInt = 1000000 := by decide
  have hB : (-1000000 : Int64).toInt = -1000000 := by decide
  refine T_of rfl ?_
  refine Ev_lload rfl rfl ?_
  refine Ev_constL rfl ?_
  refine Ev_lcmp rfl ?_
  refine Ev_if_le rfl (fun h5 => ?_) (fun h5 => ?_)
  · refine Ev_lload rfl rfl ?_
    refine Ev_constL rfl ?_
    refine Ev_lcmp rfl ?_
    refine Ev_if_ge rfl (fun h19 => ?_) (fun h19 => ?_)
    · refine Ev_lload rfl rfl ?_
      exact Ev_lreturn rfl rfl rfl ⟨by
      rw [lc_le, Int64.lt_iff_toInt_lt] at h5
      rw [lc_ge, Int64.lt_iff_toInt_lt] at h19
      rw [clip_id ⟨by omega, by omega⟩, lI_to], rfl, rfl⟩
    · refine Ev_constL rfl ?_
      refine Ev_goto rfl ?_
      exact Ev_lreturn rfl rfl rfl ⟨by
      rw [lc_ge, Int64.lt_iff_toInt_lt] at h19
      have e : clip v.toInt = -1000000 := by
        unfold clip
        rw [if_neg (by omega), if_pos (by omega)]
      rw [e]
      rfl, rfl, rfl⟩
  · refine Ev_constL rfl ?_
    refine Ev_goto rfl ?_
    exact Ev_lreturn rfl rfl rfl ⟨by
    rw [lc_le, Int64.lt_iff_toInt_lt] at h5
    have e : clip v.toInt = 1000000 := by
      unfold clip
      rw [if_pos (by omega)]
    rw [e]
    rfl, rfl, rfl⟩
theorem w_div {x y : Int64} (hx : Bd x.toInt) : (x / y).toInt = x.toInt.tdiv y.toInt := by
  obtain ⟨h1, h2⟩ := hx
  have hm : x ≠ Int64.minValue := fun q => by
    rw [q] at h1
    exact absurd h1 (by decide)
  exact Int64.toInt_div_of_ne_left x y hm
theorem w_rem {x y : Int64} (hx : Bd x.toInt) (hy : Bd y.toInt) : (x - x / y * y).toInt = x.toInt.tmod y.toInt := by
  have hd := w_div (y := y) hx
  obtain ⟨h1, h2⟩ := hx
  have h3 := tmod_le x.toInt y.toInt
  have h4 : x.toInt.tmod y.toInt = x.toInt - y.toInt * x.toInt.tdiv y.toInt := Int.tmod_def _ _
  have h5 : x.toInt.tdiv y.toInt * y.toInt = x.toInt - x.toInt.tmod y.toInt := by rw [h4, Int.mul_comm]; omega
  rw [Int64.toInt_sub, Int64.toInt_mul, hd, h5, bm64 (z := x.toInt - x.toInt.tmod y.toInt) (by omega), bm64 (by omega)]
  omega
theorem w_div1 {x y : Int64} (hx : Bd x.toInt) : (x / y - 1).toInt = x.toInt.tdiv y.toInt - 1 := by
  have h := tdiv_le x.toInt y.toInt
  obtain ⟨h1, h2⟩ := hx
  rw [Int64.toInt_sub, w_div ⟨h1, h2⟩]
  exact bm64 (by have : (1 : Int64).toInt = 1 := rfl; omega)
theorem y_ne {y : Int64} (h : ¬ y = 0) : ¬ y.toInt = 0 := fun q => h (Int64.toInt_inj.mp q)
theorem l_ne0 {y : Int64} (h : ¬ lg_cmp y 0 = 0) : ¬ y = 0 := fun q => h ((lc_eq _ _).mpr q)
theorem l_ge0 {x : Int64} (h : 0 ≤ lg_cmp x 0) : ¬ x.toInt < 0 := by rw [lc_ge, Int64.lt_iff_toInt_lt] at h; exact h
theorem l_lt0 {x : Int64} (h : ¬ 0 ≤ lg_cmp x 0) : x.toInt < 0 := by
  have := (lc_lt _ _).mp (nle_lt h)
  rw [Int64.lt_iff_toInt_lt] at this
  exact this
theorem m_qFloor (d : Nat) {x y : Int64} (hx : Bd x.toInt) (hy : Bd y.toInt) : T l X d 289 [.long x, .long y] 400 400 ρ σ (Rs (.long (lI (flo x.toInt y.toInt))) ρ σ) := by
  refine T_of rfl ?_
  refine Ev_lload rfl rfl ?_
  refine Ev_constL rfl ?_
  refine Ev_lcmp rfl ?_
  refine Ev_if_ne rfl (fun h3 => ?_) (fun h3 => ?_)
  · refine Ev_lload rfl rfl ?_
    refine Ev_lload rfl rfl ?_
    refine Ev_ldiv rfl (l_ne0 h3) ?_
    refine Ev_lstore rfl ?_
    refine Ev_lload rfl rfl ?_
    refine Ev_lload rfl rfl ?_
    refine Ev_lrem rfl (l_ne0 h3) ?_
    refine Ev_constL rfl ?_
    refine Ev_lcmp rfl ?_
    refine Ev_if_eq rfl (fun h18 => ?_) (fun h18 => ?_)
    · refine Ev_lload rfl rfl ?_
      exact Ev_lreturn rfl rfl rfl ⟨by rw [flo_1 (y_ne (l_ne0 h3)) ((w_rem hx hy).symm.trans (by rw [(lc_eq _ _).mp h18]; rfl)), ← w_div hx, lI_to], rfl, rfl⟩
    · refine Ev_lload rfl rfl ?_
      refine Ev_constL rfl ?_
      refine Ev_lcmp rfl ?_
      refine Ev_if_ge rfl (fun h24 => ?_) (fun h24 => ?_)
      · refine Ev_const rfl ?_
        refine Ev_lload rfl rfl ?_
        refine Ev_constL rfl ?_
        refine Ev_lcmp rfl ?_
        refine Ev_if_ge rfl (fun h35 => ?_) (fun h35 => ?_)
        · refine Ev_const rfl ?_
          refine Ev_icmp_eq rfl (fun h43 => ?_) (fun h43 => absurd rfl h43)
          refine Ev_lload rfl rfl ?_
          exact Ev_lreturn rfl rfl rfl ⟨by rw [flo_2 (y_ne (l_ne0 h3)) ⟨fun q => absurd q (l_ge0 h24), fun q => absurd q (l_ge0 h35)⟩, ← w_div hx, lI_to], rfl, rfl⟩
        · refine Ev_const rfl ?_
          refine Ev_goto rfl ?_
          refine Ev_icmp_eq rfl (fun h43 => absurd h43 (by decide)) (fun h43 => ?_)
          refine Ev_lload rfl rfl ?_
          refine Ev_constL rfl ?_
          refine Ev_lsub rfl ?_
          refine Ev_goto rfl ?_
          exact Ev_lreturn rfl rfl rfl ⟨by rw [flo_3 (y_ne (l_ne0 h3)) (fun q => h18 ((lc_eq _ _).mpr (Int64.toInt_inj.mp ((w_rem hx hy).trans q)))) (fun q => absurd (q.mpr (l_lt0 h35)) (l_ge0 h24)), ← w_div1 hx, lI_to], rfl, rfl⟩
      · refine Ev_const rfl ?_
        refine Ev_goto rfl ?_
        refine Ev_lload rfl rfl ?_
        refine Ev_constL rfl ?_
        refine Ev_lcmp rfl ?_
        refine Ev_if_ge rfl (fun h35 => ?_) (fun h35 => ?_)
        · refine Ev_const rfl ?_
          refine Ev_icmp_eq rfl (fun h43 => absurd h43 (by decide)) (fun h43 => ?_)
          refine Ev_lload rfl rfl ?_
          refine Ev_constL rfl ?_
          refine Ev_lsub rfl ?_
          refine Ev_goto rfl ?_
          exact Ev_lreturn rfl rfl rfl ⟨by rw [flo_3 (y_ne (l_ne0 h3)) (fun q => h18 ((lc_eq _ _).mpr (Int64.toInt_inj.mp ((w_rem hx hy).trans q)))) (fun q => absurd (q.mp (l_lt0 h24)) (l_ge0 h35)), ← w_div1 hx, lI_to], rfl, rfl⟩
        · refine Ev_const rfl ?_
          refine Ev_goto rfl ?_
          refine Ev_icmp_eq rfl (fun h43 => ?_) (fun h43 => absurd rfl h43)
          refine Ev_lload rfl rfl ?_
          exact Ev_lreturn rfl rfl rfl ⟨by rw [flo_2 (y_ne (l_ne0 h3)) ⟨fun _ => l_lt0 h35, fun _ => l_lt0 h24⟩, ← w_div hx, lI_to], rfl, rfl⟩
  · refine Ev_constL rfl ?_
    exact Ev_lreturn rfl rfl rfl ⟨by rw [flo_0 (by rw [(lc_eq _ _).mp (Decidable.not_not.mp h3)]; rfl)]; rfl, rfl, rfl⟩
/-- the state with another pile -/
def MP (σ : St) (g : Nat → Int64) (n : Nat) : St := (fun q => if q = 324 then upd (σ.1 324) 106 (nI n) else σ.1 q, fun q => if q = 398 then g else σ.2 q)
theorem MP_p (σ : St) (g : Nat → Int64) (n : Nat) : (MP σ g n).2 398 = g := rfl
theorem MP_n (σ : St) (g : Nat → Int64) (n : Nat) : (MP σ g n).1 324 106 = nI n := rfl
theorem MP_q (σ : St) (g : Nat → Int64) (n : Nat) {q : Nat} (h : q ≠ 324) : (MP σ g n).1 q = σ.1 q := if_neg h
theorem MP_f (σ : St) (g : Nat → Int64) (n : Nat) {j : Nat} (h : j ≠ 106) : (MP σ g n).1 324 j = σ.1 324 j := pk_un h
theorem MP_put (σ : St) (g : Nat → Int64) (n : Nat) (v : Int64) (m : Nat) : sI (sL (MP σ g n) 398 (vp_updL g n v)) 324 (upd (upd (σ.1 324) 106 (nI n)) 106 (nI m)) = MP σ (vp_updL g n v) m := by
  refine Prod.ext (funext fun q => ?_) (funext fun q => ?_)
  · show (if q = 324 then _ else if q = 324 then _ else σ.1 q) = if q = 324 then _ else σ.1 q
    by_cases h : q = 324
    · rw [if_pos h, if_pos h]
      refine funext fun j => ?_
      by_cases hj : j = 106
      · subst hj; rw [pk_us, pk_us]
      · rw [pk_un hj, pk_un hj, pk_un hj]
    · rw [if_neg h, if_neg h, if_neg h]
  · show (if q = 398 then _ else if q = 398 then g else σ.2 q) = if q = 398 then _ else σ.2 q
    by_cases h : q = 398
    · rw [if_pos h, if_pos h]
    · rw [if_neg h, if_neg h, if_neg h]
theorem m_qPuts (d : Nat) (hρ : RF ρ) {g : Nat → Int64} {n : Nat} (hn : n < 1700) (v : Int64) : T l X d 290 [.ref 324, .long v] 400 400 ρ (MP σ g n) (fun w ρ' σ' => w = none ∧ ρ' = ρ ∧ σ' = MP σ (vp_updL g n v) (n + 1)) := by
  refine T_of rfl ?_
  refine Ev_aload rfl rfl rfl ?_
  refine Ev_getR rfl (by first | rfl | assumption) (hρ _ _ _ rfl) ?_
  refine Ev_aload rfl rfl rfl ?_
  refine Ev_getI rfl (by first | rfl | assumption) ?_
  refine Ev_norm (MP_n σ g n) ?_
  refine Ev_lload rfl rfl ?_
  refine Ev_last rfl (by first | rfl | assumption) (vp_in_nI (n := n) (show n < 1700 from hn) (by decide)) ?_
  refine Ev_aload rfl rfl rfl ?_
  refine Ev_dup rfl (fun _ q => nomatch q) ?_
  refine Ev_getI rfl (by first | rfl | assumption) ?_
  refine Ev_norm (MP_n σ g n : _ = nI n) ?_
  refine Ev_const rfl ?_
  refine Ev_iadd rfl ?_
  refine Ev_norm (nI_1 n) ?_
  refine Ev_putI rfl (by first | rfl | assumption) ⟨rfl, rfl⟩ rfl ?_
  exact Ev_return rfl rfl rfl ⟨rfl, rfl, by rw [nI_clamp (by omega)]; exact MP_put σ g n v (n + 1)⟩
end S27
