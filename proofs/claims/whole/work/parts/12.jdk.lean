/-! The JDK's methods that are reached. -/
def Re (r : Value) (ρ : Rf) (σ : St) : Po := fun v ρ' σ' => v = some r ∧ ρ' = ρ ∧ σ' = σ
def Ru (ρ : Rf) (σ : St) : Po := fun v ρ' σ' => v = none ∧ ρ' = ρ ∧ σ' = σ
abbrev same_n (n : Nat) : n ≤ n ∧ n ≤ n ∧ n ≤ n := ⟨Nat.le_refl n, Nat.le_refl n, Nat.le_refl n⟩
def bitC (x : Int32) : Int32 :=
  let a := x - ((x.toUInt32 >>> ((1 : Int32).toUInt32 &&& Int32.toUInt32 31)).toInt32 &&& 1431655765)
  let b := (a &&& 858993459) + ((a.toUInt32 >>> ((2 : Int32).toUInt32 &&& Int32.toUInt32 31)).toInt32 &&& 858993459)
  let c := (b + (b.toUInt32 >>> ((4 : Int32).toUInt32 &&& Int32.toUInt32 31)).toInt32) &&& 252645135
  let d := c + (c.toUInt32 >>> ((8 : Int32).toUInt32 &&& Int32.toUInt32 31)).toInt32
  let e := d + (d.toUInt32 >>> ((16 : Int32).toUInt32 &&& Int32.toUInt32 31)).toInt32
  e &&& 63
section JDK
variable {l : Launch} {X : Cx} {n : Nat} {ρ : Rf} {σ : St}
theorem t_bitCount (d : Nat) (x : Int32) : T l X d 306 [.int x] n n ρ σ (Re (.int (bitC x)) ρ σ) := by
  refine T_of rfl ?_
  refine Ev_iload rfl rfl ?_
  refine Ev_iload rfl rfl ?_
  refine Ev_const rfl ?_
  refine Ev_iushr rfl ?_
  refine Ev_const rfl ?_
  refine Ev_iand rfl ?_
  refine Ev_isub rfl ?_
  refine Ev_istore rfl ?_
  refine Ev_iload rfl rfl ?_
  refine Ev_const rfl ?_
  refine Ev_iand rfl ?_
  refine Ev_iload rfl rfl ?_
  refine Ev_const rfl ?_
  refine Ev_iushr rfl ?_
  refine Ev_const rfl ?_
  refine Ev_iand rfl ?_
  refine Ev_iadd rfl ?_
  refine Ev_istore rfl ?_
  refine Ev_iload rfl rfl ?_
  refine Ev_iload rfl rfl ?_
  refine Ev_const rfl ?_
  refine Ev_iushr rfl ?_
  refine Ev_iadd rfl ?_
  refine Ev_const rfl ?_
  refine Ev_iand rfl ?_
  refine Ev_istore rfl ?_
  refine Ev_iload rfl rfl ?_
  refine Ev_iload rfl rfl ?_
  refine Ev_const rfl ?_
  refine Ev_iushr rfl ?_
  refine Ev_iadd rfl ?_
  refine Ev_istore rfl ?_
  refine Ev_iload rfl rfl ?_
  refine Ev_iload rfl rfl ?_
  refine Ev_const rfl ?_
  refine Ev_iushr rfl ?_
  refine Ev_iadd rfl ?_
  refine Ev_istore rfl ?_
  refine Ev_iload rfl rfl ?_
  refine Ev_const rfl ?_
  refine Ev_iand rfl ?_
  exact Ev_ireturn rfl rfl rfl rfl ⟨rfl, rfl, rfl⟩
theorem t_max (d : Nat) (x y : Int32) : T l X d 307 [.int x, .int y] n n ρ σ (Re (.int (if x < y then y else x)) ρ σ) := by
  refine T_of rfl ?_
  refine Ev_iload rfl rfl ?_
  refine Ev_iload rfl rfl ?_
  refine Ev_icmp_lt rfl (fun h => ?_) (fun h => ?_)
  · refine Ev_iload rfl rfl ?_
    exact Ev_ireturn rfl rfl rfl rfl ⟨by rw [if_pos h], rfl, rfl⟩
  · refine Ev_iload rfl rfl ?_
    refine Ev_goto rfl ?_
    exact Ev_ireturn rfl rfl rfl rfl ⟨by rw [if_neg h], rfl, rfl⟩
theorem t_min (d : Nat) (x y : Int32) : T l X d 308 [.int x, .int y] n n ρ σ (Re (.int (if y < x then y else x)) ρ σ) := by
  refine T_of rfl ?_
  refine Ev_iload rfl rfl ?_
  refine Ev_iload rfl rfl ?_
  refine Ev_icmp_gt rfl (fun h => ?_) (fun h => ?_)
  · refine Ev_iload rfl rfl ?_
    exact Ev_ireturn rfl rfl rfl rfl ⟨by rw [if_pos h], rfl, rfl⟩
  · refine Ev_iload rfl rfl ?_
    refine Ev_goto rfl ?_
    exact Ev_ireturn rfl rfl rfl rfl ⟨by rw [if_neg h], rfl, rfl⟩
theorem lc_lt (x y : Int64) : lg_cmp x y < 0 ↔ x < y := by
  unfold lg_cmp
  by_cases h : x > y
  · rw [if_pos h]
    constructor
    · intro q; exact absurd q (by decide)
    · intro q
      exfalso
      rw [gt_iff_lt, Int64.lt_iff_toInt_lt] at h
      rw [Int64.lt_iff_toInt_lt] at q
      omega
  · rw [if_neg h]
    by_cases h2 : x = y
    · rw [if_pos h2]
      constructor
      · intro q; exact absurd q (by decide)
      · intro q
        subst h2
        rw [Int64.lt_iff_toInt_lt] at q
        omega
    · rw [if_neg h2]
      constructor
      · intro _
        rw [gt_iff_lt, Int64.lt_iff_toInt_lt] at h
        rw [Int64.lt_iff_toInt_lt]
        have h3 : x.toInt ≠ y.toInt := fun q => h2 (Int64.toInt_inj.mp q)
        omega
      · intro _; decide
theorem lc_gt (x y : Int64) : 0 < lg_cmp x y ↔ y < x := by
  unfold lg_cmp
  by_cases h : x > y
  · rw [if_pos h]
    exact ⟨fun _ => h, fun _ => by decide⟩
  · rw [if_neg h]
    by_cases h2 : x = y
    · rw [if_pos h2]
      exact ⟨fun q => absurd q (by decide), fun q => absurd q h⟩
    · rw [if_neg h2]
      exact ⟨fun q => absurd q (by decide), fun q => absurd q h⟩
theorem lc_eq (x y : Int64) : lg_cmp x y = 0 ↔ x = y := by
  unfold lg_cmp
  by_cases h : x > y
  · rw [if_pos h]
    refine ⟨fun q => absurd q (by decide), fun q => ?_⟩
    subst q
    rw [gt_iff_lt, Int64.lt_iff_toInt_lt] at h
    omega
  · rw [if_neg h]
    by_cases h2 : x = y
    · rw [if_pos h2]
      exact ⟨fun _ => h2, fun _ => rfl⟩
    · rw [if_neg h2]
      exact ⟨fun q => absurd q (by decide), fun q => absurd q h2⟩
theorem t_maxL (d : Nat) (x y : Int64) : T l X d 309 [.long x, .long y] n n ρ σ (Re (.long (if x < y then y else x)) ρ σ) := by
  refine T_of rfl ?_
  refine Ev_lload rfl rfl ?_
  refine Ev_lload rfl rfl ?_
  refine Ev_lcmp rfl ?_
  refine Ev_if_lt rfl (fun h => ?_) (fun h => ?_)
  · refine Ev_lload rfl rfl ?_
    exact Ev_lreturn rfl rfl rfl ⟨by rw [if_pos ((lc_lt _ _).mp h)], rfl, rfl⟩
  · refine Ev_lload rfl rfl ?_
    refine Ev_goto rfl ?_
    exact Ev_lreturn rfl rfl rfl ⟨by rw [if_neg (fun q => h ((lc_lt _ _).mpr q))], rfl, rfl⟩
theorem t_minL (d : Nat) (x y : Int64) : T l X d 310 [.long x, .long y] n n ρ σ (Re (.long (if y < x then y else x)) ρ σ) := by
  refine T_of rfl ?_
  refine Ev_lload rfl rfl ?_
  refine Ev_lload rfl rfl ?_
  refine Ev_lcmp rfl ?_
  refine Ev_if_gt rfl (fun h => ?_) (fun h => ?_)
  · refine Ev_lload rfl rfl ?_
    exact Ev_lreturn rfl rfl rfl ⟨by rw [if_pos ((lc_gt _ _).mp h)], rfl, rfl⟩
  · refine Ev_lload rfl rfl ?_
    refine Ev_goto rfl ?_
    exact Ev_lreturn rfl rfl rfl ⟨by rw [if_neg (fun q => h ((lc_gt _ _).mpr q))], rfl, rfl⟩
theorem t_coder (d : Nat) {q : Nat} (hq : q < nStr) : T l X d 300 [.retAddr (2 * q)] n n ρ σ (Re (.int 0) ρ σ) := by
  refine T_of rfl ?_
  refine Ev_stat rfl rfl ?_
  refine Ev_if_eq rfl (fun h => absurd h (by decide)) (fun _ => ?_)
  refine Ev_aload rfl rfl rfl ?_
  refine Ev_strC rfl (by first | decide | assumption) ?_
  refine Ev_goto rfl ?_
  exact Ev_ireturn rfl rfl rfl rfl ⟨rfl, rfl, rfl⟩
theorem t_isLatin1 (d : Nat) {q : Nat} (hq : q < nStr) : T l X d 302 [.retAddr (2 * q)] n n ρ σ (Re (.int 1) ρ σ) := by
  refine T_of rfl ?_
  refine Ev_stat rfl rfl ?_
  refine Ev_if_eq rfl (fun h => absurd h (by decide)) (fun _ => ?_)
  refine Ev_aload rfl rfl rfl ?_
  refine Ev_strC rfl (by first | decide | assumption) ?_
  refine Ev_if_ne rfl (fun h => absurd rfl h) (fun _ => ?_)
  refine Ev_const rfl ?_
  refine Ev_goto rfl ?_
  exact Ev_ireturn rfl rfl rfl rfl ⟨rfl, rfl, rfl⟩
theorem t_length (d : Nat) {q : Nat} (hq : q < nStr) : T l X (d + 1) 299 [.retAddr (2 * q)] n n ρ σ (Re (.int (nI (strB q).length)) ρ σ) := by
  refine T_of rfl ?_
  refine Ev_aload rfl rfl rfl ?_
  refine Ev_strV rfl (by first | decide | assumption) ?_
  refine Ev_strLen rfl hq ?_
  refine Ev_aload rfl rfl rfl ?_
  refine Ev_callT rfl rfl rfl hq rfl (same_n n) (t_coder d hq) ?_
  rintro v ρ' σ' ⟨rfl, rfl, rfl⟩
  refine Ev_ishr rfl ?_
  exact Ev_ireturn rfl rfl rfl rfl ⟨by rw [sb_shr0]; rfl, rfl, rfl⟩
theorem t_preCheck (d : Nat) {x y : Int32} {f : Value} (h0 : ¬ x < 0) (h1 : x < y) (hf : f = .float 1) : T l X d 305 [.int x, .int y, f] n n ρ σ (Re (.int x) ρ σ) := by
  subst hf
  refine T_of rfl ?_
  refine Ev_iload rfl rfl ?_
  refine Ev_if_lt rfl (fun h => absurd h h0) (fun _ => ?_)
  refine Ev_iload rfl rfl ?_
  refine Ev_iload rfl rfl ?_
  refine Ev_icmp_lt rfl (fun _ => ?_) (fun h => absurd h1 h)
  refine Ev_iload rfl rfl ?_
  exact Ev_ireturn rfl rfl rfl rfl ⟨rfl, rfl, rfl⟩
theorem t_strCheck (d : Nat) {x y : Int32} (h0 : ¬ x < 0) (h1 : x < y) : T l X (d + 1) 303 [.int x, .int y] n n ρ σ (Ru ρ σ) := by
  refine T_of rfl ?_
  refine Ev_iload rfl rfl ?_
  refine Ev_iload rfl rfl ?_
  refine Ev_stat rfl rfl ?_
  refine Ev_callS rfl rfl rfl rfl (same_n n) (t_preCheck d h0 h1 rfl) ?_
  rintro v ρ' σ' ⟨rfl, rfl, rfl⟩
  refine Ev_pop rfl (fun _ q => nomatch q) ?_
  exact Ev_return rfl rfl rfl ⟨rfl, rfl, rfl⟩
theorem str_small : ∀ q, q < nStr → (strB q).length < 1000 ∧ ∀ b ∈ strB q, (b &&& 255).toUInt32 % 65536 = (b &&& 255).toUInt32 ∧ ((b &&& 255).toUInt32 % 65536).toInt32 = b := by decide +kernel
theorem t_l1charAt (d : Nat) {q k : Nat} (hq : q < nStr) (hk : k < (strB q).length) : T l X (d + 2) 304 [.retAddr (2 * q + 1), .int (nI k)] n n ρ σ (Re (.int ((strB q).getD k 0)) ρ σ) := by
  have hs := (str_small q hq).1
  have hin : vp_in (nI k) (strB q).length := vp_in_nI hk (by omega)
  refine T_of rfl ?_
  refine Ev_iload rfl rfl ?_
  refine Ev_aload rfl rfl rfl ?_
  refine Ev_strLen rfl hq ?_
  refine Ev_callS rfl rfl rfl rfl (same_n n) (t_strCheck d (nI_pos (by omega)) (nI_lt hk (by omega))) ?_
  rintro v ρ' σ' ⟨rfl, rfl, rfl⟩
  refine Ev_aload rfl rfl rfl ?_
  refine Ev_iload rfl rfl ?_
  refine Ev_strB rfl hq hin ?_
  refine Ev_const rfl ?_
  refine Ev_iand rfl ?_
  refine Ev_i2c rfl ?_
  have hm : (strB q).getD (nI k).toNatClampNeg 0 ∈ strB q := by
    rw [nI_clamp (by omega), List.getD_eq_getElem?_getD, List.getElem?_eq_getElem hk]
    exact List.getElem_mem hk
  have he := ((str_small q hq).2 _ hm).2
  refine Ev_ireturn rfl rfl ?_ rfl ⟨?_, rfl, rfl⟩
  · exact pk_nc _
  · rw [he, nI_clamp (by omega)]
theorem t_charAt (d : Nat) {q k : Nat} (hq : q < nStr) (hk : k < (strB q).length) : T l X (d + 3) 301 [.retAddr (2 * q), .int (nI k)] n n ρ σ (Re (.int ((strB q).getD k 0)) ρ σ) := by
  refine T_of rfl ?_
  refine Ev_aload rfl rfl rfl ?_
  refine Ev_callT rfl rfl rfl hq rfl (same_n n) (t_isLatin1 (d + 2) hq) ?_
  rintro v ρ' σ' ⟨rfl, rfl, rfl⟩
  refine Ev_if_eq rfl (fun h => absurd h (by decide)) (fun _ => ?_)
  refine Ev_aload rfl rfl rfl ?_
  refine Ev_strV rfl (by first | decide | assumption) ?_
  refine Ev_iload rfl rfl ?_
  refine Ev_callS rfl rfl rfl rfl (same_n n) (t_l1charAt d hq hk) ?_
  rintro v ρ' σ' ⟨rfl, rfl, rfl⟩
  have hm : (strB q).getD k 0 ∈ strB q := by
    rw [List.getD_eq_getElem?_getD, List.getElem?_eq_getElem hk]
    exact List.getElem_mem hk
  have he := ((str_small q hq).2 _ hm).2
  refine Ev_ireturn rfl rfl ?_ rfl ⟨rfl, rfl, rfl⟩
  rw [← he]
  exact pk_nc _
/-- Math.floorMod -/
def fmod (x y : Int32) : Int32 := if 0 ≤ x ^^^ y then x - x / y * y else if x - x / y * y = 0 then x - x / y * y else x - x / y * y + y
theorem t_floorMod (d : Nat) {x y : Int32} (hy : ¬ y = 0) : T l X d 311 [.int x, .int y] n n ρ σ (Re (.int (fmod x y)) ρ σ) := by
  refine T_of rfl ?_
  refine Ev_iload rfl rfl ?_
  refine Ev_iload rfl rfl ?_
  refine Ev_irem rfl hy ?_
  refine Ev_istore rfl ?_
  refine Ev_iload rfl rfl ?_
  refine Ev_iload rfl rfl ?_
  refine Ev_ixor rfl ?_
  refine Ev_if_ge rfl (fun h => ?_) (fun h => ?_)
  · refine Ev_iload rfl rfl ?_
    exact Ev_ireturn rfl rfl rfl rfl ⟨by unfold fmod; rw [if_pos h], rfl, rfl⟩
  · refine Ev_iload rfl rfl ?_
    refine Ev_if_eq rfl (fun h2 => ?_) (fun h2 => ?_)
    · refine Ev_iload rfl rfl ?_
      exact Ev_ireturn rfl rfl rfl rfl ⟨by unfold fmod; rw [if_neg h, if_pos h2], rfl, rfl⟩
    · refine Ev_iload rfl rfl ?_
      refine Ev_iload rfl rfl ?_
      refine Ev_iadd rfl ?_
      exact Ev_ireturn rfl rfl rfl rfl ⟨by unfold fmod; rw [if_neg h, if_neg h2], rfl, rfl⟩
end JDK
