/-! Rules of the instructions that touch no cell (the short ones printed by wip/whole/gen06.py). -/
section EvA
variable {l : Launch} {X : Cx} {d i pc tag b c e nx : Nat} {vi : Int32} {vl : Int64} {ls st : List Value} {n0 n1 n : Nat} {ρ : Rf} {σ : St} {Q : Po}
theorem plain_ok {t : Nat} (ht : ∀ ins len, ckI i pc t b c e vi vl ins len = (Nat.beq len 1 && decide (plainI t = some ins))) (h : opn i pc = some (t, b, c, e, nx, vi, vl)) {ins0 : Instr} (hp : plainI t = some ins0) : decode (mCode i) pc = .ok (ins0, 1) ∧ nx = pc + 1 := by
  obtain ⟨-, ins, len, hd, hn, hc⟩ := op_ok h
  rw [ht, Bool.and_eq_true, decide_eq_true_eq] at hc
  have h1 : len = 1 := Nat.eq_of_beq_eq_true hc.1
  have h2 : ins0 = ins := Option.some.inj (hp.symm.trans hc.2)
  subst h1; subst h2
  exact ⟨hd, hn⟩
theorem Ev_iadd {x y : Int32} (h : opn i pc = some (10, b, c, e, nx, vi, vl)) (k : Ev l X d i nx ls (.int (x + y) :: st) n0 n1 n ρ σ Q) : Ev l X d i pc ls (.int y :: .int x :: st) n0 n1 n ρ σ Q := by
  obtain ⟨hd, rfl⟩ := plain_ok (ins0 := .iadd) (fun _ _ => rfl) h rfl
  intro p e s m args below meth c H locs lsA C hP hS hL
  exact lv_iadd C.1 C.2.1 hd (k p e s m args below meth c H locs lsA C hP hS hL)
theorem Ev_isub {x y : Int32} (h : opn i pc = some (11, b, c, e, nx, vi, vl)) (k : Ev l X d i nx ls (.int (x - y) :: st) n0 n1 n ρ σ Q) : Ev l X d i pc ls (.int y :: .int x :: st) n0 n1 n ρ σ Q := by
  obtain ⟨hd, rfl⟩ := plain_ok (ins0 := .isub) (fun _ _ => rfl) h rfl
  intro p e s m args below meth c H locs lsA C hP hS hL
  exact lv_isub C.1 C.2.1 hd (k p e s m args below meth c H locs lsA C hP hS hL)
theorem Ev_imul {x y : Int32} (h : opn i pc = some (12, b, c, e, nx, vi, vl)) (k : Ev l X d i nx ls (.int (x * y) :: st) n0 n1 n ρ σ Q) : Ev l X d i pc ls (.int y :: .int x :: st) n0 n1 n ρ σ Q := by
  obtain ⟨hd, rfl⟩ := plain_ok (ins0 := .imul) (fun _ _ => rfl) h rfl
  intro p e s m args below meth c H locs lsA C hP hS hL
  exact lv_imul C.1 C.2.1 hd (k p e s m args below meth c H locs lsA C hP hS hL)
theorem Ev_idiv {x y : Int32} (h : opn i pc = some (13, b, c, e, nx, vi, vl)) (hne : ¬ y = 0) (k : Ev l X d i nx ls (.int (x / y) :: st) n0 n1 n ρ σ Q) : Ev l X d i pc ls (.int y :: .int x :: st) n0 n1 n ρ σ Q := by
  obtain ⟨hd, rfl⟩ := plain_ok (ins0 := .idiv) (fun _ _ => rfl) h rfl
  intro p e s m args below meth c H locs lsA C hP hS hL
  exact lv_idiv C.1 C.2.1 hd hne (k p e s m args below meth c H locs lsA C hP hS hL)
theorem Ev_irem {x y : Int32} (h : opn i pc = some (14, b, c, e, nx, vi, vl)) (hne : ¬ y = 0) (k : Ev l X d i nx ls (.int (x - x / y * y) :: st) n0 n1 n ρ σ Q) : Ev l X d i pc ls (.int y :: .int x :: st) n0 n1 n ρ σ Q := by
  obtain ⟨hd, rfl⟩ := plain_ok (ins0 := .irem) (fun _ _ => rfl) h rfl
  intro p e s m args below meth c H locs lsA C hP hS hL
  exact lv_irem C.1 C.2.1 hd hne (k p e s m args below meth c H locs lsA C hP hS hL)
theorem Ev_iand {x y : Int32} (h : opn i pc = some (15, b, c, e, nx, vi, vl)) (k : Ev l X d i nx ls (.int (x &&& y) :: st) n0 n1 n ρ σ Q) : Ev l X d i pc ls (.int y :: .int x :: st) n0 n1 n ρ σ Q := by
  obtain ⟨hd, rfl⟩ := plain_ok (ins0 := .iand) (fun _ _ => rfl) h rfl
  intro p e s m args below meth c H locs lsA C hP hS hL
  exact lv_iand C.1 C.2.1 hd (k p e s m args below meth c H locs lsA C hP hS hL)
theorem Ev_ior {x y : Int32} (h : opn i pc = some (16, b, c, e, nx, vi, vl)) (k : Ev l X d i nx ls (.int (x ||| y) :: st) n0 n1 n ρ σ Q) : Ev l X d i pc ls (.int y :: .int x :: st) n0 n1 n ρ σ Q := by
  obtain ⟨hd, rfl⟩ := plain_ok (ins0 := .ior) (fun _ _ => rfl) h rfl
  intro p e s m args below meth c H locs lsA C hP hS hL
  exact lv_ior C.1 C.2.1 hd (k p e s m args below meth c H locs lsA C hP hS hL)
theorem Ev_ixor {x y : Int32} (h : opn i pc = some (17, b, c, e, nx, vi, vl)) (k : Ev l X d i nx ls (.int (x ^^^ y) :: st) n0 n1 n ρ σ Q) : Ev l X d i pc ls (.int y :: .int x :: st) n0 n1 n ρ σ Q := by
  obtain ⟨hd, rfl⟩ := plain_ok (ins0 := .ixor) (fun _ _ => rfl) h rfl
  intro p e s m args below meth c H locs lsA C hP hS hL
  exact lv_ixor C.1 C.2.1 hd (k p e s m args below meth c H locs lsA C hP hS hL)
theorem Ev_ishl {x y : Int32} (h : opn i pc = some (18, b, c, e, nx, vi, vl)) (k : Ev l X d i nx ls (.int (x <<< (y &&& 31)) :: st) n0 n1 n ρ σ Q) : Ev l X d i pc ls (.int y :: .int x :: st) n0 n1 n ρ σ Q := by
  obtain ⟨hd, rfl⟩ := plain_ok (ins0 := .ishl) (fun _ _ => rfl) h rfl
  intro p e s m args below meth c H locs lsA C hP hS hL
  exact lv_ishl C.1 C.2.1 hd (k p e s m args below meth c H locs lsA C hP hS hL)
theorem Ev_ishr {x y : Int32} (h : opn i pc = some (19, b, c, e, nx, vi, vl)) (k : Ev l X d i nx ls (.int (x >>> (y &&& 31)) :: st) n0 n1 n ρ σ Q) : Ev l X d i pc ls (.int y :: .int x :: st) n0 n1 n ρ σ Q := by
  obtain ⟨hd, rfl⟩ := plain_ok (ins0 := .ishr) (fun _ _ => rfl) h rfl
  intro p e s m args below meth c H locs lsA C hP hS hL
  exact lv_ishr C.1 C.2.1 hd (k p e s m args below meth c H locs lsA C hP hS hL)
theorem Ev_iushr {x y : Int32} (h : opn i pc = some (20, b, c, e, nx, vi, vl)) (k : Ev l X d i nx ls (.int ((x.toUInt32 >>> (y.toUInt32 &&& Int32.toUInt32 31)).toInt32) :: st) n0 n1 n ρ σ Q) : Ev l X d i pc ls (.int y :: .int x :: st) n0 n1 n ρ σ Q := by
  obtain ⟨hd, rfl⟩ := plain_ok (ins0 := .iushr) (fun _ _ => rfl) h rfl
  intro p e s m args below meth c H locs lsA C hP hS hL
  exact lv_iushr C.1 C.2.1 hd rfl (k p e s m args below meth c H locs lsA C hP hS hL)
theorem Ev_ladd {x y : Int64} (h : opn i pc = some (22, b, c, e, nx, vi, vl)) (k : Ev l X d i nx ls (.long (x + y) :: st) n0 n1 n ρ σ Q) : Ev l X d i pc ls (.long y :: .long x :: st) n0 n1 n ρ σ Q := by
  obtain ⟨hd, rfl⟩ := plain_ok (ins0 := .ladd) (fun _ _ => rfl) h rfl
  intro p e s m args below meth c H locs lsA C hP hS hL
  exact lv_ladd C.1 C.2.1 hd (k p e s m args below meth c H locs lsA C hP hS hL)
theorem Ev_lsub {x y : Int64} (h : opn i pc = some (23, b, c, e, nx, vi, vl)) (k : Ev l X d i nx ls (.long (x - y) :: st) n0 n1 n ρ σ Q) : Ev l X d i pc ls (.long y :: .long x :: st) n0 n1 n ρ σ Q := by
  obtain ⟨hd, rfl⟩ := plain_ok (ins0 := .lsub) (fun _ _ => rfl) h rfl
  intro p e s m args below meth c H locs lsA C hP hS hL
  exact lv_lsub C.1 C.2.1 hd (k p e s m args below meth c H locs lsA C hP hS hL)
theorem Ev_lmul {x y : Int64} (h : opn i pc = some (24, b, c, e, nx, vi, vl)) (k : Ev l X d i nx ls (.long (x * y) :: st) n0 n1 n ρ σ Q) : Ev l X d i pc ls (.long y :: .long x :: st) n0 n1 n ρ σ Q := by
  obtain ⟨hd, rfl⟩ := plain_ok (ins0 := .lmul) (fun _ _ => rfl) h rfl
  intro p e s m args below meth c H locs lsA C hP hS hL
  exact lv_lmul C.1 C.2.1 hd (k p e s m args below meth c H locs lsA C hP hS hL)
theorem Ev_ldiv {x y : Int64} (h : opn i pc = some (25, b, c, e, nx, vi, vl)) (hne : ¬ y = 0) (k : Ev l X d i nx ls (.long (x / y) :: st) n0 n1 n ρ σ Q) : Ev l X d i pc ls (.long y :: .long x :: st) n0 n1 n ρ σ Q := by
  obtain ⟨hd, rfl⟩ := plain_ok (ins0 := .ldiv) (fun _ _ => rfl) h rfl
  intro p e s m args below meth c H locs lsA C hP hS hL
  exact lv_ldiv C.1 C.2.1 hd hne (k p e s m args below meth c H locs lsA C hP hS hL)
theorem Ev_lrem {x y : Int64} (h : opn i pc = some (26, b, c, e, nx, vi, vl)) (hne : ¬ y = 0) (k : Ev l X d i nx ls (.long (x - x / y * y) :: st) n0 n1 n ρ σ Q) : Ev l X d i pc ls (.long y :: .long x :: st) n0 n1 n ρ σ Q := by
  obtain ⟨hd, rfl⟩ := plain_ok (ins0 := .lrem) (fun _ _ => rfl) h rfl
  intro p e s m args below meth c H locs lsA C hP hS hL
  exact lv_lrem C.1 C.2.1 hd hne (k p e s m args below meth c H locs lsA C hP hS hL)
theorem Ev_land {x y : Int64} (h : opn i pc = some (27, b, c, e, nx, vi, vl)) (k : Ev l X d i nx ls (.long (x &&& y) :: st) n0 n1 n ρ σ Q) : Ev l X d i pc ls (.long y :: .long x :: st) n0 n1 n ρ σ Q := by
  obtain ⟨hd, rfl⟩ := plain_ok (ins0 := .land) (fun _ _ => rfl) h rfl
  intro p e s m args below meth c H locs lsA C hP hS hL
  exact lv_land C.1 C.2.1 hd (k p e s m args below meth c H locs lsA C hP hS hL)
theorem Ev_i2l {x : Int32} (h : opn i pc = some (28, b, c, e, nx, vi, vl)) (k : Ev l X d i nx ls (.long x.toInt64 :: st) n0 n1 n ρ σ Q) : Ev l X d i pc ls (.int x :: st) n0 n1 n ρ σ Q := by
  obtain ⟨hd, rfl⟩ := plain_ok (ins0 := .i2l) (fun _ _ => rfl) h rfl
  intro p e s m args below meth c H locs lsA C hP hS hL
  exact lv_i2l C.1 C.2.1 hd rfl (k p e s m args below meth c H locs lsA C hP hS hL)
theorem Ev_l2i {x : Int64} (h : opn i pc = some (29, b, c, e, nx, vi, vl)) (k : Ev l X d i nx ls (.int x.toInt32 :: st) n0 n1 n ρ σ Q) : Ev l X d i pc ls (.long x :: st) n0 n1 n ρ σ Q := by
  obtain ⟨hd, rfl⟩ := plain_ok (ins0 := .l2i) (fun _ _ => rfl) h rfl
  intro p e s m args below meth c H locs lsA C hP hS hL
  exact lv_l2i C.1 C.2.1 hd rfl (k p e s m args below meth c H locs lsA C hP hS hL)
theorem Ev_i2b {x : Int32} (h : opn i pc = some (30, b, c, e, nx, vi, vl)) (k : Ev l X d i nx ls (.int x.toInt8.toInt32 :: st) n0 n1 n ρ σ Q) : Ev l X d i pc ls (.int x :: st) n0 n1 n ρ σ Q := by
  obtain ⟨hd, rfl⟩ := plain_ok (ins0 := .i2b) (fun _ _ => rfl) h rfl
  intro p e s m args below meth c H locs lsA C hP hS hL
  exact lv_i2b C.1 C.2.1 hd rfl (k p e s m args below meth c H locs lsA C hP hS hL)
theorem Ev_i2c {x : Int32} (h : opn i pc = some (31, b, c, e, nx, vi, vl)) (k : Ev l X d i nx ls (.int (x.toUInt32 % 65536).toInt32 :: st) n0 n1 n ρ σ Q) : Ev l X d i pc ls (.int x :: st) n0 n1 n ρ σ Q := by
  obtain ⟨hd, rfl⟩ := plain_ok (ins0 := .i2c) (fun _ _ => rfl) h rfl
  intro p e s m args below meth c H locs lsA C hP hS hL
  exact lv_i2c C.1 C.2.1 hd rfl (k p e s m args below meth c H locs lsA C hP hS hL)
theorem Ev_lcmp {x y : Int64} (h : opn i pc = some (32, b, c, e, nx, vi, vl)) (k : Ev l X d i nx ls (.int (lg_cmp x y) :: st) n0 n1 n ρ σ Q) : Ev l X d i pc ls (.long y :: .long x :: st) n0 n1 n ρ σ Q := by
  obtain ⟨hd, rfl⟩ := plain_ok (ins0 := .lcmp) (fun _ _ => rfl) h rfl
  intro p e s m args below meth c H locs lsA C hP hS hL
  exact W.lcmp C.1 C.2.1 hd (k p e s m args below meth c H locs lsA C hP hS hL)
theorem cv_1 {v : Value} (h : ∀ z, v ≠ .long z) : (cv X v).category = 1 := by
  rcases lv_cat (cv X v) with q | q
  · exact q
  · obtain ⟨z, hz⟩ := cv_cat X v q
    exact absurd hz (h z)
theorem Ev_pop {v : Value} (h : opn i pc = some (33, b, c, e, nx, vi, vl)) (hv : ∀ z, v ≠ .long z) (k : Ev l X d i nx ls (st) n0 n1 n ρ σ Q) : Ev l X d i pc ls (v :: st) n0 n1 n ρ σ Q := by
  obtain ⟨hd, rfl⟩ := plain_ok (ins0 := .pop) (fun _ _ => rfl) h rfl
  intro p e s m args below meth c H locs lsA C hP hS hL
  exact lv_pop C.1 C.2.1 hd (cv_1 hv) (k p e s m args below meth c H locs lsA C hP hS hL)
theorem Ev_dup {v : Value} (h : opn i pc = some (34, b, c, e, nx, vi, vl)) (hv : ∀ z, v ≠ .long z) (k : Ev l X d i nx ls (v :: v :: st) n0 n1 n ρ σ Q) : Ev l X d i pc ls (v :: st) n0 n1 n ρ σ Q := by
  obtain ⟨hd, rfl⟩ := plain_ok (ins0 := .dup) (fun _ _ => rfl) h rfl
  intro p e s m args below meth c H locs lsA C hP hS hL
  exact lv_dup C.1 C.2.1 hd (cv_1 hv) (k p e s m args below meth c H locs lsA C hP hS hL)
theorem Ev_dup2 {v w : Value} (h : opn i pc = some (35, b, c, e, nx, vi, vl)) (hv : ∀ z, v ≠ .long z) (hw : ∀ z, w ≠ .long z) (k : Ev l X d i nx ls (v :: w :: v :: w :: st) n0 n1 n ρ σ Q) : Ev l X d i pc ls (v :: w :: st) n0 n1 n ρ σ Q := by
  obtain ⟨hd, rfl⟩ := plain_ok (ins0 := .dup2) (fun _ _ => rfl) h rfl
  intro p e s m args below meth c H locs lsA C hP hS hL
  exact lv_dup2_11 C.1 C.2.1 hd (cv_1 hv) (cv_1 hw) (k p e s m args below meth c H locs lsA C hP hS hL)
theorem Ev_const (h : opn i pc = some (0, b, c, e, nx, vi, vl)) (k : Ev l X d i nx ls (.int vi :: st) n0 n1 n ρ σ Q) : Ev l X d i pc ls st n0 n1 n ρ σ Q := by
  obtain ⟨-, ins, len, hd, rfl, hc⟩ := op_ok h
  replace hc : ckConst i e vi ins len = true := hc
  intro p e s m args below meth c H locs lsA C hP hS hL
  unfold ckConst at hc
  split at hc
  · rw [Bool.and_eq_true, decide_eq_true_eq] at hc
    have h1 := Nat.eq_of_beq_eq_true hc.1
    subst h1
    exact lv_iconst C.1 C.2.1 hd hc.2 (k p e s m args below meth c H locs lsA C hP hS hL)
  · rw [Bool.and_eq_true, decide_eq_true_eq] at hc
    have h1 := Nat.eq_of_beq_eq_true hc.1
    subst h1
    exact lv_bipush C.1 C.2.1 hd hc.2 (k p e s m args below meth c H locs lsA C hP hS hL)
  · rw [Bool.and_eq_true, decide_eq_true_eq] at hc
    have h1 := Nat.eq_of_beq_eq_true hc.1
    subst h1
    exact lv_sipush C.1 C.2.1 hd hc.2 (k p e s m args below meth c H locs lsA C hP hS hL)
  · rw [Bool.and_eq_true, decide_eq_true_eq] at hc
    have h1 := Nat.eq_of_beq_eq_true hc.1
    subst h1
    exact lv_ldc C.1 C.2.1 C.2.2.2.2.2.1 (C.2.2.2.2.2.2.1 _ (wg_mem hc.2 rfl)) hd (k p e s m args below meth c H locs lsA C hP hS hL)
  · rw [Bool.and_eq_true, decide_eq_true_eq] at hc
    have h1 := Nat.eq_of_beq_eq_true hc.1
    subst h1
    exact lv_ldcw C.1 C.2.1 C.2.2.2.2.2.1 (C.2.2.2.2.2.2.1 _ (wg_mem hc.2 rfl)) hd (k p e s m args below meth c H locs lsA C hP hS hL)
  · cases hc
theorem Ev_constL (h : opn i pc = some (1, b, c, e, nx, vi, vl)) (k : Ev l X d i nx ls (.long vl :: st) n0 n1 n ρ σ Q) : Ev l X d i pc ls st n0 n1 n ρ σ Q := by
  obtain ⟨-, ins, len, hd, rfl, hc⟩ := op_ok h
  replace hc : ckConstL i e vl ins len = true := hc
  intro p e s m args below meth c H locs lsA C hP hS hL
  unfold ckConstL at hc
  split at hc
  · rw [Bool.and_eq_true, decide_eq_true_eq] at hc
    have h1 := Nat.eq_of_beq_eq_true hc.1
    subst h1
    exact lv_lconst C.1 C.2.1 hd hc.2 (k p e s m args below meth c H locs lsA C hP hS hL)
  · rw [Bool.and_eq_true, decide_eq_true_eq] at hc
    have h1 := Nat.eq_of_beq_eq_true hc.1
    subst h1
    exact lv_ldc2 C.1 C.2.1 C.2.2.2.2.2.1 (C.2.2.2.2.2.2.1 _ (wg_mem hc.2 rfl)) hd (k p e s m args below meth c H locs lsA C hP hS hL)
  · cases hc
theorem Ev_str (h : opn i pc = some (2, b, c, e, nx, vi, vl)) (k : Ev l X d i nx ls (.retAddr (2 * b) :: st) n0 n1 n ρ σ Q) : Ev l X d i pc ls st n0 n1 n ρ σ Q := by
  obtain ⟨-, ins, len, hd, rfl, hc⟩ := op_ok h
  replace hc : ckStr i b ins len = true := hc
  intro p e s m args below meth c H locs lsA C hP hS hL
  unfold ckStr at hc
  split at hc
  · simp only [Bool.and_eq_true, Nat.blt_eq] at hc
    obtain ⟨⟨⟨h1, h2⟩, h3⟩, h4⟩ := hc
    have h1 := Nat.eq_of_beq_eq_true h1
    subst h1
    have hR := C.2.2.2.2.2.2.2.2.1.2.1 b h2
    rw [Nat.eq_of_beq_eq_true h3, Nat.eq_of_beq_eq_true h4] at hR
    have hk := k p e s m args below meth c H locs lsA C hP hS hL
    have e1 : cv X (.retAddr (2 * b)) = .ref (xK X b) := by simp [cv]
    rw [List.map_cons, e1] at hk
    exact va_ldcS C.1 C.2.1 C.2.2.2.2.2.1 hR hd hk
  · cases hc
theorem LV.get {lsA : Array Slot} {nL : Nat} (hL : LV X lsA nL ls) {j : Nat} {v : Value} (h : ls[j]? = some v) (hv : v ≠ .float 0) : lsA[j]? = some (.val (cv X v)) := hL.2.2 j v h hv
theorem Ev_iload {x : Int32} (h : opn i pc = some (3, b, c, e, nx, vi, vl)) (hl : ls[b]? = some (.int x)) (k : Ev l X d i nx ls (.int x :: st) n0 n1 n ρ σ Q) : Ev l X d i pc ls st n0 n1 n ρ σ Q := by
  obtain ⟨-, ins, len, hd, rfl, hc⟩ := op_ok h
  have hc : ckIload b ins len = true := hc
  intro p e s m args below meth c H locs lsA C hP hS hL
  unfold ckIload at hc
  split at hc
  · rw [Bool.and_eq_true] at hc
    have h1 := Nat.eq_of_beq_eq_true hc.1
    have h2 := Nat.eq_of_beq_eq_true hc.2
    subst h1; subst h2
    exact lv_iload C.1 C.2.1 hd (hL.get hl (by intro q; cases q)) (k p e s m args below meth c H locs lsA C hP hS hL)
  · rw [Bool.and_eq_true] at hc
    have h1 := Nat.eq_of_beq_eq_true hc.1
    subst h1
    exact lv_iload_n C.1 C.2.1 hd (Nat.eq_of_beq_eq_true hc.2) (hL.get hl (by intro q; cases q)) (k p e s m args below meth c H locs lsA C hP hS hL)
  · cases hc
theorem Ev_lload {x : Int64} (h : opn i pc = some (4, b, c, e, nx, vi, vl)) (hl : ls[b]? = some (.long x)) (k : Ev l X d i nx ls (.long x :: st) n0 n1 n ρ σ Q) : Ev l X d i pc ls st n0 n1 n ρ σ Q := by
  obtain ⟨-, ins, len, hd, rfl, hc⟩ := op_ok h
  have hc : ckLload b ins len = true := hc
  intro p e s m args below meth c H locs lsA C hP hS hL
  unfold ckLload at hc
  split at hc
  · rw [Bool.and_eq_true] at hc
    have h1 := Nat.eq_of_beq_eq_true hc.1
    have h2 := Nat.eq_of_beq_eq_true hc.2
    subst h1; subst h2
    exact lv_lload C.1 C.2.1 hd (hL.get hl (by intro q; cases q)) (k p e s m args below meth c H locs lsA C hP hS hL)
  · rw [Bool.and_eq_true] at hc
    have h1 := Nat.eq_of_beq_eq_true hc.1
    subst h1
    exact lv_lload_n C.1 C.2.1 hd (Nat.eq_of_beq_eq_true hc.2) (hL.get hl (by intro q; cases q)) (k p e s m args below meth c H locs lsA C hP hS hL)
  · cases hc
/-- the references of a picture, as the machine has them -/
def isR : Value → Bool
  | .ref _ => true | .retAddr _ => true | .double _ => true | _ => false
theorem isR_cv {v : Value} (h : isR v = true) : ∃ a, cv X v = .ref a := by
  cases v with
  | ref k => exact ⟨_, rfl⟩
  | retAddr n =>
    show ∃ a, (bif Nat.beq (n % 2) 0 then Value.ref (xK X (n / 2)) else .ref (xV X (n / 2))) = .ref a
    cases Nat.beq (n % 2) 0
    · exact ⟨_, rfl⟩
    · exact ⟨_, rfl⟩
  | double _ => exact ⟨_, rfl⟩
  | _ => cases h
theorem isR_ne {v : Value} (h : isR v = true) : v ≠ .float 0 := by intro q; subst q; cases h
theorem isR_nl {v : Value} (h : isR v = true) : ∀ z, v ≠ .long z := by intro z q; subst q; cases h
theorem Ev_aload {v : Value} (h : opn i pc = some (5, b, c, e, nx, vi, vl)) (hl : ls[b]? = some v) (hv : isR v = true) (k : Ev l X d i nx ls (v :: st) n0 n1 n ρ σ Q) : Ev l X d i pc ls st n0 n1 n ρ σ Q := by
  obtain ⟨-, ins, len, hd, rfl, hc⟩ := op_ok h
  replace hc : ckAload b ins len = true := hc
  intro p e s m args below meth c H locs lsA C hP hS hL
  have hl2 := hL.get hl (isR_ne hv)
  have hk := k p e s m args below meth c H locs lsA C hP hS hL
  obtain ⟨a, ha⟩ := isR_cv (X := X) hv
  rw [ha] at hl2
  rw [List.map_cons, ha] at hk
  unfold ckAload at hc
  split at hc
  · rw [Bool.and_eq_true] at hc
    have h1 := Nat.eq_of_beq_eq_true hc.1
    have h2 := Nat.eq_of_beq_eq_true hc.2
    subst h1; subst h2
    exact lv_aload C.1 C.2.1 hd hl2 hk
  · rw [Bool.and_eq_true] at hc
    have h1 := Nat.eq_of_beq_eq_true hc.1
    subst h1
    exact lv_aload_n C.1 C.2.1 hd (Nat.eq_of_beq_eq_true hc.2) hl2 hk
  · cases hc
/-- a store ends a number of 64 bits whose second half it takes -/
def kilV (i : Nat) (ls : List Value) : List Value := match i with
  | 0 => ls
  | j + 1 => (match ls[j]? with
    | some (.long _) => ls.set j (.float 0)
    | _ => ls)
def setV (i : Nat) (v : Value) (ls : List Value) : List Value := (kilV i ls).set i v
def setW (i : Nat) (v : Value) (ls : List Value) : List Value := ((kilV i ls).set i v).set (i + 1) (.float 0)
/-- the locals as pairs -/
def prs (X : Cx) (ls : List Value) : List (Nat × Value) := (List.range ls.length).filterMap (fun j => match ls[j]? with | some v => if v = .float 0 then none else some (j, cv X v) | none => none)
theorem prs_mem {j : Nat} {v : Value} (h : ls[j]? = some v) (hv : v ≠ .float 0) : (j, cv X v) ∈ prs X ls := by
  unfold prs
  rw [List.mem_filterMap]
  refine ⟨j, List.mem_range.mpr (List.getElem?_eq_some_iff.mp h).1, ?_⟩
  rw [h]
  simp [hv]
theorem LV.has {lsA : Array Slot} {nL : Nat} (hL : LV X lsA nL ls) : lv_has lsA nL (prs X ls) := by
  refine ⟨hL.1, hL.2.1, fun q hq => ?_⟩
  unfold prs at hq
  rw [List.mem_filterMap] at hq
  obtain ⟨j, -, hj⟩ := hq
  cases hg : ls[j]? with
  | none => rw [hg] at hj; cases hj
  | some v =>
    rw [hg] at hj
    by_cases hv : v = .float 0
    · simp [hv] at hj
    · simp only [hv, if_false, Option.some.injEq] at hj
      subst hj
      exact hL.2.2 j v hg hv
theorem kil_get {j k : Nat} {v : Value} (h : (kilV j ls)[k]? = some v) (hv : v ≠ .float 0) : ls[k]? = some v ∧ ¬ (k + 1 = j ∧ (cv X v).category = 2) := by
  unfold kilV at h
  split at h
  · exact ⟨h, fun q => by omega⟩
  · rename_i q
    split at h
    · rename_i z hz
      rw [List.getElem?_set] at h
      by_cases hk : q = k
      · subst hk
        rw [if_pos rfl] at h
        split at h
        · cases h
          exact absurd rfl hv
        · cases h
      · rw [if_neg hk] at h
        exact ⟨h, fun w => hk (by omega)⟩
    · rename_i hz
      refine ⟨h, fun w => ?_⟩
      obtain ⟨z, rfl⟩ := cv_cat X v w.2
      have : k = q := by omega
      subst this
      exact hz z h
theorem LV.set {lsA : Array Slot} {nL j : Nat} {v : Value} (h : lv_has lsA nL ((j, cv X v) :: (prs X ls).filter (fun q => !(q.1 == j) && !(q.1 + 1 == j && q.2.category == 2)))) : LV X lsA nL (setV j v ls) := by
  refine ⟨h.1, h.2.1, fun k w hk hw => ?_⟩
  unfold setV at hk
  rw [List.getElem?_set] at hk
  by_cases hjk : j = k
  · subst hjk
    rw [if_pos rfl] at hk
    split at hk
    · cases hk
      exact h.2.2 _ List.mem_cons_self
    · cases hk
  · rw [if_neg hjk] at hk
    obtain ⟨h1, h2⟩ := kil_get (X := X) hk hw
    refine h.2.2 (k, cv X w) (List.mem_cons_of_mem _ (List.mem_filter.mpr ⟨prs_mem h1 hw, ?_⟩))
    simp only [Bool.and_eq_true, Bool.not_eq_true', beq_eq_false_iff_ne, ne_eq, Bool.and_eq_false_iff]
    refine ⟨fun q => hjk q.symm, ?_⟩
    by_cases hq : k + 1 = j
    · exact Or.inr (fun z => h2 ⟨hq, z⟩)
    · exact Or.inl hq
theorem LV.setw {lsA : Array Slot} {nL j : Nat} {v : Value} (h : lv_has lsA nL ((j, cv X v) :: (prs X ls).filter (fun q => !(q.1 == j) && (!(q.1 == j + 1) && !(q.1 + 1 == j && q.2.category == 2))))) : LV X lsA nL (setW j v ls) := by
  refine ⟨h.1, h.2.1, fun k w hk hw => ?_⟩
  unfold setW at hk
  rw [List.getElem?_set] at hk
  by_cases hjk1 : j + 1 = k
  · subst hjk1
    rw [if_pos rfl] at hk
    split at hk
    · cases hk
      exact absurd rfl hw
    · cases hk
  rw [if_neg hjk1, List.getElem?_set] at hk
  by_cases hjk : j = k
  · subst hjk
    rw [if_pos rfl] at hk
    split at hk
    · cases hk
      exact h.2.2 _ List.mem_cons_self
    · cases hk
  · rw [if_neg hjk] at hk
    obtain ⟨h1, h2⟩ := kil_get (X := X) hk hw
    refine h.2.2 (k, cv X w) (List.mem_cons_of_mem _ (List.mem_filter.mpr ⟨prs_mem h1 hw, ?_⟩))
    simp only [Bool.and_eq_true, Bool.not_eq_true', beq_eq_false_iff_ne, ne_eq, Bool.and_eq_false_iff]
    refine ⟨fun q => hjk q.symm, fun q => hjk1 q.symm, ?_⟩
    by_cases hq : k + 1 = j
    · exact Or.inr (fun z => h2 ⟨hq, z⟩)
    · exact Or.inl hq
theorem Ev_istore {x : Int32} (h : opn i pc = some (6, b, c, e, nx, vi, vl)) (k : Ev l X d i nx (setV b (.int x) ls) st n0 n1 n ρ σ Q) : Ev l X d i pc ls (.int x :: st) n0 n1 n ρ σ Q := by
  obtain ⟨-, ins, len, hd, rfl, hc⟩ := op_ok h
  have hc : ckIstore i b ins len = true := hc
  intro p e s m args below meth c H locs lsA C hP hS hL
  unfold ckIstore at hc
  rw [Bool.and_eq_true, Nat.blt_eq] at hc
  obtain ⟨hb, hc⟩ := hc
  split at hc
  · rw [Bool.and_eq_true] at hc
    have h1 := Nat.eq_of_beq_eq_true hc.1
    have h2 := Nat.eq_of_beq_eq_true hc.2
    subst h1; subst h2
    exact lv_istore C.1 C.2.1 hd hL.has hb rfl (fun ls' hl' => k p e s m args below meth c H locs ls' C hP hS (LV.set (v := .int x) hl'))
  · rw [Bool.and_eq_true] at hc
    have h1 := Nat.eq_of_beq_eq_true hc.1
    subst h1
    exact lv_istore_n C.1 C.2.1 hd (Nat.eq_of_beq_eq_true hc.2) hL.has hb rfl (fun ls' hl' => k p e s m args below meth c H locs ls' C hP hS (LV.set (v := .int x) hl'))
  · cases hc
theorem Ev_lstore {x : Int64} (h : opn i pc = some (7, b, c, e, nx, vi, vl)) (k : Ev l X d i nx (setW b (.long x) ls) st n0 n1 n ρ σ Q) : Ev l X d i pc ls (.long x :: st) n0 n1 n ρ σ Q := by
  obtain ⟨-, ins, len, hd, rfl, hc⟩ := op_ok h
  have hc : ckLstore i b ins len = true := hc
  intro p e s m args below meth c H locs lsA C hP hS hL
  unfold ckLstore at hc
  rw [Bool.and_eq_true, Nat.blt_eq] at hc
  obtain ⟨hb, hc⟩ := hc
  split at hc
  · rw [Bool.and_eq_true] at hc
    have h1 := Nat.eq_of_beq_eq_true hc.1
    have h2 := Nat.eq_of_beq_eq_true hc.2
    subst h1; subst h2
    exact lv_lstore C.1 C.2.1 hd hL.has hb rfl (fun ls' hl' => k p e s m args below meth c H locs ls' C hP hS (LV.setw (v := .long x) hl'))
  · rw [Bool.and_eq_true] at hc
    have h1 := Nat.eq_of_beq_eq_true hc.1
    subst h1
    exact lv_lstore_n C.1 C.2.1 hd (Nat.eq_of_beq_eq_true hc.2) hL.has hb rfl (fun ls' hl' => k p e s m args below meth c H locs ls' C hP hS (LV.setw (v := .long x) hl'))
  · cases hc
theorem Ev_astore {v : Value} (h : opn i pc = some (8, b, c, e, nx, vi, vl)) (hv : isR v = true) (k : Ev l X d i nx (setV b v ls) st n0 n1 n ρ σ Q) : Ev l X d i pc ls (v :: st) n0 n1 n ρ σ Q := by
  obtain ⟨-, ins, len, hd, rfl, hc⟩ := op_ok h
  replace hc : ckAstore i b ins len = true := hc
  intro p e s m args below meth c H locs lsA C hP hS hL
  obtain ⟨a, ha⟩ := isR_cv (X := X) hv
  rw [List.map_cons, ha]
  unfold ckAstore at hc
  rw [Bool.and_eq_true, Nat.blt_eq] at hc
  obtain ⟨hb, hc⟩ := hc
  split at hc
  · rw [Bool.and_eq_true] at hc
    have h1 := Nat.eq_of_beq_eq_true hc.1
    have h2 := Nat.eq_of_beq_eq_true hc.2
    subst h1; subst h2
    exact lv_astore C.1 C.2.1 hd hL.has hb rfl (fun ls' hl' => k p e s m args below meth c H locs ls' C hP hS (LV.set (v := v) (by rw [ha]; exact hl')))
  · rw [Bool.and_eq_true] at hc
    have h1 := Nat.eq_of_beq_eq_true hc.1
    subst h1
    exact lv_astore_n C.1 C.2.1 hd (Nat.eq_of_beq_eq_true hc.2) hL.has hb rfl (fun ls' hl' => k p e s m args below meth c H locs ls' C hP hS (LV.set (v := v) (by rw [ha]; exact hl')))
  · cases hc
theorem Ev_iinc {x : Int32} (h : opn i pc = some (9, b, c, e, nx, vi, vl)) (hl : ls[b]? = some (.int x)) (k : Ev l X d i nx (setV b (.int (x + vi)) ls) st n0 n1 n ρ σ Q) : Ev l X d i pc ls st n0 n1 n ρ σ Q := by
  obtain ⟨-, ins, len, hd, rfl, hc⟩ := op_ok h
  replace hc : ckIinc i b vi ins len = true := hc
  intro p e s m args below meth c H locs lsA C hP hS hL
  unfold ckIinc at hc
  rw [Bool.and_eq_true, Nat.blt_eq] at hc
  obtain ⟨hb, hc⟩ := hc
  split at hc
  · simp only [Bool.and_eq_true, decide_eq_true_eq] at hc
    obtain ⟨⟨h1, h2⟩, h3⟩ := hc
    have h1 := Nat.eq_of_beq_eq_true h1
    have h2 := Nat.eq_of_beq_eq_true h2
    subst h1; subst h2
    obtain ⟨q, hq⟩ := List.getElem?_of_mem (prs_mem (X := X) hl (by intro q; cases q))
    exact lv_iinc (v := x + vi) C.1 C.2.1 hd hL.has hq (by rw [h3]) hb rfl (fun ls' hl' => k p e s m args below meth c H locs ls' C hP hS (LV.set (v := .int (x + vi)) hl'))
  · cases hc
theorem Ev_if_eq {x : Int32} (h : opn i pc = some (40, b, c, e, nx, vi, vl)) (kt : x = 0 → Ev l X d i b ls st n0 n1 n ρ σ Q) (kf : ¬ (x = 0) → Ev l X d i nx ls st n0 n1 n ρ σ Q) : Ev l X d i pc ls (.int x :: st) n0 n1 n ρ σ Q := by
  obtain ⟨-, ins, len, hd, rfl, hc⟩ := op_ok h
  have hc : ckIf pc b 0 ins len = true := hc
  intro p e s m args below meth c H locs lsA C hP hS hL
  unfold ckIf at hc
  split at hc
  · rename_i q o _
    simp only [Bool.and_eq_true, decide_eq_true_eq] at hc
    obtain ⟨⟨h1, h2⟩, h3⟩ := hc
    have h1 := Nat.eq_of_beq_eq_true h1
    subst h1
    have hq : q = .eq := by cases q <;> first | rfl | (exact absurd h2 (by decide))
    subst hq
    exact lv_if_eq C.1 C.2.1 hd h3 (fun z => kt (by first | exact z | simpa using z) p e s m args below meth c H locs lsA C hP hS hL) (fun z => kf (by first | exact z | simpa using z) p e s m args below meth c H locs lsA C hP hS hL)
  · cases hc
theorem Ev_icmp_eq {x y : Int32} (h : opn i pc = some (50, b, c, e, nx, vi, vl)) (kt : x = y → Ev l X d i b ls st n0 n1 n ρ σ Q) (kf : ¬ (x = y) → Ev l X d i nx ls st n0 n1 n ρ σ Q) : Ev l X d i pc ls (.int y :: .int x :: st) n0 n1 n ρ σ Q := by
  obtain ⟨-, ins, len, hd, rfl, hc⟩ := op_ok h
  have hc : ckIcmp pc b 0 ins len = true := hc
  intro p e s m args below meth c H locs lsA C hP hS hL
  unfold ckIcmp at hc
  split at hc
  · rename_i q o _
    simp only [Bool.and_eq_true, decide_eq_true_eq] at hc
    obtain ⟨⟨h1, h2⟩, h3⟩ := hc
    have h1 := Nat.eq_of_beq_eq_true h1
    subst h1
    have hq : q = .eq := by cases q <;> first | rfl | (exact absurd h2 (by decide))
    subst hq
    exact lv_icmp_eq C.1 C.2.1 hd h3 (fun z => kt (by first | exact z | simpa using z) p e s m args below meth c H locs lsA C hP hS hL) (fun z => kf (by first | exact z | simpa using z) p e s m args below meth c H locs lsA C hP hS hL)
  · cases hc
theorem Ev_if_ne {x : Int32} (h : opn i pc = some (41, b, c, e, nx, vi, vl)) (kt : ¬ x = 0 → Ev l X d i b ls st n0 n1 n ρ σ Q) (kf : ¬ (¬ x = 0) → Ev l X d i nx ls st n0 n1 n ρ σ Q) : Ev l X d i pc ls (.int x :: st) n0 n1 n ρ σ Q := by
  obtain ⟨-, ins, len, hd, rfl, hc⟩ := op_ok h
  have hc : ckIf pc b 1 ins len = true := hc
  intro p e s m args below meth c H locs lsA C hP hS hL
  unfold ckIf at hc
  split at hc
  · rename_i q o _
    simp only [Bool.and_eq_true, decide_eq_true_eq] at hc
    obtain ⟨⟨h1, h2⟩, h3⟩ := hc
    have h1 := Nat.eq_of_beq_eq_true h1
    subst h1
    have hq : q = .ne := by cases q <;> first | rfl | (exact absurd h2 (by decide))
    subst hq
    exact lv_if_ne C.1 C.2.1 hd h3 (fun z => kt (by first | exact z | simpa using z) p e s m args below meth c H locs lsA C hP hS hL) (fun z => kf (by first | exact z | simpa using z) p e s m args below meth c H locs lsA C hP hS hL)
  · cases hc
theorem Ev_icmp_ne {x y : Int32} (h : opn i pc = some (51, b, c, e, nx, vi, vl)) (kt : ¬ x = y → Ev l X d i b ls st n0 n1 n ρ σ Q) (kf : ¬ (¬ x = y) → Ev l X d i nx ls st n0 n1 n ρ σ Q) : Ev l X d i pc ls (.int y :: .int x :: st) n0 n1 n ρ σ Q := by
  obtain ⟨-, ins, len, hd, rfl, hc⟩ := op_ok h
  have hc : ckIcmp pc b 1 ins len = true := hc
  intro p e s m args below meth c H locs lsA C hP hS hL
  unfold ckIcmp at hc
  split at hc
  · rename_i q o _
    simp only [Bool.and_eq_true, decide_eq_true_eq] at hc
    obtain ⟨⟨h1, h2⟩, h3⟩ := hc
    have h1 := Nat.eq_of_beq_eq_true h1
    subst h1
    have hq : q = .ne := by cases q <;> first | rfl | (exact absurd h2 (by decide))
    subst hq
    exact lv_icmp_ne C.1 C.2.1 hd h3 (fun z => kt (by first | exact z | simpa using z) p e s m args below meth c H locs lsA C hP hS hL) (fun z => kf (by first | exact z | simpa using z) p e s m args below meth c H locs lsA C hP hS hL)
  · cases hc
theorem Ev_if_lt {x : Int32} (h : opn i pc = some (42, b, c, e, nx, vi, vl)) (kt : x < 0 → Ev l X d i b ls st n0 n1 n ρ σ Q) (kf : ¬ (x < 0) → Ev l X d i nx ls st n0 n1 n ρ σ Q) : Ev l X d i pc ls (.int x :: st) n0 n1 n ρ σ Q := by
  obtain ⟨-, ins, len, hd, rfl, hc⟩ := op_ok h
  have hc : ckIf pc b 2 ins len = true := hc
  intro p e s m args below meth c H locs lsA C hP hS hL
  unfold ckIf at hc
  split at hc
  · rename_i q o _
    simp only [Bool.and_eq_true, decide_eq_true_eq] at hc
    obtain ⟨⟨h1, h2⟩, h3⟩ := hc
    have h1 := Nat.eq_of_beq_eq_true h1
    subst h1
    have hq : q = .lt := by cases q <;> first | rfl | (exact absurd h2 (by decide))
    subst hq
    exact lv_if_lt C.1 C.2.1 hd h3 (fun z => kt (by first | exact z | simpa using z) p e s m args below meth c H locs lsA C hP hS hL) (fun z => kf (by first | exact z | simpa using z) p e s m args below meth c H locs lsA C hP hS hL)
  · cases hc
theorem Ev_icmp_lt {x y : Int32} (h : opn i pc = some (52, b, c, e, nx, vi, vl)) (kt : x < y → Ev l X d i b ls st n0 n1 n ρ σ Q) (kf : ¬ (x < y) → Ev l X d i nx ls st n0 n1 n ρ σ Q) : Ev l X d i pc ls (.int y :: .int x :: st) n0 n1 n ρ σ Q := by
  obtain ⟨-, ins, len, hd, rfl, hc⟩ := op_ok h
  have hc : ckIcmp pc b 2 ins len = true := hc
  intro p e s m args below meth c H locs lsA C hP hS hL
  unfold ckIcmp at hc
  split at hc
  · rename_i q o _
    simp only [Bool.and_eq_true, decide_eq_true_eq] at hc
    obtain ⟨⟨h1, h2⟩, h3⟩ := hc
    have h1 := Nat.eq_of_beq_eq_true h1
    subst h1
    have hq : q = .lt := by cases q <;> first | rfl | (exact absurd h2 (by decide))
    subst hq
    exact lv_icmp_lt C.1 C.2.1 hd h3 (fun z => kt (by first | exact z | simpa using z) p e s m args below meth c H locs lsA C hP hS hL) (fun z => kf (by first | exact z | simpa using z) p e s m args below meth c H locs lsA C hP hS hL)
  · cases hc
theorem Ev_if_ge {x : Int32} (h : opn i pc = some (43, b, c, e, nx, vi, vl)) (kt : 0 ≤ x → Ev l X d i b ls st n0 n1 n ρ σ Q) (kf : ¬ (0 ≤ x) → Ev l X d i nx ls st n0 n1 n ρ σ Q) : Ev l X d i pc ls (.int x :: st) n0 n1 n ρ σ Q := by
  obtain ⟨-, ins, len, hd, rfl, hc⟩ := op_ok h
  have hc : ckIf pc b 3 ins len = true := hc
  intro p e s m args below meth c H locs lsA C hP hS hL
  unfold ckIf at hc
  split at hc
  · rename_i q o _
    simp only [Bool.and_eq_true, decide_eq_true_eq] at hc
    obtain ⟨⟨h1, h2⟩, h3⟩ := hc
    have h1 := Nat.eq_of_beq_eq_true h1
    subst h1
    have hq : q = .ge := by cases q <;> first | rfl | (exact absurd h2 (by decide))
    subst hq
    exact lv_if_ge C.1 C.2.1 hd h3 (fun z => kt (by first | exact z | simpa using z) p e s m args below meth c H locs lsA C hP hS hL) (fun z => kf (by first | exact z | simpa using z) p e s m args below meth c H locs lsA C hP hS hL)
  · cases hc
theorem Ev_icmp_ge {x y : Int32} (h : opn i pc = some (53, b, c, e, nx, vi, vl)) (kt : y ≤ x → Ev l X d i b ls st n0 n1 n ρ σ Q) (kf : ¬ (y ≤ x) → Ev l X d i nx ls st n0 n1 n ρ σ Q) : Ev l X d i pc ls (.int y :: .int x :: st) n0 n1 n ρ σ Q := by
  obtain ⟨-, ins, len, hd, rfl, hc⟩ := op_ok h
  have hc : ckIcmp pc b 3 ins len = true := hc
  intro p e s m args below meth c H locs lsA C hP hS hL
  unfold ckIcmp at hc
  split at hc
  · rename_i q o _
    simp only [Bool.and_eq_true, decide_eq_true_eq] at hc
    obtain ⟨⟨h1, h2⟩, h3⟩ := hc
    have h1 := Nat.eq_of_beq_eq_true h1
    subst h1
    have hq : q = .ge := by cases q <;> first | rfl | (exact absurd h2 (by decide))
    subst hq
    exact lv_icmp_ge C.1 C.2.1 hd h3 (fun z => kt (by first | exact z | simpa using z) p e s m args below meth c H locs lsA C hP hS hL) (fun z => kf (by first | exact z | simpa using z) p e s m args below meth c H locs lsA C hP hS hL)
  · cases hc
theorem Ev_if_gt {x : Int32} (h : opn i pc = some (44, b, c, e, nx, vi, vl)) (kt : 0 < x → Ev l X d i b ls st n0 n1 n ρ σ Q) (kf : ¬ (0 < x) → Ev l X d i nx ls st n0 n1 n ρ σ Q) : Ev l X d i pc ls (.int x :: st) n0 n1 n ρ σ Q := by
  obtain ⟨-, ins, len, hd, rfl, hc⟩ := op_ok h
  have hc : ckIf pc b 4 ins len = true := hc
  intro p e s m args below meth c H locs lsA C hP hS hL
  unfold ckIf at hc
  split at hc
  · rename_i q o _
    simp only [Bool.and_eq_true, decide_eq_true_eq] at hc
    obtain ⟨⟨h1, h2⟩, h3⟩ := hc
    have h1 := Nat.eq_of_beq_eq_true h1
    subst h1
    have hq : q = .gt := by cases q <;> first | rfl | (exact absurd h2 (by decide))
    subst hq
    exact lv_if_gt C.1 C.2.1 hd h3 (fun z => kt (by first | exact z | simpa using z) p e s m args below meth c H locs lsA C hP hS hL) (fun z => kf (by first | exact z | simpa using z) p e s m args below meth c H locs lsA C hP hS hL)
  · cases hc
theorem Ev_icmp_gt {x y : Int32} (h : opn i pc = some (54, b, c, e, nx, vi, vl)) (kt : y < x → Ev l X d i b ls st n0 n1 n ρ σ Q) (kf : ¬ (y < x) → Ev l X d i nx ls st n0 n1 n ρ σ Q) : Ev l X d i pc ls (.int y :: .int x :: st) n0 n1 n ρ σ Q := by
  obtain ⟨-, ins, len, hd, rfl, hc⟩ := op_ok h
  have hc : ckIcmp pc b 4 ins len = true := hc
  intro p e s m args below meth c H locs lsA C hP hS hL
  unfold ckIcmp at hc
  split at hc
  · rename_i q o _
    simp only [Bool.and_eq_true, decide_eq_true_eq] at hc
    obtain ⟨⟨h1, h2⟩, h3⟩ := hc
    have h1 := Nat.eq_of_beq_eq_true h1
    subst h1
    have hq : q = .gt := by cases q <;> first | rfl | (exact absurd h2 (by decide))
    subst hq
    exact lv_icmp_gt C.1 C.2.1 hd h3 (fun z => kt (by first | exact z | simpa using z) p e s m args below meth c H locs lsA C hP hS hL) (fun z => kf (by first | exact z | simpa using z) p e s m args below meth c H locs lsA C hP hS hL)
  · cases hc
theorem Ev_if_le {x : Int32} (h : opn i pc = some (45, b, c, e, nx, vi, vl)) (kt : x ≤ 0 → Ev l X d i b ls st n0 n1 n ρ σ Q) (kf : ¬ (x ≤ 0) → Ev l X d i nx ls st n0 n1 n ρ σ Q) : Ev l X d i pc ls (.int x :: st) n0 n1 n ρ σ Q := by
  obtain ⟨-, ins, len, hd, rfl, hc⟩ := op_ok h
  have hc : ckIf pc b 5 ins len = true := hc
  intro p e s m args below meth c H locs lsA C hP hS hL
  unfold ckIf at hc
  split at hc
  · rename_i q o _
    simp only [Bool.and_eq_true, decide_eq_true_eq] at hc
    obtain ⟨⟨h1, h2⟩, h3⟩ := hc
    have h1 := Nat.eq_of_beq_eq_true h1
    subst h1
    have hq : q = .le := by cases q <;> first | rfl | (exact absurd h2 (by decide))
    subst hq
    exact lv_if_le C.1 C.2.1 hd h3 (fun z => kt (by first | exact z | simpa using z) p e s m args below meth c H locs lsA C hP hS hL) (fun z => kf (by first | exact z | simpa using z) p e s m args below meth c H locs lsA C hP hS hL)
  · cases hc
theorem Ev_icmp_le {x y : Int32} (h : opn i pc = some (55, b, c, e, nx, vi, vl)) (kt : x ≤ y → Ev l X d i b ls st n0 n1 n ρ σ Q) (kf : ¬ (x ≤ y) → Ev l X d i nx ls st n0 n1 n ρ σ Q) : Ev l X d i pc ls (.int y :: .int x :: st) n0 n1 n ρ σ Q := by
  obtain ⟨-, ins, len, hd, rfl, hc⟩ := op_ok h
  have hc : ckIcmp pc b 5 ins len = true := hc
  intro p e s m args below meth c H locs lsA C hP hS hL
  unfold ckIcmp at hc
  split at hc
  · rename_i q o _
    simp only [Bool.and_eq_true, decide_eq_true_eq] at hc
    obtain ⟨⟨h1, h2⟩, h3⟩ := hc
    have h1 := Nat.eq_of_beq_eq_true h1
    subst h1
    have hq : q = .le := by cases q <;> first | rfl | (exact absurd h2 (by decide))
    subst hq
    exact lv_icmp_le C.1 C.2.1 hd h3 (fun z => kt (by first | exact z | simpa using z) p e s m args below meth c H locs lsA C hP hS hL) (fun z => kf (by first | exact z | simpa using z) p e s m args below meth c H locs lsA C hP hS hL)
  · cases hc
theorem Ev_goto (h : opn i pc = some (56, b, c, e, nx, vi, vl)) (k : Ev l X d i b ls st n0 n1 n ρ σ Q) : Ev l X d i pc ls st n0 n1 n ρ σ Q := by
  obtain ⟨-, ins, len, hd, rfl, hc⟩ := op_ok h
  replace hc : ckGoto pc b ins len = true := hc
  intro p e s m args below meth c H locs lsA C hP hS hL
  unfold ckGoto at hc
  split at hc
  · rw [Bool.and_eq_true, decide_eq_true_eq] at hc
    have h1 := Nat.eq_of_beq_eq_true hc.1
    subst h1
    exact lv_goto C.1 C.2.1 hd hc.2 (k p e s m args below meth c H locs lsA C hP hS hL)
  · cases hc
/-- where a switch goes -/
def swP (P : Nat → Prop) (x : Int32) (t : Nat) : List (Int × Nat) → Prop
  | [] => P t
  | (a, q) :: r => (x.toInt = a → P q) ∧ (¬ x.toInt = a → swP P x t r)
theorem swP_in {P : Nat → Prop} {x : Int32} {t : Nat} : ∀ {ts : List (Int × Nat)}, swP P x t ts → (ts.map Prod.fst).Nodup → ∀ {a : Int} {q : Nat}, (a, q) ∈ ts → x.toInt = a → P q
  | [], _, _, _, _, h, _ => by cases h
  | (a0, q0) :: r, hs, hn, a, q, h, hx => by
    rcases List.mem_cons.mp h with h | h
    · cases h
      exact hs.1 hx
    · rw [List.map_cons, List.nodup_cons] at hn
      refine swP_in (hs.2 (fun z => hn.1 ?_)) hn.2 h hx
      show a0 ∈ r.map Prod.fst
      rw [← z, hx]
      exact List.mem_map.mpr ⟨(a, q), h, rfl⟩
theorem swP_out {P : Nat → Prop} {x : Int32} {t : Nat} : ∀ {ts : List (Int × Nat)}, swP P x t ts → (∀ a ∈ ts.map Prod.fst, ¬ x.toInt = a) → P t
  | [], hs, _ => hs
  | (a0, q0) :: r, hs, hn => swP_out (hs.2 (hn a0 List.mem_cons_self)) (fun a h => hn a (List.mem_cons_of_mem _ h))
theorem Ev_tab {x : Int32} {lo : Int} {ts : List (Int × Nat)} {t : Nat} (h : opn i pc = some (120, b, c, e, nx, vi, vl)) (hs : swE b = some (lo, ts, t)) (k : swP (fun q => Ev l X d i q ls st n0 n1 n ρ σ Q) x t ts) : Ev l X d i pc ls (.int x :: st) n0 n1 n ρ σ Q := by
  obtain ⟨-, ins, len, hd, -, hc⟩ := op_ok h
  replace hc : ckTab pc b ins = true := hc
  intro p e s m args below meth c H locs lsA C hP hS hL
  unfold ckTab at hc
  split at hc
  · rename_i dflt lo2 hi offs
    rw [hs] at hc
    obtain ⟨e1, e2, e3, e4, e5⟩ := of_decide_eq_true hc
    subst e1
    have hlen : offs.toList.length = ts.length := by
      have := congrArg List.length e3
      simpa using this
    by_cases hx1 : x.toInt < lo
    · refine lv_tableOut C.1 C.2.1 hd (Or.inl hx1) e4 ?_
      refine (swP_out k ?_) p e s m args below meth c H locs lsA C hP hS hL
      intro a ha
      rw [e5] at ha
      obtain ⟨j, hj, rfl⟩ := List.mem_map.mp ha
      omega
    by_cases hx2 : hi < x.toInt
    · refine lv_tableOut C.1 C.2.1 hd (Or.inr hx2) e4 ?_
      refine (swP_out k ?_) p e s m args below meth c H locs lsA C hP hS hL
      intro a ha
      rw [e5] at ha
      obtain ⟨j, hj, rfl⟩ := List.mem_map.mp ha
      have := List.mem_range.mp hj
      omega
    · have hj : (x.toInt - lo).toNat < ts.length := by omega
      have ho : offs.toList[(x.toInt - lo).toNat]? = some (offs.toList[(x.toInt - lo).toNat]'(by omega)) := List.getElem?_eq_getElem _
      have hts : ts[(x.toInt - lo).toNat]? = some (ts[(x.toInt - lo).toNat]'hj) := List.getElem?_eq_getElem _
      generalize hov : (offs.toList[(x.toInt - lo).toNat]'(by omega)) = ov at ho
      generalize htv : (ts[(x.toInt - lo).toNat]'hj) = tv at hts
      have h3 := congrArg (fun z => z[(x.toInt - lo).toNat]?) e3
      simp only [List.getElem?_map, ho, hts, Option.map_some, Option.some.injEq] at h3
      have h5 := congrArg (fun z => z[(x.toInt - lo).toNat]?) e5
      simp only [List.getElem?_map, hts, Option.map_some] at h5
      rw [List.getElem?_range hj] at h5
      simp only [Option.map_some, Option.some.injEq] at h5
      have ho2 : offs[(x.toInt - lo).toNat]? = some ov := by rw [← Array.getElem?_toList]; exact ho
      refine lv_tableIn C.1 C.2.1 hd hx1 hx2 ho2 h3 ?_
      have hnd : (ts.map Prod.fst).Nodup := by
        rw [e5, List.nodup_iff_pairwise_ne]
        rw [List.pairwise_map]
        refine List.Pairwise.imp ?_ List.pairwise_lt_range
        intro a b hab
        omega
      exact (swP_in k hnd (a := tv.1) (q := tv.2) (List.mem_of_getElem? hts) (by rw [h5]; omega)) p e s m args below meth c H locs lsA C hP hS hL
  · cases hc
theorem look_off : ∀ {ps : List (Int × Int)} {ts : List (Int × Nat)} {dd : Int} {t : Nat} {P : Nat → Prop} {x : Int32}, ps.map (fun q => (q.1, (pc : Int) + q.2)) = ts.map (fun q => (q.1, (q.2 : Int))) → (pc : Int) + dd = (t : Int) → swP P x t ts → ∃ (o : Int) (g : Nat), Op.lookupswitch.offset ps dd x.toInt = o ∧ (pc : Int) + o = (g : Int) ∧ P g
  | [], ts, dd, t, P, x, h1, h2, h3 => by
    have : ts = [] := by cases ts with | nil => rfl | cons a r => simp at h1
    subst this
    exact ⟨dd, t, by simp [Op.lookupswitch.offset], h2, h3⟩
  | (a, o) :: r, ts, dd, t, P, x, h1, h2, h3 => by
    match ts, h1, h3 with
    | [], h1, _ => simp at h1
    | (a2, g) :: r2, h1, h3 =>
      simp only [List.map_cons, List.cons.injEq, Prod.mk.injEq] at h1
      obtain ⟨⟨e1, e2⟩, e3⟩ := h1
      subst e1
      by_cases hx : x.toInt = a
      · refine ⟨o, g, ?_, e2, h3.1 hx⟩
        rw [Op.lookupswitch.offset_cons, if_pos hx.symm]
      · obtain ⟨o2, g2, q1, q2, q3⟩ := look_off e3 h2 (h3.2 hx)
        refine ⟨o2, g2, ?_, q2, q3⟩
        rw [Op.lookupswitch.offset_cons, if_neg (fun z => hx z.symm)]
        exact q1
theorem Ev_look {x : Int32} {lo : Int} {ts : List (Int × Nat)} {t : Nat} (h : opn i pc = some (121, b, c, e, nx, vi, vl)) (hs : swE b = some (lo, ts, t)) (k : swP (fun q => Ev l X d i q ls st n0 n1 n ρ σ Q) x t ts) : Ev l X d i pc ls (.int x :: st) n0 n1 n ρ σ Q := by
  obtain ⟨-, ins, len, hd, -, hc⟩ := op_ok h
  replace hc : ckLook pc b ins = true := hc
  intro p e s m args below meth c H locs lsA C hP hS hL
  unfold ckLook at hc
  split at hc
  · rename_i dflt ps
    rw [hs] at hc
    have hc : (decide (ps.toList.map (fun q => (q.1, (pc : Int) + q.2)) = ts.map (fun q => (q.1, (q.2 : Int))) ∧ (pc : Int) + dflt = (t : Int)) && (ps.toList.zip (ps.toList.drop 1)).all (fun (a, next) => a.1 < next.1)) = true := hc
    rw [Bool.and_eq_true, decide_eq_true_eq] at hc
    obtain ⟨⟨e1, e2⟩, e3⟩ := hc
    obtain ⟨o, g, q1, q2, q3⟩ := look_off e1 e2 k
    exact lv_lookup C.1 C.2.1 hd e3 q1 q2 (q3 p e s m args below meth c H locs lsA C hP hS hL)
  · cases hc
end EvA
