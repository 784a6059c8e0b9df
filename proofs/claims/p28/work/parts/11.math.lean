/-! Math: four of its methods. -/
theorem jrn {n : Nat} (h : n ≤ 1000000) : jr (n : Int) := ⟨by omega, by omega⟩
def S_Mat_max (_ : Nat) : jS := fun av M sz P _ => match av with
  | [.inl a, .inl b] => jr a ∧ jr b ∧ P (some (vI (if b ≤ a then a else b))) M sz
  | _ => False
def k_Mat_max : List (Nat × jI5) := [(0, .iload_n 0, 1, 0, 0), (1, .iload_n 1, 2, 0, 0), (2, .if_icmp .lt (7), 5, 9, 0), (5, .iload_n 0, 6, 0, 0), (6, .goto (4), 9, 10, 0), (9, .iload_n 1, 10, 0, 0), (10, .ireturn, 11, 0, 0)]
theorem k_Mat_max_ok : k_Mat_max.all (jok1 prog_12_method_65_code) = true := by decide +kernel
abbrev y_Mat_max : MethodName := ⟨"java/lang/Math", "max", "(II)I"⟩
theorem Y_Mat_max : jYok y_Mat_max prog_12_method_65_code 2 (some .int) 2 := ⟨(jg_in (List.mem_of_getElem? (i := 80) (by decide +kernel)) rfl), (jg_in (List.mem_of_getElem? (i := 42) (by decide +kernel)) rfl), by decide +kernel, by decide⟩
def cp_Mat_max (sz0 : Nat) : List (Nat × Nat × jTr) := []
theorem cp_Mat_max_ok {l : Launch} (hnt : l.stackTraces = false) (sz0 : Nat) : ∀ q ∈ cp_Mat_max sz0, jSnd sz0 l "java/lang/Math" "max" 0 (jin q.1 q.2.1) (jlen (jin q.1 q.2.1)) q.2.2 := fun _ h => absurd h List.not_mem_nil
set_option maxRecDepth 20000 in
set_option maxHeartbeats 4000000 in
theorem c_Mat_max {l : Launch} (hnt : l.stackTraces = false) (sz0 : Nat) : jCon sz0 l y_Mat_max prog_12_method_65_code 2 (some .int) 0 0 0 (S_Mat_max sz0) := by
  refine jmet (own := "java/lang/Math") (nm := "max") k_Mat_max (cp_Mat_max sz0) [] 20 (by decide +kernel) rfl rfl hnt k_Mat_max_ok (cp_Mat_max_ok hnt sz0) (fun _ h => absurd h List.not_mem_nil) ?_
  intro av M sz P X h hz hfr
  unfold S_Mat_max at h
  split at h
  · rename_i a b
    obtain ⟨ha, hb, h⟩ := h
    refine ⟨rfl, [], ?_, fun pc a h => absurd h List.not_mem_nil⟩
    conv => whnf
    refine ⟨⟨ha, hb⟩, fun c1 => ?_, fun c1 => ?_⟩
    · conv => whnf
      rw [if_neg (by omega)] at h
      exact ⟨trivial, h⟩
    · conv => whnf
      rw [if_pos (by omega)] at h
      exact ⟨trivial, h⟩
  · exact h.elim
def S_Mat_min (_ : Nat) : jS := fun av M sz P _ => match av with
  | [.inl a, .inl b] => jr a ∧ jr b ∧ P (some (vI (if a ≤ b then a else b))) M sz
  | _ => False
def k_Mat_min : List (Nat × jI5) := [(0, .iload_n 0, 1, 0, 0), (1, .iload_n 1, 2, 0, 0), (2, .if_icmp .gt (7), 5, 9, 0), (5, .iload_n 0, 6, 0, 0), (6, .goto (4), 9, 10, 0), (9, .iload_n 1, 10, 0, 0), (10, .ireturn, 11, 0, 0)]
theorem k_Mat_min_ok : k_Mat_min.all (jok1 prog_12_method_69_code) = true := by decide +kernel
abbrev y_Mat_min : MethodName := ⟨"java/lang/Math", "min", "(II)I"⟩
theorem Y_Mat_min : jYok y_Mat_min prog_12_method_69_code 2 (some .int) 2 := ⟨(jg_in (List.mem_of_getElem? (i := 319) (by decide +kernel)) rfl), (jg_in (List.mem_of_getElem? (i := 42) (by decide +kernel)) rfl), by decide +kernel, by decide⟩
def cp_Mat_min (sz0 : Nat) : List (Nat × Nat × jTr) := []
theorem cp_Mat_min_ok {l : Launch} (hnt : l.stackTraces = false) (sz0 : Nat) : ∀ q ∈ cp_Mat_min sz0, jSnd sz0 l "java/lang/Math" "min" 0 (jin q.1 q.2.1) (jlen (jin q.1 q.2.1)) q.2.2 := fun _ h => absurd h List.not_mem_nil
set_option maxRecDepth 20000 in
set_option maxHeartbeats 4000000 in
theorem c_Mat_min {l : Launch} (hnt : l.stackTraces = false) (sz0 : Nat) : jCon sz0 l y_Mat_min prog_12_method_69_code 2 (some .int) 0 0 0 (S_Mat_min sz0) := by
  refine jmet (own := "java/lang/Math") (nm := "min") k_Mat_min (cp_Mat_min sz0) [] 20 (by decide +kernel) rfl rfl hnt k_Mat_min_ok (cp_Mat_min_ok hnt sz0) (fun _ h => absurd h List.not_mem_nil) ?_
  intro av M sz P X h hz hfr
  unfold S_Mat_min at h
  split at h
  · rename_i a b
    obtain ⟨ha, hb, h⟩ := h
    refine ⟨rfl, [], ?_, fun pc a h => absurd h List.not_mem_nil⟩
    conv => whnf
    refine ⟨⟨ha, hb⟩, fun c1 => ?_, fun c1 => ?_⟩
    · conv => whnf
      rw [if_neg (by omega)] at h
      exact ⟨trivial, h⟩
    · conv => whnf
      rw [if_pos (by omega)] at h
      exact ⟨trivial, h⟩
  · exact h.elim
def S_Mat_abs (_ : Nat) : jS := fun av M sz P _ => match av with
  | [.inl a] => jr a ∧ P (some (vI (if 0 ≤ a then a else -a))) M sz
  | _ => False
def k_Mat_abs : List (Nat × jI5) := [(0, .iload_n 0, 1, 0, 0), (1, .ifCond .ge (8), 4, 9, 0), (4, .iload_n 0, 5, 0, 0), (5, .ineg, 6, 0, 0), (6, .goto (4), 9, 10, 0), (9, .iload_n 0, 10, 0, 0), (10, .ireturn, 11, 0, 0)]
theorem k_Mat_abs_ok : k_Mat_abs.all (jok1 prog_12_method_59_code) = true := by decide +kernel
abbrev y_Mat_abs : MethodName := ⟨"java/lang/Math", "abs", "(I)I"⟩
theorem Y_Mat_abs : jYok y_Mat_abs prog_12_method_59_code 1 (some .int) 1 := ⟨(jg_in (List.mem_of_getElem? (i := 577) (by decide +kernel)) rfl), (jg_in (List.mem_of_getElem? (i := 42) (by decide +kernel)) rfl), by decide +kernel, by decide⟩
def cp_Mat_abs (sz0 : Nat) : List (Nat × Nat × jTr) := []
theorem cp_Mat_abs_ok {l : Launch} (hnt : l.stackTraces = false) (sz0 : Nat) : ∀ q ∈ cp_Mat_abs sz0, jSnd sz0 l "java/lang/Math" "abs" 0 (jin q.1 q.2.1) (jlen (jin q.1 q.2.1)) q.2.2 := fun _ h => absurd h List.not_mem_nil
set_option maxRecDepth 20000 in
set_option maxHeartbeats 4000000 in
theorem c_Mat_abs {l : Launch} (hnt : l.stackTraces = false) (sz0 : Nat) : jCon sz0 l y_Mat_abs prog_12_method_59_code 1 (some .int) 0 0 0 (S_Mat_abs sz0) := by
  refine jmet (own := "java/lang/Math") (nm := "abs") k_Mat_abs (cp_Mat_abs sz0) [] 20 (by decide +kernel) rfl rfl hnt k_Mat_abs_ok (cp_Mat_abs_ok hnt sz0) (fun _ h => absurd h List.not_mem_nil) ?_
  intro av M sz P X h hz hfr
  unfold S_Mat_abs at h
  split at h
  · rename_i a
    obtain ⟨ha, h⟩ := h
    refine ⟨rfl, [], ?_, fun pc a h => absurd h List.not_mem_nil⟩
    conv => whnf
    refine ⟨ha, fun c1 => ?_, fun c1 => ?_⟩
    · conv => whnf
      rw [if_pos (by omega)] at h
      exact ⟨trivial, h⟩
    · conv => whnf
      rw [if_neg (by omega)] at h
      exact ⟨trivial, h⟩
  · exact h.elim
theorem jxor {a b : Int} (ha : 0 ≤ a ∧ jr a) (hb : 0 ≤ b ∧ jr b) : 0 ≤ (iI a ^^^ iI b).toInt := by
  obtain ⟨n, rfl⟩ := Int.eq_ofNat_of_zero_le ha.1
  obtain ⟨k, rfl⟩ := Int.eq_ofNat_of_zero_le hb.1
  have hn : n < 2 ^ 31 := by have := ha.2.2; omega
  have hk : k < 2 ^ 31 := by have := hb.2.2; omega
  rw [iI_nat, iI_nat]
  show 0 ≤ (nI n ^^^ nI k).toBitVec.toInt
  rw [Int32.toBitVec_xor]
  have h1 : ((nI n).toBitVec ^^^ (nI k).toBitVec).toNat < 2 ^ 31 := by
    rw [BitVec.toNat_xor, pk_tn (by omega), pk_tn (by omega)]
    exact Nat.xor_lt_two_pow hn hk
  rw [BitVec.toInt_eq_toNat_of_lt (by omega)]
  omega
def S_Mat_floorMod (_ : Nat) : jS := fun av M sz P _ => match av with
  | [.inl a, .inl b] => (0 ≤ a ∧ jr a ∧ 0 < b ∧ jr b) ∧ P (some (vI (a % b))) M sz
  | _ => False
def k_Mat_floorMod : List (Nat × jI5) := [(0, .iload_n 0, 1, 0, 0), (1, .iload_n 1, 2, 0, 0), (2, .irem, 3, 0, 0), (3, .istore_n 2, 4, 0, 0), (4, .iload_n 0, 5, 0, 0), (5, .iload_n 1, 6, 0, 0), (6, .ixor, 7, 0, 0), (7, .ifCond .ge (11), 10, 18, 0), (10, .iload_n 2, 11, 0, 0), (11, .ifCond .eq (7), 14, 18, 0), (14, .iload_n 2, 15, 0, 0), (15, .iload_n 1, 16, 0, 0), (16, .iadd, 17, 0, 0), (17, .ireturn, 18, 0, 0), (18, .iload_n 2, 19, 0, 0), (19, .ireturn, 20, 0, 0)]
theorem k_Mat_floorMod_ok : k_Mat_floorMod.all (jok1 prog_12_method_50_code) = true := by decide +kernel
abbrev y_Mat_floorMod : MethodName := ⟨"java/lang/Math", "floorMod", "(II)I"⟩
theorem Y_Mat_floorMod : jYok y_Mat_floorMod prog_12_method_50_code 3 (some .int) 2 := ⟨(jg_in (List.mem_of_getElem? (i := 286) (by decide +kernel)) rfl), (jg_in (List.mem_of_getElem? (i := 42) (by decide +kernel)) rfl), by decide +kernel, by decide⟩
def cp_Mat_floorMod (sz0 : Nat) : List (Nat × Nat × jTr) := []
theorem cp_Mat_floorMod_ok {l : Launch} (hnt : l.stackTraces = false) (sz0 : Nat) : ∀ q ∈ cp_Mat_floorMod sz0, jSnd sz0 l "java/lang/Math" "floorMod" 0 (jin q.1 q.2.1) (jlen (jin q.1 q.2.1)) q.2.2 := fun _ h => absurd h List.not_mem_nil
set_option maxRecDepth 20000 in
set_option maxHeartbeats 4000000 in
theorem c_Mat_floorMod {l : Launch} (hnt : l.stackTraces = false) (sz0 : Nat) : jCon sz0 l y_Mat_floorMod prog_12_method_50_code 3 (some .int) 0 0 0 (S_Mat_floorMod sz0) := by
  refine jmet (own := "java/lang/Math") (nm := "floorMod") k_Mat_floorMod (cp_Mat_floorMod sz0) [] 20 (by decide +kernel) rfl rfl hnt k_Mat_floorMod_ok (cp_Mat_floorMod_ok hnt sz0) (fun _ h => absurd h List.not_mem_nil) ?_
  intro av M sz P X h hz hfr
  unfold S_Mat_floorMod at h
  split at h
  · rename_i a b
    obtain ⟨⟨h1, h2, h3, h4⟩, h⟩ := h
    have e1 := Int.emod_nonneg a (show b ≠ 0 by omega)
    have e2 := Int.emod_lt_of_pos a h3
    have e3 := h4.2
    have hx := jxor ⟨h1, h2⟩ ⟨Int.le_of_lt h3, h4⟩
    refine ⟨rfl, [], ?_, fun pc a h => absurd h List.not_mem_nil⟩
    conv => whnf
    refine ⟨⟨h1, h2, h3, h4⟩, ?_⟩
    conv => whnf
    refine ⟨jr_of _, fun c1 => ?_, fun c1 => ?_⟩
    · conv => whnf
      exact ⟨trivial, h⟩
    · exact absurd hx (by omega)
  · exact h.elim

