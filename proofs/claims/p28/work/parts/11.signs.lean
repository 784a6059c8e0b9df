/-! Signs: its methods, each by what it does to the list that it holds. -/
/-- a Signs at o, its row behind it: the list xs, room for rm -/
def sg (M : jM) (o : Nat) (xs : List Int) (rm : Nat) : Prop := ∃ g : List Int, M o = some (.inl (4, [vR (o + 1), vI xs.length])) ∧ M (o + 1) = some (.inr (.inl (.int, xs ++ g))) ∧ xs.length + g.length = rm ∧ rm ≤ 100000
/-- nothing but o and what lies behind it has changed -/
def jfr (o : Nat) (M M' : jM) : Prop := ∀ q : Nat, q ≠ o → q ≠ o + 1 → M' q = M q
theorem jrn {n : Nat} (h : n ≤ 1000000) : jr (n : Int) := ⟨by omega, by omega⟩
def S_Sig_clear (sz0 : Nat) : jS := fun av M sz P _ => match av with
  | [.inr (.inr (some o))] => ∃ (xs : List Int) (rm : Nat), sg M o xs rm ∧ sz0 ≤ o ∧ ∀ M' : jM, sg M' o [] rm → jfr o M M' → P none M' sz
  | _ => False
def k_Sig_clear : List (Nat × jI5) := [(0, .aload_n 0, 1, 0, 0), (1, .iconst (0), 2, 0, 0), (2, .putfield 21, 5, 0, 0), (5, .return_, 6, 0, 0)]
theorem k_Sig_clear_ok : k_Sig_clear.all (jok1 prog_5_method_4_code) = true := by decide +kernel
abbrev y_Sig_clear : MethodName := ⟨"Manydoors$Signs", "clear", "()V"⟩
theorem Y_Sig_clear : jYok y_Sig_clear prog_5_method_4_code 1 none 0 := ⟨(jg_in (List.mem_of_getElem? (i := 308) (by decide +kernel)) rfl), (jg_in (List.mem_of_getElem? (i := 41) (by decide +kernel)) rfl), by decide +kernel, by decide⟩
theorem jc_Sig : jcOk 4 (R_Sig, F_Sig, 2) t_Sig := ⟨rfl, List.forall_mem_cons.mpr ⟨(jg_in (List.mem_of_getElem? (i := 83) (by decide +kernel)) rfl), List.forall_mem_cons.mpr ⟨(jg_in (List.mem_of_getElem? (i := 85) (by decide +kernel)) rfl), fun _ h => absurd h List.not_mem_nil⟩⟩, t_Sig_ok, n_Sig, by decide +kernel⟩
def cp_Sig_clear (sz0 : Nat) : List (Nat × Nat × jTr) := [(1, 21, jputf sz0 4 1 (.int))]
theorem cp_Sig_clear_ok {l : Launch} (hnt : l.stackTraces = false) (sz0 : Nat) : ∀ q ∈ cp_Sig_clear sz0, jSnd sz0 l "Manydoors$Signs" "clear" 0 (jin q.1 q.2.1) (jlen (jin q.1 q.2.1)) q.2.2 := List.forall_mem_cons.mpr ⟨jputf_snd (idx := 21) jc_Sig (k := 1) (by decide) (jg_in (List.mem_of_getElem? (i := 82) (by decide +kernel)) rfl) rfl, fun _ h => absurd h List.not_mem_nil⟩
set_option maxRecDepth 20000 in
set_option maxHeartbeats 4000000 in
theorem c_Sig_clear {l : Launch} (hnt : l.stackTraces = false) (sz0 : Nat) : jCon sz0 l y_Sig_clear prog_5_method_4_code 1 none 0 0 0 (S_Sig_clear sz0) := by
  refine jmet (own := "Manydoors$Signs") (nm := "clear") k_Sig_clear (cp_Sig_clear sz0) [] 20 (by decide) rfl rfl hnt k_Sig_clear_ok (cp_Sig_clear_ok hnt sz0) (fun _ h => absurd h List.not_mem_nil) ?_
  intro av M sz P X h hz hfr
  unfold S_Sig_clear at h
  split at h
  · rename_i o
    obtain ⟨xs, rm, ⟨g, h1, h2, h3, h4⟩, ho, h⟩ := h
    refine ⟨rfl, [], ?_, fun pc a h => absurd h List.not_mem_nil⟩
    conv => whnf
    refine ⟨ho, _, h1, fun M1 e1 => ?_⟩
    conv => whnf
    refine ⟨rfl, h _ ⟨xs ++ g, ?_, ?_, by simp; omega, h4⟩ fun q q1 q2 => ?_⟩
    · rw [e1, jup_s]; rfl
    · rw [e1, jup_n (by omega), h2]; rfl
    · rw [e1, jup_n q1]
  · exact h.elim
def S_Sig_size (_ : Nat) : jS := fun av M sz P _ => match av with
  | [.inr (.inr (some o))] => ∃ (xs : List Int) (rm : Nat), sg M o xs rm ∧ P (some (vI xs.length)) M sz
  | _ => False
def k_Sig_size : List (Nat × jI5) := [(0, .aload_n 0, 1, 0, 0), (1, .getfield 21, 4, 0, 0), (4, .ireturn, 5, 0, 0)]
theorem k_Sig_size_ok : k_Sig_size.all (jok1 prog_5_method_2_code) = true := by decide +kernel
abbrev y_Sig_size : MethodName := ⟨"Manydoors$Signs", "size", "()I"⟩
theorem Y_Sig_size : jYok y_Sig_size prog_5_method_2_code 1 (some .int) 0 := ⟨(jg_in (List.mem_of_getElem? (i := 300) (by decide +kernel)) rfl), (jg_in (List.mem_of_getElem? (i := 41) (by decide +kernel)) rfl), by decide +kernel, by decide⟩
def cp_Sig_size (sz0 : Nat) : List (Nat × Nat × jTr) := [(0, 21, jget 4 1)]
theorem cp_Sig_size_ok {l : Launch} (hnt : l.stackTraces = false) (sz0 : Nat) : ∀ q ∈ cp_Sig_size sz0, jSnd sz0 l "Manydoors$Signs" "size" 0 (jin q.1 q.2.1) (jlen (jin q.1 q.2.1)) q.2.2 := List.forall_mem_cons.mpr ⟨jget_snd (idx := 21) jc_Sig (k := 1) (by decide) (jg_in (List.mem_of_getElem? (i := 82) (by decide +kernel)) rfl), fun _ h => absurd h List.not_mem_nil⟩
set_option maxRecDepth 20000 in
set_option maxHeartbeats 4000000 in
theorem c_Sig_size {l : Launch} (hnt : l.stackTraces = false) (sz0 : Nat) : jCon sz0 l y_Sig_size prog_5_method_2_code 1 (some .int) 0 0 0 (S_Sig_size sz0) := by
  refine jmet (own := "Manydoors$Signs") (nm := "size") k_Sig_size (cp_Sig_size sz0) [] 20 (by decide) rfl rfl hnt k_Sig_size_ok (cp_Sig_size_ok hnt sz0) (fun _ h => absurd h List.not_mem_nil) ?_
  intro av M sz P X h hz hfr
  unfold S_Sig_size at h
  split at h
  · rename_i o
    obtain ⟨xs, rm, ⟨g, h1, h2, h3, h4⟩, h⟩ := h
    refine ⟨rfl, [], ?_, fun pc a h => absurd h List.not_mem_nil⟩
    conv => whnf
    refine ⟨_, _, h1, rfl, ?_⟩
    conv => whnf
    exact ⟨trivial, h⟩
  · exact h.elim
/-- the sign at a place, or that it is none -/
def sgA (xs : List Int) (i : Int) : Int := if 0 ≤ i ∧ i < (xs.length : Int) then xs.getD i.toNat 0 else -9
def S_Sig_signOf (_ : Nat) : jS := fun av M sz P _ => match av with
  | [.inr (.inr (some o)), .inl i] => ∃ (xs : List Int) (rm : Nat), sg M o xs rm ∧ jr i ∧ P (some (vI (sgA xs i))) M sz
  | _ => False
def k_Sig_signOf : List (Nat × jI5) := [(0, .iload_n 1, 1, 0, 0), (1, .ifCond .lt (29), 4, 30, 0), (4, .iload_n 1, 5, 0, 0), (5, .aload_n 0, 6, 0, 0), (6, .getfield 21, 9, 0, 0), (9, .if_icmp .ge (21), 12, 30, 0), (12, .iload_n 1, 13, 0, 0), (13, .aload_n 0, 14, 0, 0), (14, .getfield 15, 17, 0, 0), (17, .arraylength, 18, 0, 0), (18, .if_icmp .ge (12), 21, 30, 0), (21, .aload_n 0, 22, 0, 0), (22, .getfield 15, 25, 0, 0), (25, .iload_n 1, 26, 0, 0), (26, .iaload, 27, 0, 0), (27, .goto (5), 30, 32, 0), (30, .bipush (-9), 32, 0, (-9)), (32, .ireturn, 33, 0, 0)]
theorem k_Sig_signOf_ok : k_Sig_signOf.all (jok1 prog_5_method_3_code) = true := by decide +kernel
abbrev y_Sig_signOf : MethodName := ⟨"Manydoors$Signs", "signOf", "(I)I"⟩
theorem Y_Sig_signOf : jYok y_Sig_signOf prog_5_method_3_code 2 (some .int) 1 := ⟨(jg_in (List.mem_of_getElem? (i := 334) (by decide +kernel)) rfl), (jg_in (List.mem_of_getElem? (i := 41) (by decide +kernel)) rfl), by decide +kernel, by decide⟩
def cp_Sig_signOf (sz0 : Nat) : List (Nat × Nat × jTr) := [(0, 15, jget 4 0), (0, 21, jget 4 1)]
theorem cp_Sig_signOf_ok {l : Launch} (hnt : l.stackTraces = false) (sz0 : Nat) : ∀ q ∈ cp_Sig_signOf sz0, jSnd sz0 l "Manydoors$Signs" "signOf" 0 (jin q.1 q.2.1) (jlen (jin q.1 q.2.1)) q.2.2 := List.forall_mem_cons.mpr ⟨jget_snd (idx := 15) jc_Sig (k := 0) (by decide) (jg_in (List.mem_of_getElem? (i := 81) (by decide +kernel)) rfl), List.forall_mem_cons.mpr ⟨jget_snd (idx := 21) jc_Sig (k := 1) (by decide) (jg_in (List.mem_of_getElem? (i := 82) (by decide +kernel)) rfl), fun _ h => absurd h List.not_mem_nil⟩⟩
set_option maxRecDepth 20000 in
set_option maxHeartbeats 4000000 in
theorem c_Sig_signOf {l : Launch} (hnt : l.stackTraces = false) (sz0 : Nat) : jCon sz0 l y_Sig_signOf prog_5_method_3_code 2 (some .int) 0 0 0 (S_Sig_signOf sz0) := by
  refine jmet (own := "Manydoors$Signs") (nm := "signOf") k_Sig_signOf (cp_Sig_signOf sz0) [] 40 (by decide) rfl rfl hnt k_Sig_signOf_ok (cp_Sig_signOf_ok hnt sz0) (fun _ h => absurd h List.not_mem_nil) ?_
  intro av M sz P X h hz hfr
  unfold S_Sig_signOf at h
  split at h
  · rename_i o i
    obtain ⟨xs, rm, ⟨g, h1, h2, h3, h4⟩, hi, h⟩ := h
    refine ⟨rfl, [], ?_, fun pc a h => absurd h List.not_mem_nil⟩
    conv => whnf
    refine ⟨hi, fun c1 => ?_, fun c1 => ?_⟩
    · conv => whnf
      rw [sgA, if_neg (by omega)] at h
      exact ⟨trivial, h⟩
    · conv => whnf
      refine ⟨_, _, h1, rfl, ?_⟩
      conv => whnf
      refine ⟨⟨hi, jrn (by omega)⟩, fun c2 => ?_, fun c2 => ?_⟩
      · conv => whnf
        rw [sgA, if_neg (by omega)] at h
        exact ⟨trivial, h⟩
      · conv => whnf
        refine ⟨_, _, h1, rfl, ?_⟩
        conv => whnf
        refine Or.inl ⟨_, _, h2, ?_⟩
        conv => whnf
        refine ⟨⟨hi, jrn (by rw [List.length_append]; omega)⟩, fun c3 => ?_, fun c3 => ?_⟩
        · rw [List.length_append] at c3; omega
        · conv => whnf
          refine ⟨_, _, h1, rfl, ?_⟩
          conv => whnf
          refine ⟨_, h2, ⟨c1, c3, by rw [List.length_append]; omega⟩, fun v hv hjr => ?_⟩
          conv => whnf
          rw [sgA, if_pos ⟨c1, c2⟩] at h
          rw [List.getElem?_append_left (by omega)] at hv
          rw [List.getD_eq_getElem?_getD, hv] at h
          exact ⟨trivial, h⟩
  · exact h.elim
def S_Sig_addSign (sz0 : Nat) : jS := fun av M sz P _ => match av with
  | [.inr (.inr (some o)), .inl v] => ∃ (xs : List Int) (rm : Nat), sg M o xs rm ∧ sz0 ≤ o ∧ jr v ∧ xs.length < rm ∧ ∀ M' : jM, sg M' o (xs ++ [v]) rm → jfr o M M' → P none M' sz
  | _ => False
def k_Sig_addSign : List (Nat × jI5) := [(0, .aload_n 0, 1, 0, 0), (1, .getfield 21, 4, 0, 0), (4, .aload_n 0, 5, 0, 0), (5, .getfield 15, 8, 0, 0), (8, .arraylength, 9, 0, 0), (9, .if_icmp .ge (23), 12, 32, 0), (12, .aload_n 0, 13, 0, 0), (13, .getfield 15, 16, 0, 0), (16, .aload_n 0, 17, 0, 0), (17, .getfield 21, 20, 0, 0), (20, .iload_n 1, 21, 0, 0), (21, .iastore, 22, 0, 0), (22, .aload_n 0, 23, 0, 0), (23, .dup, 24, 0, 0), (24, .getfield 21, 27, 0, 0), (27, .iconst (1), 28, 0, 1), (28, .iadd, 29, 0, 0), (29, .putfield 21, 32, 0, 0), (32, .return_, 33, 0, 0)]
theorem k_Sig_addSign_ok : k_Sig_addSign.all (jok1 prog_5_method_5_code) = true := by decide +kernel
abbrev y_Sig_addSign : MethodName := ⟨"Manydoors$Signs", "addSign", "(I)V"⟩
theorem Y_Sig_addSign : jYok y_Sig_addSign prog_5_method_5_code 2 none 1 := ⟨(jg_in (List.mem_of_getElem? (i := 370) (by decide +kernel)) rfl), (jg_in (List.mem_of_getElem? (i := 41) (by decide +kernel)) rfl), by decide +kernel, by decide⟩
def cp_Sig_addSign (sz0 : Nat) : List (Nat × Nat × jTr) := [(0, 15, jget 4 0), (0, 21, jget 4 1), (1, 21, jputf sz0 4 1 (.int)), (11, 0, jiast sz0)]
theorem cp_Sig_addSign_ok {l : Launch} (hnt : l.stackTraces = false) (sz0 : Nat) : ∀ q ∈ cp_Sig_addSign sz0, jSnd sz0 l "Manydoors$Signs" "addSign" 0 (jin q.1 q.2.1) (jlen (jin q.1 q.2.1)) q.2.2 := List.forall_mem_cons.mpr ⟨jget_snd (idx := 15) jc_Sig (k := 0) (by decide) (jg_in (List.mem_of_getElem? (i := 81) (by decide +kernel)) rfl), List.forall_mem_cons.mpr ⟨jget_snd (idx := 21) jc_Sig (k := 1) (by decide) (jg_in (List.mem_of_getElem? (i := 82) (by decide +kernel)) rfl), List.forall_mem_cons.mpr ⟨jputf_snd (idx := 21) jc_Sig (k := 1) (by decide) (jg_in (List.mem_of_getElem? (i := 82) (by decide +kernel)) rfl) rfl, List.forall_mem_cons.mpr ⟨jiast_snd, fun _ h => absurd h List.not_mem_nil⟩⟩⟩⟩
set_option maxRecDepth 20000 in
set_option maxHeartbeats 4000000 in
theorem c_Sig_addSign {l : Launch} (hnt : l.stackTraces = false) (sz0 : Nat) : jCon sz0 l y_Sig_addSign prog_5_method_5_code 2 none 0 0 0 (S_Sig_addSign sz0) := by
  refine jmet (own := "Manydoors$Signs") (nm := "addSign") k_Sig_addSign (cp_Sig_addSign sz0) [] 40 (by decide) rfl rfl hnt k_Sig_addSign_ok (cp_Sig_addSign_ok hnt sz0) (fun _ h => absurd h List.not_mem_nil) ?_
  intro av M sz P X h hz hfr
  unfold S_Sig_addSign at h
  split at h
  · rename_i o v
    obtain ⟨xs, rm, ⟨g, h1, h2, h3, h4⟩, ho, hv, hl, h⟩ := h
    have hla : (xs ++ g).length = rm := by rw [List.length_append]; exact h3
    refine ⟨rfl, [], ?_, fun pc a h => absurd h List.not_mem_nil⟩
    conv => whnf
    refine ⟨_, _, h1, rfl, ?_⟩
    conv => whnf
    refine ⟨_, _, h1, rfl, ?_⟩
    conv => whnf
    refine Or.inl ⟨_, _, h2, ?_⟩
    conv => whnf
    refine ⟨⟨jrn (by omega), jrn (by omega)⟩, fun c1 => by omega, fun c1 => ?_⟩
    conv => whnf
    refine ⟨_, _, h1, rfl, ?_⟩
    conv => whnf
    refine ⟨_, _, h1, rfl, ?_⟩
    conv => whnf
    refine ⟨_, h2, by omega, ⟨by omega, c1, by omega⟩, hv, fun M1 e1 => ?_⟩
    have h1' : M1 o = some (.inl (4, [vR (o + 1), vI xs.length])) := by rw [e1, jup_n (by omega)]; exact h1
    conv => whnf
    refine ⟨_, _, h1', rfl, ?_⟩
    conv => whnf
    refine ⟨ho, _, h1', fun M2 e2 => ?_⟩
    conv => whnf
    obtain ⟨y, g', rfl⟩ : ∃ y g', g = y :: g' := by
      cases g with
      | nil => simp at h3; omega
      | cons y g' => exact ⟨y, g', rfl⟩
    refine ⟨rfl, h _ ⟨g', ?_, ?_, by simp at h3 ⊢; omega, h4⟩ fun q q1 q2 => ?_⟩
    · rw [e2, jup_s]; simp
    · rw [e2, jup_n (by omega), e1, jup_s]; simp
    · rw [e2, jup_n q1, e1, jup_n q2]
  · exact h.elim

