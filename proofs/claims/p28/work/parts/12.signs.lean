/-! Signs: its methods, each by what it does to the list that it holds. -/
def sgn (xs : List Int) : Prop := ∀ x ∈ xs, 0 ≤ x ∧ x < 256
theorem sgn_nil : sgn [] := fun _ h => by cases h
theorem sgn_app {xs ys : List Int} (h1 : sgn xs) (h2 : sgn ys) : sgn (xs ++ ys) := fun x h => (List.mem_append.mp h).elim (h1 x) (h2 x)
theorem sgn_one {v : Int} (h : 0 ≤ v ∧ v < 256) : sgn [v] := fun x hx => by rw [List.mem_singleton.mp hx]; exact h
theorem sgn_rep {v : Int} {n : Nat} (h : 0 ≤ v ∧ v < 256) : sgn (List.replicate n v) := fun x hx => by rw [(List.mem_replicate.mp hx).2]; exact h
theorem sgn_drop {xs : List Int} {n : Nat} (h : sgn xs) : sgn (xs.drop n) := fun x hx => h x (List.mem_of_mem_drop hx)
theorem sgn_take {xs : List Int} {n : Nat} (h : sgn xs) : sgn (xs.take n) := fun x hx => h x (List.mem_of_mem_take hx)
/-- a Signs at o, its row behind it: the list xs, room for rm -/
def sg (M : jM) (o : Nat) (xs : List Int) (rm : Nat) : Prop := ∃ g : List Int, M o = some (.inl (4, [vR (o + 1), vI xs.length])) ∧ M (o + 1) = some (.inr (.inl (.int, xs ++ g))) ∧ xs.length + g.length = rm ∧ (1 ≤ rm ∧ rm ≤ 100000) ∧ sgn xs
/-- nothing but o and what lies behind it has changed -/
def jfr (o : Nat) (M M' : jM) : Prop := ∀ q : Nat, q ≠ o → q ≠ o + 1 → M' q = M q
def S_Sig_clear (sz0 : Nat) : jS := fun av M sz P _ => match av with
  | [.inr (.inr (some o))] => ∃ (xs : List Int) (rm : Nat), sg M o xs rm ∧ sz0 ≤ o ∧ ∀ M' : jM, sg M' o [] rm → jfr o M M' → P none M' sz
  | _ => False
def k_Sig_clear : List (Nat × jI5) := [(0, .aload_n 0, 1, 0, 0), (1, .iconst (0), 2, 0, 0), (2, .putfield 21, 5, 0, 0), (5, .return_, 6, 0, 0)]
theorem k_Sig_clear_ok : k_Sig_clear.all (jok1 prog_5_method_4_code) = true := by decide +kernel
abbrev y_Sig_clear : MethodName := ⟨"Manydoors$Signs", "clear", "()V"⟩
theorem Y_Sig_clear : jYok y_Sig_clear prog_5_method_4_code 1 none 0 := ⟨(jg_in (List.mem_of_getElem? (i := 308) (by decide +kernel)) rfl), (jg_in (List.mem_of_getElem? (i := 41) (by decide +kernel)) rfl), by decide +kernel, by decide⟩
theorem jc_Sig : jcOk 4 (R_Sig, F_Sig, 2) t_Sig := ⟨rfl, List.forall_mem_cons.mpr ⟨(jg_in (List.mem_of_getElem? (i := 83) (by decide +kernel)) rfl), List.forall_mem_cons.mpr ⟨(jg_in (List.mem_of_getElem? (i := 85) (by decide +kernel)) rfl), fun _ h => absurd h List.not_mem_nil⟩⟩, t_Sig_ok, n_Sig, by decide +kernel⟩
def cp_Sig_clear (sz0 : Nat) : List (Nat × Nat × jTr) := [(1, 21, jputf sz0 4 1 (.int))]
theorem cp_Sig_clear_ok {l : Launch} (hnt : l.stackTraces = false) (sz0 : Nat) : ∀ q ∈ cp_Sig_clear sz0, jSnd sz0 l "Manydoors$Signs" "clear" 0 (jin q.1 q.2.1) (jlen (jin q.1 q.2.1)) q.2.2 := List.forall_mem_cons.mpr ⟨jputf_snd (idx := 21) jc_Sig (k := 1) (by decide) (jg_in (List.mem_of_getElem? (i := 82) (by decide +kernel)) rfl) rfl, fun _ h => absurd h List.not_mem_nil⟩
set_option maxRecDepth 20000 in
set_option maxHeartbeats 4000000 in
theorem c_Sig_clear {l : Launch} (hnt : l.stackTraces = false) (sz0 : Nat) : jCon sz0 l y_Sig_clear prog_5_method_4_code 1 none 0 0 0 (S_Sig_clear sz0) := by
  refine jmet (own := "Manydoors$Signs") (nm := "clear") k_Sig_clear (cp_Sig_clear sz0) [] 20 (plainFor_of_name (by decide)) rfl rfl hnt k_Sig_clear_ok (cp_Sig_clear_ok hnt sz0) (fun _ h => absurd h List.not_mem_nil) ?_
  intro av M sz P X h hz hfr
  unfold S_Sig_clear at h
  split at h
  · rename_i o
    obtain ⟨xs, rm, ⟨g, h1, h2, h3, h4⟩, ho, h⟩ := h
    refine ⟨rfl, [], ?_, fun pc a h => absurd h List.not_mem_nil⟩
    conv => whnf
    refine ⟨ho, _, h1, fun M1 e1 => ?_⟩
    conv => whnf
    refine ⟨rfl, h _ ⟨xs ++ g, ?_, ?_, by simp; omega, h4.1, sgn_nil⟩ fun q q1 q2 => ?_⟩
    · rw [e1, jup_s]; rfl
    · rw [e1, jup_n (by omega), h2]; rfl
    · rw [e1, jup_n q1]
  · exact h.elim
def S_Sig_size (_ : Nat) : jS := fun av M sz P _ => match av with
  | [.inr (.inr (some o))] => ∃ (xs : List Int) (rm : Nat), sg M o xs rm ∧ P (some (vI xs.length)) M sz
  | _ => False
def k_Sig_size : List (Nat × jI5) := [(0, .aload_n 0, 1, 0, 0), (1, .getfield 21, 4, 0, 0), (4, .ireturn, 5, 0, 0)]
theorem k_Sig_size_ok : k_Sig_size.all (jok1 prog_5_method_2_code) = true := by decide +kernel
abbrev y_Sig_size : MethodName := ⟨"Manydoors$Signs", "size", "()I"⟩
theorem Y_Sig_size : jYok y_Sig_size prog_5_method_2_code 1 (some .int) 0 := ⟨(jg_in (List.mem_of_getElem? (i := 300) (by decide +kernel)) rfl), (jg_in (List.mem_of_getElem? (i := 41) (by decide +kernel)) rfl), by decide +kernel, by decide⟩
def cp_Sig_size (sz0 : Nat) : List (Nat × Nat × jTr) := [(0, 21, jget 4 1)]
theorem cp_Sig_size_ok {l : Launch} (hnt : l.stackTraces = false) (sz0 : Nat) : ∀ q ∈ cp_Sig_size sz0, jSnd sz0 l "Manydoors$Signs" "size" 0 (jin q.1 q.2.1) (jlen (jin q.1 q.2.1)) q.2.2 := List.forall_mem_cons.mpr ⟨jget_snd (idx := 21) jc_Sig (k := 1) (by decide) (jg_in (List.mem_of_getElem? (i := 82) (by decide +kernel)) rfl), fun _ h => absurd h List.not_mem_nil⟩
set_option maxRecDepth 20000 in
set_option maxHeartbeats 4000000 in
theorem c_Sig_size {l : Launch} (hnt : l.stackTraces = false) (sz0 : Nat) : jCon sz0 l y_Sig_size prog_5_method_2_code 1 (some .int) 0 0 0 (S_Sig_size sz0) := by
  refine jmet (own := "Manydoors$Signs") (nm := "size") k_Sig_size (cp_Sig_size sz0) [] 20 (plainFor_of_name (by decide)) rfl rfl hnt k_Sig_size_ok (cp_Sig_size_ok hnt sz0) (fun _ h => absurd h List.not_mem_nil) ?_
  intro av M sz P X h hz hfr
  unfold S_Sig_size at h
  split at h
  · rename_i o
    obtain ⟨xs, rm, ⟨g, h1, h2, h3, h4⟩, h⟩ := h
    refine ⟨rfl, [], ?_, fun pc a h => absurd h List.not_mem_nil⟩
    conv => whnf
    refine ⟨_, _, h1, rfl, ?_⟩
    conv => whnf
    exact ⟨trivial, h⟩
  · exact h.elim
/-- the sign at a place, or that it is none -/
def sgA (xs : List Int) (i : Int) : Int := if 0 ≤ i ∧ i < (xs.length : Int) then xs.getD i.toNat 0 else -9
def S_Sig_signOf (_ : Nat) : jS := fun av M sz P _ => match av with
  | [.inr (.inr (some o)), .inl i] => ∃ (xs : List Int) (rm : Nat), sg M o xs rm ∧ jr i ∧ P (some (vI (sgA xs i))) M sz
  | _ => False
def k_Sig_signOf : List (Nat × jI5) := [(0, .iload_n 1, 1, 0, 0), (1, .ifCond .lt (29), 4, 30, 0), (4, .iload_n 1, 5, 0, 0), (5, .aload_n 0, 6, 0, 0), (6, .getfield 21, 9, 0, 0), (9, .if_icmp .ge (21), 12, 30, 0), (12, .iload_n 1, 13, 0, 0), (13, .aload_n 0, 14, 0, 0), (14, .getfield 15, 17, 0, 0), (17, .arraylength, 18, 0, 0), (18, .if_icmp .ge (12), 21, 30, 0), (21, .aload_n 0, 22, 0, 0), (22, .getfield 15, 25, 0, 0), (25, .iload_n 1, 26, 0, 0), (26, .iaload, 27, 0, 0), (27, .goto (5), 30, 32, 0), (30, .bipush (-9), 32, 0, (-9)), (32, .ireturn, 33, 0, 0)]
theorem k_Sig_signOf_ok : k_Sig_signOf.all (jok1 prog_5_method_3_code) = true := by decide +kernel
abbrev y_Sig_signOf : MethodName := ⟨"Manydoors$Signs", "signOf", "(I)I"⟩
theorem Y_Sig_signOf : jYok y_Sig_signOf prog_5_method_3_code 2 (some .int) 1 := ⟨(jg_in (List.mem_of_getElem? (i := 334) (by decide +kernel)) rfl), (jg_in (List.mem_of_getElem? (i := 41) (by decide +kernel)) rfl), by decide +kernel, by decide⟩
def cp_Sig_signOf (sz0 : Nat) : List (Nat × Nat × jTr) := [(0, 15, jget 4 0), (0, 21, jget 4 1)]
theorem cp_Sig_signOf_ok {l : Launch} (hnt : l.stackTraces = false) (sz0 : Nat) : ∀ q ∈ cp_Sig_signOf sz0, jSnd sz0 l "Manydoors$Signs" "signOf" 0 (jin q.1 q.2.1) (jlen (jin q.1 q.2.1)) q.2.2 := List.forall_mem_cons.mpr ⟨jget_snd (idx := 15) jc_Sig (k := 0) (by decide) (jg_in (List.mem_of_getElem? (i := 81) (by decide +kernel)) rfl), List.forall_mem_cons.mpr ⟨jget_snd (idx := 21) jc_Sig (k := 1) (by decide) (jg_in (List.mem_of_getElem? (i := 82) (by decide +kernel)) rfl), fun _ h => absurd h List.not_mem_nil⟩⟩
set_option maxRecDepth 20000 in
set_option maxHeartbeats 4000000 in
theorem c_Sig_signOf {l : Launch} (hnt : l.stackTraces = false) (sz0 : Nat) : jCon sz0 l y_Sig_signOf prog_5_method_3_code 2 (some .int) 0 0 0 (S_Sig_signOf sz0) := by
  refine jmet (own := "Manydoors$Signs") (nm := "signOf") k_Sig_signOf (cp_Sig_signOf sz0) [] 40 (plainFor_of_name (by decide)) rfl rfl hnt k_Sig_signOf_ok (cp_Sig_signOf_ok hnt sz0) (fun _ h => absurd h List.not_mem_nil) ?_
  intro av M sz P X h hz hfr
  unfold S_Sig_signOf at h
  split at h
  · rename_i o i
    obtain ⟨xs, rm, ⟨g, h1, h2, h3, h4⟩, hi, h⟩ := h
    refine ⟨rfl, [], ?_, fun pc a h => absurd h List.not_mem_nil⟩
    conv => whnf
    refine ⟨hi, fun c1 => ?_, fun c1 => ?_⟩
    · conv => whnf
      rw [sgA, if_neg (by omega)] at h
      exact ⟨trivial, h⟩
    · conv => whnf
      refine ⟨_, _, h1, rfl, ?_⟩
      conv => whnf
      refine ⟨⟨hi, jrn (by omega)⟩, fun c2 => ?_, fun c2 => ?_⟩
      · conv => whnf
        rw [sgA, if_neg (by omega)] at h
        exact ⟨trivial, h⟩
      · conv => whnf
        refine ⟨_, _, h1, rfl, ?_⟩
        conv => whnf
        refine Or.inl ⟨_, _, h2, ?_⟩
        conv => whnf
        refine ⟨⟨hi, jrn (by rw [List.length_append]; omega)⟩, fun c3 => ?_, fun c3 => ?_⟩
        · rw [List.length_append] at c3; omega
        · conv => whnf
          refine ⟨_, _, h1, rfl, ?_⟩
          conv => whnf
          refine ⟨_, h2, ⟨c1, c3, by rw [List.length_append]; omega⟩, fun v hv hjr => ?_⟩
          conv => whnf
          rw [sgA, if_pos ⟨c1, c2⟩] at h
          rw [List.getElem?_append_left (by omega)] at hv
          rw [List.getD_eq_getElem?_getD, hv] at h
          exact ⟨trivial, h⟩
  · exact h.elim
def S_Sig_addSign (sz0 : Nat) : jS := fun av M sz P _ => match av with
  | [.inr (.inr (some o)), .inl v] => ∃ (xs : List Int) (rm : Nat), sg M o xs rm ∧ sz0 ≤ o ∧ (0 ≤ v ∧ v < 256) ∧ xs.length < rm ∧ ∀ M' : jM, sg M' o (xs ++ [v]) rm → jfr o M M' → P none M' sz
  | _ => False
def k_Sig_addSign : List (Nat × jI5) := [(0, .aload_n 0, 1, 0, 0), (1, .getfield 21, 4, 0, 0), (4, .aload_n 0, 5, 0, 0), (5, .getfield 15, 8, 0, 0), (8, .arraylength, 9, 0, 0), (9, .if_icmp .ge (23), 12, 32, 0), (12, .aload_n 0, 13, 0, 0), (13, .getfield 15, 16, 0, 0), (16, .aload_n 0, 17, 0, 0), (17, .getfield 21, 20, 0, 0), (20, .iload_n 1, 21, 0, 0), (21, .iastore, 22, 0, 0), (22, .aload_n 0, 23, 0, 0), (23, .dup, 24, 0, 0), (24, .getfield 21, 27, 0, 0), (27, .iconst (1), 28, 0, 1), (28, .iadd, 29, 0, 0), (29, .putfield 21, 32, 0, 0), (32, .return_, 33, 0, 0)]
theorem k_Sig_addSign_ok : k_Sig_addSign.all (jok1 prog_5_method_5_code) = true := by decide +kernel
abbrev y_Sig_addSign : MethodName := ⟨"Manydoors$Signs", "addSign", "(I)V"⟩
theorem Y_Sig_addSign : jYok y_Sig_addSign prog_5_method_5_code 2 none 1 := ⟨(jg_in (List.mem_of_getElem? (i := 370) (by decide +kernel)) rfl), (jg_in (List.mem_of_getElem? (i := 41) (by decide +kernel)) rfl), by decide +kernel, by decide⟩
def cp_Sig_addSign (sz0 : Nat) : List (Nat × Nat × jTr) := [(0, 15, jget 4 0), (0, 21, jget 4 1), (1, 21, jputf sz0 4 1 (.int)), (11, 0, jiast sz0)]
theorem cp_Sig_addSign_ok {l : Launch} (hnt : l.stackTraces = false) (sz0 : Nat) : ∀ q ∈ cp_Sig_addSign sz0, jSnd sz0 l "Manydoors$Signs" "addSign" 0 (jin q.1 q.2.1) (jlen (jin q.1 q.2.1)) q.2.2 := List.forall_mem_cons.mpr ⟨jget_snd (idx := 15) jc_Sig (k := 0) (by decide) (jg_in (List.mem_of_getElem? (i := 81) (by decide +kernel)) rfl), List.forall_mem_cons.mpr ⟨jget_snd (idx := 21) jc_Sig (k := 1) (by decide) (jg_in (List.mem_of_getElem? (i := 82) (by decide +kernel)) rfl), List.forall_mem_cons.mpr ⟨jputf_snd (idx := 21) jc_Sig (k := 1) (by decide) (jg_in (List.mem_of_getElem? (i := 82) (by decide +kernel)) rfl) rfl, List.forall_mem_cons.mpr ⟨jiast_snd, fun _ h => absurd h List.not_mem_nil⟩⟩⟩⟩
set_option maxRecDepth 20000 in
set_option maxHeartbeats 4000000 in
theorem c_Sig_addSign {l : Launch} (hnt : l.stackTraces = false) (sz0 : Nat) : jCon sz0 l y_Sig_addSign prog_5_method_5_code 2 none 0 0 0 (S_Sig_addSign sz0) := by
  refine jmet (own := "Manydoors$Signs") (nm := "addSign") k_Sig_addSign (cp_Sig_addSign sz0) [] 40 (plainFor_of_name (by decide)) rfl rfl hnt k_Sig_addSign_ok (cp_Sig_addSign_ok hnt sz0) (fun _ h => absurd h List.not_mem_nil) ?_
  intro av M sz P X h hz hfr
  unfold S_Sig_addSign at h
  split at h
  · rename_i o v
    obtain ⟨xs, rm, ⟨g, h1, h2, h3, h4⟩, ho, hv, hl, h⟩ := h
    have hla : (xs ++ g).length = rm := by rw [List.length_append]; exact h3
    refine ⟨rfl, [], ?_, fun pc a h => absurd h List.not_mem_nil⟩
    conv => whnf
    refine ⟨_, _, h1, rfl, ?_⟩
    conv => whnf
    refine ⟨_, _, h1, rfl, ?_⟩
    conv => whnf
    refine Or.inl ⟨_, _, h2, ?_⟩
    conv => whnf
    refine ⟨⟨jrn (by omega), jrn (by omega)⟩, fun c1 => by omega, fun c1 => ?_⟩
    conv => whnf
    refine ⟨_, _, h1, rfl, ?_⟩
    conv => whnf
    refine ⟨_, _, h1, rfl, ?_⟩
    conv => whnf
    refine ⟨_, h2, by omega, ⟨by omega, c1, by omega⟩, ⟨by omega, by omega⟩, fun M1 e1 => ?_⟩
    have h1' : M1 o = some (.inl (4, [vR (o + 1), vI xs.length])) := by rw [e1, jup_n (by omega)]; exact h1
    conv => whnf
    refine ⟨_, _, h1', rfl, ?_⟩
    conv => whnf
    refine ⟨ho, _, h1', fun M2 e2 => ?_⟩
    conv => whnf
    obtain ⟨y, g', rfl⟩ : ∃ y g', g = y :: g' := by
      cases g with
      | nil => simp at h3; omega
      | cons y g' => exact ⟨y, g', rfl⟩
    refine ⟨rfl, h _ ⟨g', ?_, ?_, by simp at h3 ⊢; omega, h4.1, sgn_app h4.2 (sgn_one hv)⟩ fun q q1 q2 => ?_⟩
    · rw [e2, jup_s]; simp
    · rw [e2, jup_n (by omega), e1, jup_s]; simp
    · rw [e2, jup_n q1, e1, jup_n q2]
  · exact h.elim
theorem jfr.rfl' {o : Nat} {M : jM} : jfr o M M := fun _ _ _ => rfl
theorem jfr.tr {o : Nat} {M M1 M2 : jM} (h1 : jfr o M M1) (h2 : jfr o M1 M2) : jfr o M M2 := fun q a b => (h2 q a b).trans (h1 q a b)
theorem sg.fr {o p : Nat} {M M1 : jM} {xs : List Int} {rm : Nat} (h : sg M p xs rm) (hf : jfr o M M1) (hd : p ≠ o ∧ p ≠ o + 1 ∧ p + 1 ≠ o) : sg M1 p xs rm := by
  obtain ⟨g, h1, h2, h3⟩ := h
  exact ⟨g, by rw [hf p (by omega) (by omega)]; exact h1, by rw [hf (p + 1) (by omega) (by omega)]; exact h2, h3⟩
theorem sg.len {M : jM} {o : Nat} {xs : List Int} {rm : Nat} (h : sg M o xs rm) : xs.length ≤ rm ∧ rm ≤ 100000 := by
  obtain ⟨g, h1, h2, h3, h4⟩ := h
  omega
theorem sg.sgn {M : jM} {o : Nat} {xs : List Int} {rm : Nat} (h : sg M o xs rm) : sgn xs := by
  obtain ⟨g, h1, h2, h3, h4, h5⟩ := h
  exact h5
theorem sgA_jr {xs : List Int} (h : sgn xs) (i : Int) : jr (sgA xs i) := by
  unfold sgA
  split
  · rename_i c
    have h1 : i.toNat < xs.length := by omega
    have h2 := h _ (List.getElem_mem h1)
    rw [List.getD_eq_getElem?_getD, List.getElem?_eq_getElem h1]
    exact ⟨by simp; omega, by simp; omega⟩
  · exact ⟨by omega, by omega⟩
theorem sgA_in {xs : List Int} {i : Nat} (h : i < xs.length) : sgA xs (i : Int) = xs[i] := by
  unfold sgA
  rw [if_pos ⟨by omega, by omega⟩]
  simp [List.getD_eq_getElem?_getD, h]
theorem sg.cls {M : jM} {o : Nat} {xs : List Int} {rm : Nat} (h : sg M o xs rm) : ∃ fs, M o = some (.inl (4, fs)) := by
  obtain ⟨g, h1, h2, h3, h4⟩ := h
  exact ⟨_, h1⟩
theorem sg.uniq {M : jM} {o : Nat} {xs ys : List Int} {rm rn : Nat} (h : sg M o xs rm) (h' : sg M o ys rn) : xs = ys ∧ rm = rn := by
  obtain ⟨g, h1, h2, h3, h4⟩ := h
  obtain ⟨g', h1', h2', h3', h4'⟩ := h'
  have e1 := h1.symm.trans h1'
  have e2 := h2.symm.trans h2'
  simp only [Option.some.injEq, Sum.inl.injEq, Sum.inr.injEq, Prod.mk.injEq, List.cons.injEq, true_and, and_true] at e1 e2
  have e3 : xs.length = ys.length := by omega
  have e4 := List.append_inj e2 e3
  exact ⟨e4.1, by rw [← h3, ← h3', e4.1, e4.2]⟩
def S_Sig_init (sz0 : Nat) : jS := fun av M sz P _ => match av with
  | [.inr (.inr (some o)), .inl n] => M o = some (.inl (4, [vN, vI 0])) ∧ sz = o + 1 ∧ sz0 ≤ o ∧ (1 ≤ n ∧ n ≤ 360) ∧ ∀ M' : jM, sg M' o [] n.toNat → jfr o M M' → P none M' (sz + 1)
  | _ => False
def k_Sig_init : List (Nat × jI5) := [(0, .aload_n 0, 1, 0, 0), (1, .invokespecial 3, 4, 0, 0), (4, .aload_n 0, 5, 0, 0), (5, .iload_n 1, 6, 0, 0), (6, .iconst (0), 7, 0, 0), (7, .invokestatic 9, 10, 0, 0), (10, .newarray .int, 12, 0, 0), (12, .putfield 15, 15, 0, 0), (15, .return_, 16, 0, 0)]
theorem k_Sig_init_ok : k_Sig_init.all (jok1 prog_5_method_1_code) = true := by decide +kernel
abbrev y_Sig_init : MethodName := ⟨"Manydoors$Signs", "<init>", "(I)V"⟩
theorem Y_Sig_init : jYok y_Sig_init prog_5_method_1_code 2 none 1 := ⟨(jg_in (List.mem_of_getElem? (i := 76) (by decide +kernel)) rfl), (jg_in (List.mem_of_getElem? (i := 41) (by decide +kernel)) rfl), by decide +kernel, by decide⟩
def cp_Sig_init (sz0 : Nat) : List (Nat × Nat × jTr) := [(1, 15, jputf sz0 4 0 (.array .int)), (4, 9, jcall 2 0 0 (S_Mat_max sz0)), (5, 3, jobj), (10, 10, jnewa .int)]
theorem cp_Sig_init_ok {l : Launch} (hnt : l.stackTraces = false) (sz0 : Nat) : ∀ q ∈ cp_Sig_init sz0, jSnd sz0 l "Manydoors$Signs" "<init>" 1 (jin q.1 q.2.1) (jlen (jin q.1 q.2.1)) q.2.2 := List.forall_mem_cons.mpr ⟨jputF_snd (idx := 15) jc_Sig (k := 0) (by decide) (jg_in (List.mem_of_getElem? (i := 81) (by decide +kernel)) rfl) rfl rfl, List.forall_mem_cons.mpr ⟨jcall_snd (idx := 9) (c_Mat_max hnt sz0) Y_Mat_max (jg_in (List.mem_of_getElem? (i := 79) (by decide +kernel)) rfl) (by omega) (jg_in (List.mem_of_getElem? (i := 78) (by decide +kernel)) rfl), List.forall_mem_cons.mpr ⟨jobj_snd (idx := 3) (jg_in (List.mem_of_getElem? (i := 77) (by decide +kernel)) rfl) (jg_in (List.mem_of_getElem? (i := 63) (by decide +kernel)) rfl) (jg_in (List.mem_of_getElem? (i := 64) (by decide +kernel)) rfl) (by omega), List.forall_mem_cons.mpr ⟨jnewa_snd rfl (Or.inl rfl) (jg_in (List.mem_of_getElem? (i := 88) (by decide +kernel)) rfl), fun _ h => absurd h List.not_mem_nil⟩⟩⟩⟩
set_option maxRecDepth 20000 in
set_option maxHeartbeats 4000000 in
theorem c_Sig_init {l : Launch} (hnt : l.stackTraces = false) (sz0 : Nat) : jCon sz0 l y_Sig_init prog_5_method_1_code 2 none 1 1 360 (S_Sig_init sz0) := by
  refine jmet (own := "Manydoors$Signs") (nm := "<init>") k_Sig_init (cp_Sig_init sz0) [] 20 (plainFor_of_name (by decide)) rfl rfl hnt k_Sig_init_ok (cp_Sig_init_ok hnt sz0) (fun _ h => absurd h List.not_mem_nil) ?_
  intro av M sz P X h hz hfr
  unfold S_Sig_init at h
  split at h
  · rename_i o n
    obtain ⟨h1, rfl, ho, hn, h⟩ := h
    refine ⟨rfl, [], ?_, fun pc a h => absurd h List.not_mem_nil⟩
    conv => whnf
    refine ⟨Nat.zero_le _, Nat.zero_le _, ⟨by omega, by omega⟩, ⟨by omega, by omega⟩, ?_⟩
    rw [if_pos (by omega)]
    conv => whnf
    refine ⟨by omega, by omega, by omega, by omega, fun M1 e0 e1 => ?_⟩
    have h1' : M1 o = some (.inl (4, [vN, vI 0])) := by rw [e1, jup_n (by omega)]; exact h1
    conv => whnf
    refine ⟨ho, _, h1', fun M2 e2 => ?_⟩
    conv => whnf
    refine ⟨rfl, h _ ⟨List.replicate n.toNat 0, ?_, ?_, by simp, by omega, sgn_nil⟩ fun q q1 q2 => ?_⟩
    · rw [e2, jup_s]; rfl
    · rw [e2, jup_n (by omega), e1, jup_s]; rfl
    · rw [e2, jup_n q1, e1, jup_n q2]
  · exact h.elim
def S_Sig_addMany (sz0 : Nat) : jS := fun av M sz P _ => match av with
  | [.inr (.inr (some o)), .inl v, .inl n] => ∃ (xs : List Int) (rm : Nat), sg M o xs rm ∧ sz0 ≤ o ∧ (0 ≤ v ∧ v < 256) ∧ jr n ∧ xs.length + n.toNat ≤ rm ∧ ∀ M' : jM, sg M' o (xs ++ List.replicate n.toNat v) rm → jfr o M M' → P none M' sz
  | _ => False
def k_Sig_addMany : List (Nat × jI5) := [(0, .iconst (0), 1, 0, 0), (1, .istore_n 3, 2, 0, 0), (2, .iload_n 3, 3, 0, 0), (3, .iload_n 2, 4, 0, 0), (4, .if_icmp .ge (14), 7, 18, 0), (7, .aload_n 0, 8, 0, 0), (8, .iload_n 1, 9, 0, 0), (9, .invokevirtual 25, 12, 0, 0), (12, .iinc 3 (1), 15, 0, 1), (15, .goto (-13), 18, 2, 0), (18, .return_, 19, 0, 0)]
theorem k_Sig_addMany_ok : k_Sig_addMany.all (jok1 prog_5_method_6_code) = true := by decide +kernel
abbrev y_Sig_addMany : MethodName := ⟨"Manydoors$Signs", "addMany", "(II)V"⟩
theorem Y_Sig_addMany : jYok y_Sig_addMany prog_5_method_6_code 4 none 2 := ⟨(jg_in (List.mem_of_getElem? (i := 384) (by decide +kernel)) rfl), (jg_in (List.mem_of_getElem? (i := 41) (by decide +kernel)) rfl), by decide +kernel, by decide⟩
def cp_Sig_addMany (sz0 : Nat) : List (Nat × Nat × jTr) := [(3, 25, jcalv 2 0 0 4 (S_Sig_addSign sz0))]
theorem cp_Sig_addMany_ok {l : Launch} (hnt : l.stackTraces = false) (sz0 : Nat) : ∀ q ∈ cp_Sig_addMany sz0, jSnd sz0 l "Manydoors$Signs" "addMany" 1 (jin q.1 q.2.1) (jlen (jin q.1 q.2.1)) q.2.2 := List.forall_mem_cons.mpr ⟨jcalv_snd (idx := 25) (r := (R_Sig, F_Sig, 2)) (c_Sig_addSign hnt sz0) Y_Sig_addSign rfl rfl (jg_in (List.mem_of_getElem? (i := 368) (by decide +kernel)) rfl) (jg_in (List.mem_of_getElem? (i := 369) (by decide +kernel)) rfl) (by omega) (jg_in (List.mem_of_getElem? (i := 385) (by decide +kernel)) rfl), fun _ h => absurd h List.not_mem_nil⟩
set_option maxRecDepth 20000 in
set_option maxHeartbeats 4000000 in
theorem c_Sig_addMany {l : Launch} (hnt : l.stackTraces = false) (sz0 : Nat) : jCon sz0 l y_Sig_addMany prog_5_method_6_code 4 none 1 0 0 (S_Sig_addMany sz0) := by
  refine jmet (own := "Manydoors$Signs") (nm := "addMany") k_Sig_addMany (cp_Sig_addMany sz0) [] 20 (plainFor_of_name (by decide)) rfl rfl hnt k_Sig_addMany_ok (cp_Sig_addMany_ok hnt sz0) (fun _ h => absurd h List.not_mem_nil) ?_
  intro av M sz P X h hz hfr
  unfold S_Sig_addMany at h
  split at h
  · rename_i o v n
    obtain ⟨xs, rm, hg, ho, hv, hn, hl, h⟩ := h
    have hg0 := hg.len
    refine ⟨rfl, [(2, fun k lv st M1 sz1 kc ks => ∃ i : Nat, (i ≤ n.toNat ∧ k = n.toNat - i ∧ lv = [(0, vR o), (1, vI v), (2, vI n), (3, vI (i : Int))] ∧ st = [] ∧ sz1 = sz) ∧ sg M1 o (xs ++ List.replicate i v) rm ∧ jfr o M M1)], ?_, fun pc a hpa => ?_⟩
    · conv => whnf
      exact ⟨_, 0, ⟨Nat.zero_le _, rfl, rfl, rfl, rfl⟩, by simpa using hg, jfr.rfl'⟩
    · cases List.mem_singleton.mp hpa
      rintro k lv st M1 sz1 kc ks ⟨i, ⟨hi, rfl, rfl, rfl, rfl⟩, h1, h2⟩
      conv => whnf
      refine ⟨⟨jrn (by omega), hn⟩, fun c1 => ?_, fun c1 => ?_⟩
      · conv => whnf
        refine ⟨rfl, h M1 ?_ h2⟩
        rw [show n.toNat = i by omega]; exact h1
      · conv => whnf
        refine ⟨h1.cls, Nat.zero_le _, Nat.zero_le _, _, _, h1, ho, hv, by simp; omega, fun M2 g1 g2 => ?_⟩
        conv => whnf
        refine ⟨_, by omega, i + 1, ⟨by omega, rfl, rfl, rfl, rfl⟩, ?_, h2.tr g2⟩
        rw [List.append_assoc] at g1
        rw [List.replicate_succ']
        exact g1
  · exact h.elim
/-- a part of a list, by places -/
def prt (ys : List Int) (a b : Int) : List Int := (ys.take b.toNat).drop a.toNat
theorem prt_len {ys : List Int} {a b : Int} (h : 0 ≤ a) : (prt ys a b).length = (if b ≤ (ys.length : Int) then b else ys.length).toNat - a.toNat := by
  simp only [prt, List.length_drop, List.length_take]
  split <;> omega
def S_Sig_addPart (sz0 : Nat) : jS := fun av M sz P _ => match av with
  | [.inr (.inr (some o)), .inr (.inr (some p)), .inl a, .inl b] => ∃ (xs ys : List Int) (rm rn : Nat), sg M o xs rm ∧ sg M p ys rn ∧ sz0 ≤ o ∧ (0 ≤ a ∧ jr a ∧ 0 ≤ b ∧ jr b) ∧ xs.length + (prt ys a b).length ≤ rm ∧ ∀ M' : jM, sg M' o (xs ++ prt ys a b) rm → jfr o M M' → P none M' sz
  | _ => False
theorem jcpy_end {xs g ys g2 : List Int} {a : Nat} {n : Nat} (h1 : a + n ≤ ys.length) (h2 : n ≤ g.length) : jcpy (ys ++ g2) (xs ++ g) a xs.length n = (xs ++ (ys.drop a).take n) ++ g.drop n := by
  simp only [jcpy]
  rw [List.take_append_of_le_length (Nat.le_refl _), List.take_length, List.drop_append_of_le_length (by omega), List.take_append_of_le_length (by rw [List.length_drop]; omega), List.append_assoc]
  congr 2
  rw [List.drop_append, List.drop_eq_nil_of_le (by omega)]
  simp
def k_Sig_addPart : List (Nat × jI5) := [(0, .iload_n 3, 1, 0, 0), (1, .aload_n 1, 2, 0, 0), (2, .getfield 21, 5, 0, 0), (5, .invokestatic 29, 8, 0, 0), (8, .iload_n 2, 9, 0, 0), (9, .isub, 10, 0, 0), (10, .istore 4, 12, 0, 0), (12, .iload_n 2, 13, 0, 0), (13, .ifCond .lt (23), 16, 36, 0), (16, .iload 4, 18, 0, 0), (18, .ifCond .le (18), 21, 36, 0), (21, .iload 4, 23, 0, 0), (23, .aload_n 0, 24, 0, 0), (24, .getfield 15, 27, 0, 0), (27, .arraylength, 28, 0, 0), (28, .aload_n 0, 29, 0, 0), (29, .getfield 21, 32, 0, 0), (32, .isub, 33, 0, 0), (33, .if_icmp .le (4), 36, 37, 0), (36, .return_, 37, 0, 0), (37, .aload_n 1, 38, 0, 0), (38, .getfield 15, 41, 0, 0), (41, .iload_n 2, 42, 0, 0), (42, .aload_n 0, 43, 0, 0), (43, .getfield 15, 46, 0, 0), (46, .aload_n 0, 47, 0, 0), (47, .getfield 21, 50, 0, 0), (50, .iload 4, 52, 0, 0), (52, .invokestatic 32, 55, 0, 0), (55, .aload_n 0, 56, 0, 0), (56, .dup, 57, 0, 0), (57, .getfield 21, 60, 0, 0), (60, .iload 4, 62, 0, 0), (62, .iadd, 63, 0, 0), (63, .putfield 21, 66, 0, 0), (66, .return_, 67, 0, 0)]
theorem k_Sig_addPart_ok : k_Sig_addPart.all (jok1 prog_5_method_7_code) = true := by decide +kernel
abbrev y_Sig_addPart : MethodName := ⟨"Manydoors$Signs", "addPart", "(LManydoors$Signs;II)V"⟩
theorem Y_Sig_addPart : jYok y_Sig_addPart prog_5_method_7_code 5 none 3 := ⟨(jg_in (List.mem_of_getElem? (i := 316) (by decide +kernel)) rfl), (jg_in (List.mem_of_getElem? (i := 41) (by decide +kernel)) rfl), by decide +kernel, by decide⟩
def cp_Sig_addPart (sz0 : Nat) : List (Nat × Nat × jTr) := [(0, 15, jget 4 0), (0, 21, jget 4 1), (1, 21, jputf sz0 4 1 (.int)), (4, 29, jcall 2 0 0 (S_Mat_min sz0)), (4, 32, jcopy sz0)]
theorem cp_Sig_addPart_ok {l : Launch} (hnt : l.stackTraces = false) (sz0 : Nat) : ∀ q ∈ cp_Sig_addPart sz0, jSnd sz0 l "Manydoors$Signs" "addPart" 1 (jin q.1 q.2.1) (jlen (jin q.1 q.2.1)) q.2.2 := List.forall_mem_cons.mpr ⟨jget_snd (idx := 15) jc_Sig (k := 0) (by decide) (jg_in (List.mem_of_getElem? (i := 81) (by decide +kernel)) rfl), List.forall_mem_cons.mpr ⟨jget_snd (idx := 21) jc_Sig (k := 1) (by decide) (jg_in (List.mem_of_getElem? (i := 82) (by decide +kernel)) rfl), List.forall_mem_cons.mpr ⟨jputf_snd (idx := 21) jc_Sig (k := 1) (by decide) (jg_in (List.mem_of_getElem? (i := 82) (by decide +kernel)) rfl) rfl, List.forall_mem_cons.mpr ⟨jcall_snd (idx := 29) (c_Mat_min hnt sz0) Y_Mat_min (jg_in (List.mem_of_getElem? (i := 318) (by decide +kernel)) rfl) (by omega) (jg_in (List.mem_of_getElem? (i := 317) (by decide +kernel)) rfl), List.forall_mem_cons.mpr ⟨jcopy_snd (idx := 32) (jg_in (List.mem_of_getElem? (i := 320) (by decide +kernel)) rfl) (jg_in (List.mem_of_getElem? (i := 322) (by decide +kernel)) rfl) (jg_in (List.mem_of_getElem? (i := 321) (by decide +kernel)) rfl) (jg_in (List.mem_of_getElem? (i := 53) (by decide +kernel)) rfl) (by omega), fun _ h => absurd h List.not_mem_nil⟩⟩⟩⟩⟩
set_option maxRecDepth 20000 in
set_option maxHeartbeats 4000000 in
theorem c_Sig_addPart {l : Launch} (hnt : l.stackTraces = false) (sz0 : Nat) : jCon sz0 l y_Sig_addPart prog_5_method_7_code 5 none 1 0 0 (S_Sig_addPart sz0) := by
  refine jmet (own := "Manydoors$Signs") (nm := "addPart") k_Sig_addPart (cp_Sig_addPart sz0) [] 60 (plainFor_of_name (by decide)) rfl rfl hnt k_Sig_addPart_ok (cp_Sig_addPart_ok hnt sz0) (fun _ h => absurd h List.not_mem_nil) ?_
  intro av M sz P X h hz hfr
  unfold S_Sig_addPart at h
  split at h
  · rename_i o p a b
    obtain ⟨xs, ys, rm, rn, hg, hg2, ho, ⟨ha, hja, hb0, hjb⟩, hl, h⟩ := h
    have hg0 := hg.len
    have hg20 := hg2.len
    have hpl := prt_len (ys := ys) (b := b) ha
    obtain ⟨g, h1, h2, h3, h4⟩ := hg
    obtain ⟨g2, k1, k2, k3, k4⟩ := hg2
    have hs := hja.2
    have hsa := hja.1
    have hsb := hjb.1
    refine ⟨rfl, [], ?_, fun pc a h => absurd h List.not_mem_nil⟩
    conv => whnf
    refine ⟨_, _, k1, rfl, ?_⟩
    conv => whnf
    refine ⟨Nat.zero_le _, Nat.zero_le _, hjb, jrn (by omega), ?_⟩
    generalize hm : (if b ≤ (ys.length : Int) then b else (ys.length : Int)) = bm at hpl ⊢
    have hbm : bm ≤ (ys.length : Int) ∧ 0 ≤ bm := by split at hm <;> omega
    by_cases c : bm - a ≤ 0
    · have e0 : prt ys a b = [] := by
        apply List.eq_nil_of_length_eq_zero
        omega
      rw [e0, List.append_nil] at h
      conv => whnf
      refine ⟨hja, fun c1 => by omega, fun c1 => ?_⟩
      conv => whnf
      refine ⟨⟨by omega, by omega⟩, fun c2 => ?_, fun c2 => by omega⟩
      conv => whnf
      exact ⟨rfl, h M ⟨g, h1, h2, h3, h4⟩ jfr.rfl'⟩
    · conv => whnf
      refine ⟨hja, fun c1 => by omega, fun c1 => ?_⟩
      conv => whnf
      refine ⟨⟨by omega, by omega⟩, fun c2 => by omega, fun c2 => ?_⟩
      conv => whnf
      refine ⟨_, _, h1, rfl, ?_⟩
      refine Or.inl ⟨_, _, h2, ?_⟩
      conv => whnf
      refine ⟨_, _, h1, rfl, ?_⟩
      conv => whnf
      have hla : (xs ++ g).length = rm := by rw [List.length_append]; exact h3
      have hlb : (ys ++ g2).length = rn := by rw [List.length_append]; exact k3
      refine ⟨⟨⟨by omega, by omega⟩, ⟨by omega, by omega⟩⟩, fun c3 => ?_, fun c3 => by omega⟩
      conv => whnf
      refine ⟨_, _, k1, rfl, ?_⟩
      refine ⟨_, _, h1, rfl, ?_⟩
      conv => whnf
      refine ⟨_, _, h1, rfl, ?_⟩
      conv => whnf
      refine ⟨_, _, k2, h2, by omega, ⟨by omega, by omega, by omega, by omega, by omega, by omega, by omega, by omega, by omega⟩, fun M1 e1 => ?_⟩
      have h1' : M1 o = some (.inl (4, [vR (o + 1), vI xs.length])) := by rw [e1, jup_n (by omega)]; exact h1
      conv => whnf
      refine ⟨_, _, h1', rfl, ?_⟩
      conv => whnf
      refine ⟨ho, _, h1', fun M2 e2 => ?_⟩
      conv => whnf
      have e5 : (prt ys a b).length = (bm - a).toNat := by omega
      have e6 : (ys.drop a.toNat).take (bm - a).toNat = prt ys a b := by
        have e7 : prt ys a b = (ys.take bm.toNat).drop a.toNat := by
          unfold prt
          split at hm
          · rw [hm]
          · rw [List.take_of_length_le (by omega), List.take_of_length_le (by omega)]
        rw [e7, List.drop_take]
        congr 1
        omega
      refine ⟨rfl, h M2 ⟨g.drop (bm - a).toNat, ?_, ?_, by rw [List.length_append, List.length_drop]; omega, h4.1, sgn_app h4.2 (sgn_drop (sgn_take k4.2))⟩ fun q q1 q2 => ?_⟩
      · rw [e2, jup_s, List.length_append, e5]
        simp
        omega
      · rw [e2, jup_n (by omega), e1, jup_s]
        rw [show ((xs.length : Nat) : Int).toNat = xs.length from rfl, jcpy_end (by omega) (by omega), e6]
      · rw [e2, jup_n q1, e1, jup_n q2]
  · exact h.elim

