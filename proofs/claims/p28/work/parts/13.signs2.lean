/-! Signs: what changes and compares it. -/
def S_Sig_addAll (sz0 : Nat) : jS := fun av M sz P _ => match av with
  | [.inr (.inr (some o)), .inr (.inr (some p))] => ∃ (xs ys : List Int) (rm rn : Nat), sg M o xs rm ∧ sg M p ys rn ∧ sz0 ≤ o ∧ xs.length + ys.length ≤ rm ∧ ∀ M' : jM, sg M' o (xs ++ ys) rm → jfr o M M' → P none M' sz
  | _ => False
theorem prt_all {ys : List Int} : prt ys 0 (ys.length : Int) = ys := by
  simp [prt]
def k_Sig_addAll : List (Nat × jI5) := [(0, .aload_n 0, 1, 0, 0), (1, .aload_n 1, 2, 0, 0), (2, .iconst (0), 3, 0, 0), (3, .aload_n 1, 4, 0, 0), (4, .getfield 21, 7, 0, 0), (7, .invokevirtual 38, 10, 0, 0), (10, .return_, 11, 0, 0)]
theorem k_Sig_addAll_ok : k_Sig_addAll.all (jok1 prog_5_method_8_code) = true := by decide +kernel
abbrev y_Sig_addAll : MethodName := ⟨"Manydoors$Signs", "addAll", "(LManydoors$Signs;)V"⟩
theorem Y_Sig_addAll : jYok y_Sig_addAll prog_5_method_8_code 2 none 1 := ⟨(jg_in (List.mem_of_getElem? (i := 312) (by decide +kernel)) rfl), (jg_in (List.mem_of_getElem? (i := 41) (by decide +kernel)) rfl), by decide +kernel, by decide⟩
def cp_Sig_addAll (sz0 : Nat) : List (Nat × Nat × jTr) := [(0, 21, jget 4 1), (3, 38, jcalv 4 0 0 4 (S_Sig_addPart sz0))]
theorem cp_Sig_addAll_ok {l : Launch} (hnt : l.stackTraces = false) (sz0 : Nat) : ∀ q ∈ cp_Sig_addAll sz0, jSnd sz0 l "Manydoors$Signs" "addAll" 2 (jin q.1 q.2.1) (jlen (jin q.1 q.2.1)) q.2.2 := List.forall_mem_cons.mpr ⟨jget_snd (idx := 21) jc_Sig (k := 1) (by decide) (jg_in (List.mem_of_getElem? (i := 82) (by decide +kernel)) rfl), List.forall_mem_cons.mpr ⟨jcalv_snd (idx := 38) (r := (R_Sig, F_Sig, 2)) (c_Sig_addPart hnt sz0) Y_Sig_addPart rfl rfl (jg_in (List.mem_of_getElem? (i := 314) (by decide +kernel)) rfl) (jg_in (List.mem_of_getElem? (i := 315) (by decide +kernel)) rfl) (by omega) (jg_in (List.mem_of_getElem? (i := 313) (by decide +kernel)) rfl), fun _ h => absurd h List.not_mem_nil⟩⟩
set_option maxRecDepth 20000 in
set_option maxHeartbeats 4000000 in
theorem c_Sig_addAll {l : Launch} (hnt : l.stackTraces = false) (sz0 : Nat) : jCon sz0 l y_Sig_addAll prog_5_method_8_code 2 none 2 0 0 (S_Sig_addAll sz0) := by
  refine jmet (own := "Manydoors$Signs") (nm := "addAll") k_Sig_addAll (cp_Sig_addAll sz0) [] 20 (plainFor_of_name (by decide)) rfl rfl hnt k_Sig_addAll_ok (cp_Sig_addAll_ok hnt sz0) (fun _ h => absurd h List.not_mem_nil) ?_
  intro av M sz P X h hz hfr
  unfold S_Sig_addAll at h
  split at h
  · rename_i o p
    obtain ⟨xs, ys, rm, rn, hg, hg2, ho, hl, h⟩ := h
    have hg20 := hg2.len
    obtain ⟨g2, k1, k2⟩ := id hg2
    refine ⟨rfl, [], ?_, fun pc a h => absurd h List.not_mem_nil⟩
    conv => whnf
    refine ⟨_, _, k1, rfl, ?_⟩
    conv => whnf
    refine ⟨hg.cls, Nat.zero_le _, Nat.zero_le _, xs, ys, rm, rn, hg, hg2, ho, ⟨by omega, jr0, by omega, jrn (by omega)⟩, by rw [prt_all]; exact hl, fun M1 g1 e1 => ?_⟩
    rw [prt_all] at g1
    conv => whnf
    exact ⟨rfl, h M1 g1 e1⟩
  · exact h.elim
def S_Sig_becomeLike (sz0 : Nat) : jS := fun av M sz P _ => match av with
  | [.inr (.inr (some o)), .inr (.inr (some p))] => ∃ (xs ys : List Int) (rm rn : Nat), sg M o xs rm ∧ sg M p ys rn ∧ sz0 ≤ o ∧ (p ≠ o ∧ p ≠ o + 1 ∧ p + 1 ≠ o) ∧ ys.length ≤ rm ∧ ∀ M' : jM, sg M' o ys rm → jfr o M M' → P none M' sz
  | _ => False
def k_Sig_becomeLike : List (Nat × jI5) := [(0, .aload_n 0, 1, 0, 0), (1, .invokevirtual 42, 4, 0, 0), (4, .aload_n 0, 5, 0, 0), (5, .aload_n 1, 6, 0, 0), (6, .invokevirtual 45, 9, 0, 0), (9, .return_, 10, 0, 0)]
theorem k_Sig_becomeLike_ok : k_Sig_becomeLike.all (jok1 prog_5_method_9_code) = true := by decide +kernel
abbrev y_Sig_becomeLike : MethodName := ⟨"Manydoors$Signs", "becomeLike", "(LManydoors$Signs;)V"⟩
theorem Y_Sig_becomeLike : jYok y_Sig_becomeLike prog_5_method_9_code 2 none 1 := ⟨(jg_in (List.mem_of_getElem? (i := 304) (by decide +kernel)) rfl), (jg_in (List.mem_of_getElem? (i := 41) (by decide +kernel)) rfl), by decide +kernel, by decide⟩
def cp_Sig_becomeLike (sz0 : Nat) : List (Nat × Nat × jTr) := [(3, 42, jcalv 1 0 0 4 (S_Sig_clear sz0)), (3, 45, jcalv 2 0 0 4 (S_Sig_addAll sz0))]
theorem cp_Sig_becomeLike_ok {l : Launch} (hnt : l.stackTraces = false) (sz0 : Nat) : ∀ q ∈ cp_Sig_becomeLike sz0, jSnd sz0 l "Manydoors$Signs" "becomeLike" 3 (jin q.1 q.2.1) (jlen (jin q.1 q.2.1)) q.2.2 := List.forall_mem_cons.mpr ⟨jcalv_snd (idx := 42) (r := (R_Sig, F_Sig, 2)) (c_Sig_clear hnt sz0) Y_Sig_clear rfl rfl (jg_in (List.mem_of_getElem? (i := 306) (by decide +kernel)) rfl) (jg_in (List.mem_of_getElem? (i := 307) (by decide +kernel)) rfl) (by omega) (jg_in (List.mem_of_getElem? (i := 305) (by decide +kernel)) rfl), List.forall_mem_cons.mpr ⟨jcalv_snd (idx := 45) (r := (R_Sig, F_Sig, 2)) (c_Sig_addAll hnt sz0) Y_Sig_addAll rfl rfl (jg_in (List.mem_of_getElem? (i := 310) (by decide +kernel)) rfl) (jg_in (List.mem_of_getElem? (i := 311) (by decide +kernel)) rfl) (by omega) (jg_in (List.mem_of_getElem? (i := 309) (by decide +kernel)) rfl), fun _ h => absurd h List.not_mem_nil⟩⟩
set_option maxRecDepth 20000 in
set_option maxHeartbeats 4000000 in
theorem c_Sig_becomeLike {l : Launch} (hnt : l.stackTraces = false) (sz0 : Nat) : jCon sz0 l y_Sig_becomeLike prog_5_method_9_code 2 none 3 0 0 (S_Sig_becomeLike sz0) := by
  refine jmet (own := "Manydoors$Signs") (nm := "becomeLike") k_Sig_becomeLike (cp_Sig_becomeLike sz0) [] 20 (plainFor_of_name (by decide)) rfl rfl hnt k_Sig_becomeLike_ok (cp_Sig_becomeLike_ok hnt sz0) (fun _ h => absurd h List.not_mem_nil) ?_
  intro av M sz P X h hz hfr
  unfold S_Sig_becomeLike at h
  split at h
  · rename_i o p
    obtain ⟨xs, ys, rm, rn, hg, hg2, ho, hd, hl, h⟩ := h
    refine ⟨rfl, [], ?_, fun pc a h => absurd h List.not_mem_nil⟩
    conv => whnf
    refine ⟨hg.cls, Nat.zero_le _, Nat.zero_le _, xs, rm, hg, ho, fun M1 g1 e1 => ?_⟩
    conv => whnf
    refine ⟨g1.cls, Nat.zero_le _, Nat.zero_le _, [], ys, rm, rn, g1, hg2.fr e1 hd, ho, by simpa using hl, fun M2 g2 e2 => ?_⟩
    conv => whnf
    exact ⟨rfl, h M2 g2 (e1.tr e2)⟩
  · exact h.elim
def S_Sig_shorten (sz0 : Nat) : jS := fun av M sz P _ => match av with
  | [.inr (.inr (some o)), .inl n] => ∃ (xs : List Int) (rm : Nat), sg M o xs rm ∧ sz0 ≤ o ∧ (0 ≤ n ∧ jr n) ∧ ∀ M' : jM, sg M' o (xs.take n.toNat) rm → jfr o M M' → P none M' sz
  | _ => False
def k_Sig_shorten : List (Nat × jI5) := [(0, .iload_n 1, 1, 0, 0), (1, .ifCond .lt (16), 4, 17, 0), (4, .iload_n 1, 5, 0, 0), (5, .aload_n 0, 6, 0, 0), (6, .getfield 21, 9, 0, 0), (9, .if_icmp .ge (8), 12, 17, 0), (12, .aload_n 0, 13, 0, 0), (13, .iload_n 1, 14, 0, 0), (14, .putfield 21, 17, 0, 0), (17, .return_, 18, 0, 0)]
theorem k_Sig_shorten_ok : k_Sig_shorten.all (jok1 prog_5_method_12_code) = true := by decide +kernel
abbrev y_Sig_shorten : MethodName := ⟨"Manydoors$Signs", "shorten", "(I)V"⟩
theorem Y_Sig_shorten : jYok y_Sig_shorten prog_5_method_12_code 2 none 1 := ⟨(jg_in (List.mem_of_getElem? (i := 628) (by decide +kernel)) rfl), (jg_in (List.mem_of_getElem? (i := 41) (by decide +kernel)) rfl), by decide +kernel, by decide⟩
def cp_Sig_shorten (sz0 : Nat) : List (Nat × Nat × jTr) := [(0, 21, jget 4 1), (1, 21, jputf sz0 4 1 (.int))]
theorem cp_Sig_shorten_ok {l : Launch} (hnt : l.stackTraces = false) (sz0 : Nat) : ∀ q ∈ cp_Sig_shorten sz0, jSnd sz0 l "Manydoors$Signs" "shorten" 0 (jin q.1 q.2.1) (jlen (jin q.1 q.2.1)) q.2.2 := List.forall_mem_cons.mpr ⟨jget_snd (idx := 21) jc_Sig (k := 1) (by decide) (jg_in (List.mem_of_getElem? (i := 82) (by decide +kernel)) rfl), List.forall_mem_cons.mpr ⟨jputf_snd (idx := 21) jc_Sig (k := 1) (by decide) (jg_in (List.mem_of_getElem? (i := 82) (by decide +kernel)) rfl) rfl, fun _ h => absurd h List.not_mem_nil⟩⟩
set_option maxRecDepth 20000 in
set_option maxHeartbeats 4000000 in
theorem c_Sig_shorten {l : Launch} (hnt : l.stackTraces = false) (sz0 : Nat) : jCon sz0 l y_Sig_shorten prog_5_method_12_code 2 none 0 0 0 (S_Sig_shorten sz0) := by
  refine jmet (own := "Manydoors$Signs") (nm := "shorten") k_Sig_shorten (cp_Sig_shorten sz0) [] 20 (plainFor_of_name (by decide)) rfl rfl hnt k_Sig_shorten_ok (cp_Sig_shorten_ok hnt sz0) (fun _ h => absurd h List.not_mem_nil) ?_
  intro av M sz P X h hz hfr
  unfold S_Sig_shorten at h
  split at h
  · rename_i o n
    obtain ⟨xs, rm, hg, ho, ⟨hn, hjn⟩, h⟩ := h
    have hg0 := hg.len
    obtain ⟨g, h1, h2, h3, h4⟩ := id hg
    refine ⟨rfl, [], ?_, fun pc a h => absurd h List.not_mem_nil⟩
    conv => whnf
    refine ⟨hjn, fun c1 => by omega, fun c1 => ?_⟩
    conv => whnf
    refine ⟨_, _, h1, rfl, ?_⟩
    conv => whnf
    refine ⟨⟨hjn, jrn (by omega)⟩, fun c2 => ?_, fun c2 => ?_⟩
    · conv => whnf
      refine ⟨rfl, h M ?_ jfr.rfl'⟩
      rw [List.take_of_length_le (by omega)]
      exact hg
    · conv => whnf
      refine ⟨ho, _, h1, fun M1 e1 => ?_⟩
      conv => whnf
      refine ⟨rfl, h M1 ⟨xs.drop n.toNat ++ g, ?_, ?_, ?_, h4.1, sgn_take h4.2⟩ fun q q1 q2 => ?_⟩
      · rw [e1, jup_s, List.length_take]
        simp
        omega
      · rw [e1, jup_n (by omega), h2, ← List.append_assoc, List.take_append_drop]
      · rw [List.length_append, List.length_take, List.length_drop]; omega
      · rw [e1, jup_n q1]
  · exact h.elim
def S_Sig_replaceSign (sz0 : Nat) : jS := fun av M sz P _ => match av with
  | [.inr (.inr (some o)), .inl i, .inl v] => ∃ (xs : List Int) (rm : Nat), sg M o xs rm ∧ sz0 ≤ o ∧ (0 ≤ i ∧ i < (xs.length : Int)) ∧ (0 ≤ v ∧ v < 256) ∧ ∀ M' : jM, sg M' o (xs.set i.toNat v) rm → jfr o M M' → P (some (vI (if xs.getD i.toNat 0 = v then 0 else 1))) M' sz
  | _ => False
theorem sgn_set {xs : List Int} {i : Nat} {v : Int} (h : sgn xs) (hv : 0 ≤ v ∧ v < 256) : sgn (xs.set i v) := fun x hx => by
  rcases List.mem_or_eq_of_mem_set hx with g | g
  · exact h x g
  · rw [g]; exact hv
def k_Sig_replaceSign : List (Nat × jI5) := [(0, .iload_n 1, 1, 0, 0), (1, .ifCond .lt (20), 4, 21, 0), (4, .iload_n 1, 5, 0, 0), (5, .aload_n 0, 6, 0, 0), (6, .getfield 21, 9, 0, 0), (9, .if_icmp .ge (12), 12, 21, 0), (12, .iload_n 1, 13, 0, 0), (13, .aload_n 0, 14, 0, 0), (14, .getfield 15, 17, 0, 0), (17, .arraylength, 18, 0, 0), (18, .if_icmp .lt (5), 21, 23, 0), (21, .iconst (0), 22, 0, 0), (22, .ireturn, 23, 0, 0), (23, .aload_n 0, 24, 0, 0), (24, .getfield 15, 27, 0, 0), (27, .iload_n 1, 28, 0, 0), (28, .iaload, 29, 0, 0), (29, .iload_n 2, 30, 0, 0), (30, .if_icmp .eq (7), 33, 37, 0), (33, .iconst (1), 34, 0, 1), (34, .goto (4), 37, 38, 0), (37, .iconst (0), 38, 0, 0), (38, .istore_n 3, 39, 0, 0), (39, .aload_n 0, 40, 0, 0), (40, .getfield 15, 43, 0, 0), (43, .iload_n 1, 44, 0, 0), (44, .iload_n 2, 45, 0, 0), (45, .iastore, 46, 0, 0), (46, .iload_n 3, 47, 0, 0), (47, .ireturn, 48, 0, 0)]
theorem k_Sig_replaceSign_ok : k_Sig_replaceSign.all (jok1 prog_5_method_13_code) = true := by decide +kernel
abbrev y_Sig_replaceSign : MethodName := ⟨"Manydoors$Signs", "replaceSign", "(II)Z"⟩
theorem Y_Sig_replaceSign : jYok y_Sig_replaceSign prog_5_method_13_code 4 (some .boolean) 2 := ⟨(jg_in (List.mem_of_getElem? (i := 606) (by decide +kernel)) rfl), (jg_in (List.mem_of_getElem? (i := 41) (by decide +kernel)) rfl), by decide +kernel, by decide⟩
def cp_Sig_replaceSign (sz0 : Nat) : List (Nat × Nat × jTr) := [(0, 15, jget 4 0), (0, 21, jget 4 1), (11, 0, jiast sz0)]
theorem cp_Sig_replaceSign_ok {l : Launch} (hnt : l.stackTraces = false) (sz0 : Nat) : ∀ q ∈ cp_Sig_replaceSign sz0, jSnd sz0 l "Manydoors$Signs" "replaceSign" 0 (jin q.1 q.2.1) (jlen (jin q.1 q.2.1)) q.2.2 := List.forall_mem_cons.mpr ⟨jget_snd (idx := 15) jc_Sig (k := 0) (by decide) (jg_in (List.mem_of_getElem? (i := 81) (by decide +kernel)) rfl), List.forall_mem_cons.mpr ⟨jget_snd (idx := 21) jc_Sig (k := 1) (by decide) (jg_in (List.mem_of_getElem? (i := 82) (by decide +kernel)) rfl), List.forall_mem_cons.mpr ⟨jiast_snd, fun _ h => absurd h List.not_mem_nil⟩⟩⟩
set_option maxRecDepth 20000 in
set_option maxHeartbeats 4000000 in
theorem c_Sig_replaceSign {l : Launch} (hnt : l.stackTraces = false) (sz0 : Nat) : jCon sz0 l y_Sig_replaceSign prog_5_method_13_code 4 (some .boolean) 0 0 0 (S_Sig_replaceSign sz0) := by
  refine jmet (own := "Manydoors$Signs") (nm := "replaceSign") k_Sig_replaceSign (cp_Sig_replaceSign sz0) [] 40 (plainFor_of_name (by decide)) rfl rfl hnt k_Sig_replaceSign_ok (cp_Sig_replaceSign_ok hnt sz0) (fun _ h => absurd h List.not_mem_nil) ?_
  intro av M sz P X h hz hfr
  unfold S_Sig_replaceSign at h
  split at h
  · rename_i o i v
    obtain ⟨xs, rm, hg, ho, ⟨hi, hi2⟩, hv, h⟩ := h
    have hg0 := hg.len
    obtain ⟨g, h1, h2, h3, h4⟩ := id hg
    have hla : (xs ++ g).length = rm := by rw [List.length_append]; exact h3
    have hji : jr i := ⟨by omega, by omega⟩
    refine ⟨rfl, [], ?_, fun pc a h => absurd h List.not_mem_nil⟩
    conv => whnf
    refine ⟨hji, fun c1 => by omega, fun c1 => ?_⟩
    conv => whnf
    refine ⟨_, _, h1, rfl, ?_⟩
    conv => whnf
    refine ⟨⟨hji, jrn (by omega)⟩, fun c2 => by omega, fun c2 => ?_⟩
    conv => whnf
    refine ⟨_, _, h1, rfl, ?_⟩
    refine Or.inl ⟨_, _, h2, ?_⟩
    conv => whnf
    refine ⟨⟨hji, jrn (by omega)⟩, fun c3 => ?_, fun c3 => by omega⟩
    conv => whnf
    refine ⟨_, _, h1, rfl, ?_⟩
    conv => whnf
    refine ⟨_, h2, ⟨hi, by omega, by omega⟩, fun z hz hjz => ?_⟩
    rw [List.getElem?_append_left (by omega)] at hz
    have e0 : xs.getD i.toNat 0 = z := by rw [List.getD_eq_getElem?_getD, hz]; rfl
    rw [e0] at h
    conv => whnf
    refine ⟨⟨hjz, ⟨by omega, by omega⟩⟩, fun c4 => ?_, fun c4 => ?_⟩
    · conv => whnf
      refine ⟨_, _, h1, rfl, ?_⟩
      conv => whnf
      refine ⟨_, h2, by omega, ⟨hi, by omega, by omega⟩, ⟨by omega, by omega⟩, fun M1 e1 => ?_⟩
      conv => whnf
      rw [if_pos c4] at h
      refine ⟨Or.inl rfl, h M1 ⟨g, ?_, ?_, ?_, h4.1, sgn_set h4.2 hv⟩ fun q q1 q2 => ?_⟩
      · rw [e1, jup_n (by omega), h1, List.length_set]
      · rw [e1, jup_s, List.set_append_left _ _ (by omega)]
      · rw [List.length_set]; exact h3
      · rw [e1, jup_n q2]
    · conv => whnf
      refine ⟨_, _, h1, rfl, ?_⟩
      conv => whnf
      refine ⟨_, h2, by omega, ⟨hi, by omega, by omega⟩, ⟨by omega, by omega⟩, fun M1 e1 => ?_⟩
      conv => whnf
      rw [if_neg c4] at h
      refine ⟨Or.inr rfl, h M1 ⟨g, ?_, ?_, ?_, h4.1, sgn_set h4.2 hv⟩ fun q q1 q2 => ?_⟩
      · rw [e1, jup_n (by omega), h1, List.length_set]
      · rw [e1, jup_s, List.set_append_left _ _ (by omega)]
      · rw [List.length_set]; exact h3
      · rw [e1, jup_n q2]
  · exact h.elim
def rmv (xs : List Int) (a b : Nat) : List Int := xs.take a ++ xs.drop b
def S_Sig_removePart (sz0 : Nat) : jS := fun av M sz P _ => match av with
  | [.inr (.inr (some o)), .inl a, .inl b] => ∃ (xs : List Int) (rm : Nat), sg M o xs rm ∧ sz0 ≤ o ∧ (0 ≤ a ∧ jr a ∧ 0 ≤ b ∧ jr b ∧ a ≤ b ∧ a ≤ (xs.length : Int)) ∧ ∀ M' : jM, sg M' o (rmv xs a.toNat b.toNat) rm → jfr o M M' → P none M' sz
  | _ => False
def k_Sig_removePart : List (Nat × jI5) := [(0, .iload_n 2, 1, 0, 0), (1, .aload_n 0, 2, 0, 0), (2, .getfield 21, 5, 0, 0), (5, .invokestatic 29, 8, 0, 0), (8, .istore_n 3, 9, 0, 0), (9, .iload_n 1, 10, 0, 0), (10, .ifCond .lt (8), 13, 18, 0), (13, .iload_n 1, 14, 0, 0), (14, .iload_n 3, 15, 0, 0), (15, .if_icmp .lt (4), 18, 19, 0), (18, .return_, 19, 0, 0), (19, .aload_n 0, 20, 0, 0), (20, .getfield 15, 23, 0, 0), (23, .iload_n 3, 24, 0, 0), (24, .aload_n 0, 25, 0, 0), (25, .getfield 15, 28, 0, 0), (28, .iload_n 1, 29, 0, 0), (29, .aload_n 0, 30, 0, 0), (30, .getfield 21, 33, 0, 0), (33, .iload_n 3, 34, 0, 0), (34, .isub, 35, 0, 0), (35, .invokestatic 32, 38, 0, 0), (38, .aload_n 0, 39, 0, 0), (39, .dup, 40, 0, 0), (40, .getfield 21, 43, 0, 0), (43, .iload_n 3, 44, 0, 0), (44, .iload_n 1, 45, 0, 0), (45, .isub, 46, 0, 0), (46, .isub, 47, 0, 0), (47, .putfield 21, 50, 0, 0), (50, .return_, 51, 0, 0)]
theorem k_Sig_removePart_ok : k_Sig_removePart.all (jok1 prog_5_method_11_code) = true := by decide +kernel
abbrev y_Sig_removePart : MethodName := ⟨"Manydoors$Signs", "removePart", "(II)V"⟩
theorem Y_Sig_removePart : jYok y_Sig_removePart prog_5_method_11_code 4 none 2 := ⟨(jg_in (List.mem_of_getElem? (i := 588) (by decide +kernel)) rfl), (jg_in (List.mem_of_getElem? (i := 41) (by decide +kernel)) rfl), by decide +kernel, by decide⟩
def cp_Sig_removePart (sz0 : Nat) : List (Nat × Nat × jTr) := [(0, 15, jget 4 0), (0, 21, jget 4 1), (1, 21, jputf sz0 4 1 (.int)), (4, 29, jcall 2 0 0 (S_Mat_min sz0)), (4, 32, jcopy sz0)]
theorem cp_Sig_removePart_ok {l : Launch} (hnt : l.stackTraces = false) (sz0 : Nat) : ∀ q ∈ cp_Sig_removePart sz0, jSnd sz0 l "Manydoors$Signs" "removePart" 1 (jin q.1 q.2.1) (jlen (jin q.1 q.2.1)) q.2.2 := List.forall_mem_cons.mpr ⟨jget_snd (idx := 15) jc_Sig (k := 0) (by decide) (jg_in (List.mem_of_getElem? (i := 81) (by decide +kernel)) rfl), List.forall_mem_cons.mpr ⟨jget_snd (idx := 21) jc_Sig (k := 1) (by decide) (jg_in (List.mem_of_getElem? (i := 82) (by decide +kernel)) rfl), List.forall_mem_cons.mpr ⟨jputf_snd (idx := 21) jc_Sig (k := 1) (by decide) (jg_in (List.mem_of_getElem? (i := 82) (by decide +kernel)) rfl) rfl, List.forall_mem_cons.mpr ⟨jcall_snd (idx := 29) (c_Mat_min hnt sz0) Y_Mat_min (jg_in (List.mem_of_getElem? (i := 318) (by decide +kernel)) rfl) (by omega) (jg_in (List.mem_of_getElem? (i := 317) (by decide +kernel)) rfl), List.forall_mem_cons.mpr ⟨jcopy_snd (idx := 32) (jg_in (List.mem_of_getElem? (i := 320) (by decide +kernel)) rfl) (jg_in (List.mem_of_getElem? (i := 322) (by decide +kernel)) rfl) (jg_in (List.mem_of_getElem? (i := 321) (by decide +kernel)) rfl) (jg_in (List.mem_of_getElem? (i := 53) (by decide +kernel)) rfl) (by omega), fun _ h => absurd h List.not_mem_nil⟩⟩⟩⟩⟩
set_option maxRecDepth 20000 in
set_option maxHeartbeats 4000000 in
theorem c_Sig_removePart {l : Launch} (hnt : l.stackTraces = false) (sz0 : Nat) : jCon sz0 l y_Sig_removePart prog_5_method_11_code 4 none 1 0 0 (S_Sig_removePart sz0) := by
  refine jmet (own := "Manydoors$Signs") (nm := "removePart") k_Sig_removePart (cp_Sig_removePart sz0) [] 40 (plainFor_of_name (by decide)) rfl rfl hnt k_Sig_removePart_ok (cp_Sig_removePart_ok hnt sz0) (fun _ h => absurd h List.not_mem_nil) ?_
  intro av M sz P X h hz hfr
  unfold S_Sig_removePart at h
  split at h
  · rename_i o a b
    obtain ⟨xs, rm, hg, ho, ⟨ha, hja, hb, hjb, hab, hal⟩, h⟩ := h
    have hg0 := hg.len
    obtain ⟨g, h1, h2, h3, h4⟩ := id hg
    have hla : (xs ++ g).length = rm := by rw [List.length_append]; exact h3
    have hs := hja.2
    have hs2 := hjb.2
    refine ⟨rfl, [], ?_, fun pc a h => absurd h List.not_mem_nil⟩
    conv => whnf
    refine ⟨_, _, h1, rfl, ?_⟩
    conv => whnf
    refine ⟨Nat.zero_le _, Nat.zero_le _, hjb, jrn (by omega), ?_⟩
    generalize hm : (if b ≤ (xs.length : Int) then b else (xs.length : Int)) = bm
    have hbm : bm ≤ (xs.length : Int) ∧ a ≤ bm ∧ 0 ≤ bm := by split at hm <;> omega
    have e0 : rmv xs a.toNat b.toNat = xs.take a.toNat ++ xs.drop bm.toNat := by
      unfold rmv
      split at hm
      · rw [hm]
      · rw [List.drop_eq_nil_of_le (by omega), List.drop_eq_nil_of_le (by omega)]
    rw [e0] at h
    conv => whnf
    refine ⟨hja, fun c1 => by omega, fun c1 => ?_⟩
    conv => whnf
    refine ⟨⟨hja, ⟨by omega, by omega⟩⟩, fun c2 => ?_, fun c2 => ?_⟩
    · conv => whnf
      refine ⟨_, _, h1, rfl, ?_⟩
      refine ⟨_, _, h1, rfl, ?_⟩
      conv => whnf
      refine ⟨_, _, h1, rfl, ?_⟩
      conv => whnf
      refine ⟨_, _, h2, h2, by omega, ⟨by omega, by omega, by omega, by omega, by omega, by omega, by omega, by omega, by omega⟩, fun M1 e1 => ?_⟩
      have h1' : M1 o = some (.inl (4, [vR (o + 1), vI xs.length])) := by rw [e1, jup_n (by omega)]; exact h1
      conv => whnf
      refine ⟨_, _, h1', rfl, ?_⟩
      conv => whnf
      refine ⟨ho, _, h1', fun M2 e2 => ?_⟩
      conv => whnf
      have e3 : (xs.take a.toNat ++ xs.drop bm.toNat).length = xs.length - (bm.toNat - a.toNat) := by rw [List.length_append, List.length_take, List.length_drop]; omega
      refine ⟨rfl, h M2 ⟨(xs ++ g).drop (xs.length - (bm.toNat - a.toNat)), ?_, ?_, ?_, h4.1, sgn_app (sgn_take h4.2) (sgn_drop h4.2)⟩ fun q q1 q2 => ?_⟩
      · rw [e2, jup_s, e3]
        simp
        omega
      · rw [e2, jup_n (by omega), e1, jup_s]
        congr 4
        unfold jcpy
        have y1 : (xs ++ g).take a.toNat = xs.take a.toNat := List.take_append_of_le_length (by omega)
        have y2 : ((xs ++ g).drop bm.toNat).take ((xs.length : Int) - bm).toNat = xs.drop bm.toNat := by
          rw [List.drop_append_of_le_length (by omega), List.take_append_of_le_length (by rw [List.length_drop]; omega), List.take_of_length_le (by rw [List.length_drop]; omega)]
        have y3 : a.toNat + ((xs.length : Int) - bm).toNat = xs.length - (bm.toNat - a.toNat) := by omega
        rw [y1, y2, y3, List.append_assoc]
      · rw [e3, List.length_drop]; omega
      · rw [e2, jup_n q1, e1, jup_n q2]
    · conv => whnf
      refine ⟨rfl, h M ?_ jfr.rfl'⟩
      rw [show bm.toNat = a.toNat by omega, List.take_append_drop]
      exact hg
  · exact h.elim
def ins (xs ys : List Int) (p : Nat) : List Int := xs.take p ++ (ys ++ xs.drop p)
def S_Sig_insertAll (sz0 : Nat) : jS := fun av M sz P _ => match av with
  | [.inr (.inr (some o)), .inl a, .inr (.inr (some p))] => ∃ (xs ys : List Int) (rm rn : Nat), sg M o xs rm ∧ sg M p ys rn ∧ sz0 ≤ o ∧ (p ≠ o ∧ p ≠ o + 1 ∧ p + 1 ≠ o) ∧ (0 ≤ a ∧ a ≤ (xs.length : Int)) ∧ xs.length + ys.length ≤ rm ∧ ∀ M' : jM, sg M' o (ins xs ys a.toNat) rm → jfr o M M' → P none M' sz
  | _ => False
def k_Sig_insertAll : List (Nat × jI5) := [(0, .aload_n 2, 1, 0, 0), (1, .getfield 21, 4, 0, 0), (4, .istore_n 3, 5, 0, 0), (5, .iload_n 1, 6, 0, 0), (6, .ifCond .lt (25), 9, 31, 0), (9, .iload_n 1, 10, 0, 0), (10, .aload_n 0, 11, 0, 0), (11, .getfield 21, 14, 0, 0), (14, .if_icmp .gt (17), 17, 31, 0), (17, .iload_n 3, 18, 0, 0), (18, .aload_n 0, 19, 0, 0), (19, .getfield 15, 22, 0, 0), (22, .arraylength, 23, 0, 0), (23, .aload_n 0, 24, 0, 0), (24, .getfield 21, 27, 0, 0), (27, .isub, 28, 0, 0), (28, .if_icmp .le (4), 31, 32, 0), (31, .return_, 32, 0, 0), (32, .aload_n 0, 33, 0, 0), (33, .getfield 15, 36, 0, 0), (36, .iload_n 1, 37, 0, 0), (37, .aload_n 0, 38, 0, 0), (38, .getfield 15, 41, 0, 0), (41, .iload_n 1, 42, 0, 0), (42, .iload_n 3, 43, 0, 0), (43, .iadd, 44, 0, 0), (44, .aload_n 0, 45, 0, 0), (45, .getfield 21, 48, 0, 0), (48, .iload_n 1, 49, 0, 0), (49, .isub, 50, 0, 0), (50, .invokestatic 32, 53, 0, 0), (53, .aload_n 2, 54, 0, 0), (54, .getfield 15, 57, 0, 0), (57, .iconst (0), 58, 0, 0), (58, .aload_n 0, 59, 0, 0), (59, .getfield 15, 62, 0, 0), (62, .iload_n 1, 63, 0, 0), (63, .iload_n 3, 64, 0, 0), (64, .invokestatic 32, 67, 0, 0), (67, .aload_n 0, 68, 0, 0), (68, .dup, 69, 0, 0), (69, .getfield 21, 72, 0, 0), (72, .iload_n 3, 73, 0, 0), (73, .iadd, 74, 0, 0), (74, .putfield 21, 77, 0, 0), (77, .return_, 78, 0, 0)]
theorem k_Sig_insertAll_ok : k_Sig_insertAll.all (jok1 prog_5_method_10_code) = true := by decide +kernel
abbrev y_Sig_insertAll : MethodName := ⟨"Manydoors$Signs", "insertAll", "(ILManydoors$Signs;)V"⟩
theorem Y_Sig_insertAll : jYok y_Sig_insertAll prog_5_method_10_code 4 none 2 := ⟨(jg_in (List.mem_of_getElem? (i := 563) (by decide +kernel)) rfl), (jg_in (List.mem_of_getElem? (i := 41) (by decide +kernel)) rfl), by decide +kernel, by decide⟩
def cp_Sig_insertAll (sz0 : Nat) : List (Nat × Nat × jTr) := [(0, 15, jget 4 0), (0, 21, jget 4 1), (1, 21, jputf sz0 4 1 (.int)), (4, 32, jcopy sz0)]
theorem cp_Sig_insertAll_ok {l : Launch} (hnt : l.stackTraces = false) (sz0 : Nat) : ∀ q ∈ cp_Sig_insertAll sz0, jSnd sz0 l "Manydoors$Signs" "insertAll" 1 (jin q.1 q.2.1) (jlen (jin q.1 q.2.1)) q.2.2 := List.forall_mem_cons.mpr ⟨jget_snd (idx := 15) jc_Sig (k := 0) (by decide) (jg_in (List.mem_of_getElem? (i := 81) (by decide +kernel)) rfl), List.forall_mem_cons.mpr ⟨jget_snd (idx := 21) jc_Sig (k := 1) (by decide) (jg_in (List.mem_of_getElem? (i := 82) (by decide +kernel)) rfl), List.forall_mem_cons.mpr ⟨jputf_snd (idx := 21) jc_Sig (k := 1) (by decide) (jg_in (List.mem_of_getElem? (i := 82) (by decide +kernel)) rfl) rfl, List.forall_mem_cons.mpr ⟨jcopy_snd (idx := 32) (jg_in (List.mem_of_getElem? (i := 320) (by decide +kernel)) rfl) (jg_in (List.mem_of_getElem? (i := 322) (by decide +kernel)) rfl) (jg_in (List.mem_of_getElem? (i := 321) (by decide +kernel)) rfl) (jg_in (List.mem_of_getElem? (i := 53) (by decide +kernel)) rfl) (by omega), fun _ h => absurd h List.not_mem_nil⟩⟩⟩⟩
set_option maxRecDepth 20000 in
set_option maxHeartbeats 4000000 in
theorem c_Sig_insertAll {l : Launch} (hnt : l.stackTraces = false) (sz0 : Nat) : jCon sz0 l y_Sig_insertAll prog_5_method_10_code 4 none 1 0 0 (S_Sig_insertAll sz0) := by
  refine jmet (own := "Manydoors$Signs") (nm := "insertAll") k_Sig_insertAll (cp_Sig_insertAll sz0) [] 60 (plainFor_of_name (by decide)) rfl rfl hnt k_Sig_insertAll_ok (cp_Sig_insertAll_ok hnt sz0) (fun _ h => absurd h List.not_mem_nil) ?_
  intro av M sz P X h hz hfr
  unfold S_Sig_insertAll at h
  split at h
  · rename_i o a p
    obtain ⟨xs, ys, rm, rn, hg, hg2, ho, hd, ⟨ha, ha2⟩, hl, h⟩ := h
    have hg0 := hg.len
    have hg20 := hg2.len
    obtain ⟨g, h1, h2, h3, h4⟩ := id hg
    obtain ⟨g2, k1, k2, k3, k4⟩ := id hg2
    have hla : (xs ++ g).length = rm := by rw [List.length_append]; exact h3
    have hlb : (ys ++ g2).length = rn := by rw [List.length_append]; exact k3
    have hja : jr a := ⟨by omega, by omega⟩
    refine ⟨rfl, [], ?_, fun pc a h => absurd h List.not_mem_nil⟩
    conv => whnf
    refine ⟨_, _, k1, rfl, ?_⟩
    conv => whnf
    refine ⟨hja, fun c1 => by omega, fun c1 => ?_⟩
    conv => whnf
    refine ⟨_, _, h1, rfl, ?_⟩
    conv => whnf
    refine ⟨⟨hja, jrn (by omega)⟩, fun c2 => by omega, fun c2 => ?_⟩
    conv => whnf
    refine ⟨_, _, h1, rfl, ?_⟩
    refine Or.inl ⟨_, _, h2, ?_⟩
    conv => whnf
    refine ⟨_, _, h1, rfl, ?_⟩
    conv => whnf
    refine ⟨⟨jrn (by omega), ⟨by omega, by omega⟩⟩, fun c3 => ?_, fun c3 => by omega⟩
    conv => whnf
    refine ⟨_, _, h1, rfl, ?_⟩
    refine ⟨_, _, h1, rfl, ?_⟩
    conv => whnf
    refine ⟨_, _, h1, rfl, ?_⟩
    conv => whnf
    refine ⟨_, _, h2, h2, by omega, ⟨by omega, by omega, by omega, by omega, by omega, by omega, by omega, by omega, by omega⟩, fun M1 e1 => ?_⟩
    have h1' : M1 o = some (.inl (4, [vR (o + 1), vI xs.length])) := by rw [e1, jup_n (by omega)]; exact h1
    have k1' : M1 p = some (.inl (4, [vR (p + 1), vI ys.length])) := by rw [e1, jup_n (by omega)]; exact k1
    have k2' : M1 (p + 1) = some (.inr (.inl (.int, ys ++ g2))) := by rw [e1, jup_n (by omega)]; exact k2
    generalize hzs : jcpy (xs ++ g) (xs ++ g) a.toNat (a + (ys.length : Int)).toNat ((xs.length : Int) - a).toNat = zs at e1
    have hzl : zs.length = rm := by rw [← hzs, jcpy_len (by omega) (by omega)]; exact hla
    have h2' : M1 (o + 1) = some (.inr (.inl (.int, zs))) := by rw [e1, jup_s]
    conv => whnf
    refine ⟨_, _, k1', rfl, ?_⟩
    conv => whnf
    refine ⟨_, _, h1', rfl, ?_⟩
    conv => whnf
    refine ⟨_, _, k2', h2', by omega, ⟨by omega, by omega, by omega, by omega, by omega, by omega, by omega, by omega, by omega⟩, fun M2 e2 => ?_⟩
    have h1'' : M2 o = some (.inl (4, [vR (o + 1), vI xs.length])) := by rw [e2, jup_n (by omega)]; exact h1'
    conv => whnf
    refine ⟨_, _, h1'', rfl, ?_⟩
    conv => whnf
    refine ⟨ho, _, h1'', fun M3 e3 => ?_⟩
    conv => whnf
    have hil : (ins xs ys a.toNat).length = xs.length + ys.length := by unfold ins; rw [List.length_append, List.length_append, List.length_take, List.length_drop]; omega
    refine ⟨rfl, h M3 ⟨(xs ++ g).drop (xs.length + ys.length), ?_, ?_, ?_, h4.1, sgn_app (sgn_take h4.2) (sgn_app k4.2 (sgn_drop h4.2))⟩ fun q q1 q2 => ?_⟩
    · rw [e3, jup_s, hil]
      simp
    · rw [e3, jup_n (by omega), e2, jup_s, ← hzs]
      congr 4
      unfold jcpy ins
      simp only [Int.toNat_zero, List.drop_zero]
      have z1 : (a + (ys.length : Int)).toNat = a.toNat + ys.length := by omega
      have z2 : ((ys.length : Nat) : Int).toNat = ys.length := rfl
      have z3 : ((xs.length : Int) - a).toNat = xs.length - a.toNat := by omega
      rw [z1, z2, z3]
      have y1 : List.take a.toNat (List.take (a.toNat + ys.length) (xs ++ g) ++ (List.take (xs.length - a.toNat) (List.drop a.toNat (xs ++ g)) ++ List.drop (a.toNat + ys.length + (xs.length - a.toNat)) (xs ++ g))) = xs.take a.toNat := by
        rw [List.take_append_of_le_length (by rw [List.length_take]; omega), List.take_take, Nat.min_eq_left (by omega), List.take_append_of_le_length (by omega)]
      have y2 : List.drop (a.toNat + ys.length) (List.take (a.toNat + ys.length) (xs ++ g) ++ (List.take (xs.length - a.toNat) (List.drop a.toNat (xs ++ g)) ++ List.drop (a.toNat + ys.length + (xs.length - a.toNat)) (xs ++ g))) = xs.drop a.toNat ++ (xs ++ g).drop (xs.length + ys.length) := by
        rw [List.drop_append, List.drop_eq_nil_of_le (by rw [List.length_take]; omega), List.nil_append]
        have y3 : a.toNat + ys.length - (List.take (a.toNat + ys.length) (xs ++ g)).length = 0 := by rw [List.length_take]; omega
        rw [y3, List.drop_zero, List.drop_append_of_le_length (by omega), List.take_append_of_le_length (by rw [List.length_drop]; omega), List.take_of_length_le (by rw [List.length_drop]; omega)]
        congr 2
        omega
      rw [y1, y2, List.take_append_of_le_length (Nat.le_refl _), List.take_length]
      simp only [List.append_assoc]
    · rw [hil, List.length_drop]; omega
    · rw [e3, jup_n q1, e2, jup_n q2, e1, jup_n q2]
  · exact h.elim

