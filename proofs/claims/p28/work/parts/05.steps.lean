/-! What an instruction asks: 'js' of a list of instructions, over integers; each is a row of the kit. -/
/-- an entry that names something of the tables (a field, a method, a class): from the stack and the world on; what follows; what follows where it throws -/
abbrev jTr : Type := List jV → jM → Nat → Nat → Nat → (List jV → jM → Nat → Nat → Nat → Prop) → (Nat → jM → Nat → Nat → Nat → Prop) → Prop
abbrev jK : Type := Nat → List (Nat × jV) → List jV → jM → Nat → Nat → Nat → Prop
def jlk {α : Type} : List (Nat × α) → Nat → Option α
  | [], _ => none
  | (k, v) :: r, q => match Nat.beq k q with
    | true => some v
    | false => jlk r q
theorem jlk_mem {α : Type} : ∀ {l : List (Nat × α)} {q : Nat} {v : α}, jlk l q = some v → (q, v) ∈ l
  | [], _, _, h => by simp [jlk] at h
  | (k, w) :: r, q, v, h => by
    unfold jlk at h
    split at h
    · rename_i hb
      cases h
      rw [Nat.eq_of_beq_eq_true hb]
      exact List.mem_cons_self
    · exact List.mem_cons_of_mem _ (jlk_mem h)
def jl2 : List (Nat × Nat × jTr) → Nat → Nat → Option jTr
  | [], _, _ => none
  | (a, b, v) :: r, x, y => match Nat.beq a x && Nat.beq b y with
    | true => some v
    | false => jl2 r x y
theorem jl2_mem : ∀ {l : List (Nat × Nat × jTr)} {x y : Nat} {v : jTr}, jl2 l x y = some v → (x, y, v) ∈ l
  | [], _, _, _, h => by simp [jl2] at h
  | (a, b, w) :: r, x, y, v, h => by
    unfold jl2 at h
    split at h
    · rename_i hb
      cases h
      rw [Bool.and_eq_true] at hb
      rw [Nat.eq_of_beq_eq_true hb.1, Nat.eq_of_beq_eq_true hb.2]
      exact List.mem_cons_self
    · exact List.mem_cons_of_mem _ (jl2_mem h)
def jin (a b : Nat) : Instr := match a with
  | 0 => .getfield b
  | 1 => .putfield b
  | 2 => .getstatic b
  | 3 => .invokevirtual b
  | 4 => .invokestatic b
  | 5 => .invokespecial b
  | 6 => .new b
  | 7 => .anewarray b
  | 8 => .ldc b
  | 9 => .ldc2_w b
  | 10 => match b with
    | 10 => .newarray .int
    | _ => .newarray .char
  | 11 => .iastore
  | 12 => .castore
  | _ => .aastore
def jct2 : jV → Bool
  | .inr (.inl _) => true
  | _ => false
def jdl (w : Bool) (i : Nat) : List (Nat × jV) → List (Nat × jV)
  | [] => []
  | (k, v) :: r => match Nat.beq k i, Nat.beq (k + 1) i && jct2 v, w && Nat.beq k (i + 1) with
    | false, false, false => (k, v) :: jdl w i r
    | _, _, _ => jdl w i r
/-- the locals behind a store of v at i (w: of two words) -/
def jst (w : Bool) (i : Nat) (v : jV) : List (Nat × jV) → List (Nat × jV)
  | [] => [(i, v)]
  | (k, u) :: r => match Nat.beq k i with
    | true => (i, v) :: jdl w i r
    | false => match Nat.beq (k + 1) i && jct2 u, w && Nat.beq k (i + 1) with
      | false, false => (k, u) :: jst w i v r
      | _, _ => jst w i v r
theorem jdl_mem {w : Bool} {i : Nat} : ∀ {l : List (Nat × jV)} {q : Nat × jV}, q ∈ jdl w i l → q ∈ l ∧ q.1 ≠ i ∧ ¬ (q.1 + 1 = i ∧ jct2 q.2 = true) ∧ ¬ (w = true ∧ q.1 = i + 1)
  | [], q, h => by simp [jdl] at h
  | (k, v) :: r, q, h => by
    unfold jdl at h
    split at h
    · rename_i h1 h2 h3
      rcases List.mem_cons.mp h with e | h
      · subst e
        refine ⟨List.mem_cons_self, fun e => ?_, fun ⟨e1, e2⟩ => ?_, fun ⟨e1, e2⟩ => ?_⟩
        · dsimp only at e
          rw [e, Nat.beq_refl] at h1
          cases h1
        · dsimp only at e1 e2
          rw [e1, Nat.beq_refl, e2] at h2
          cases h2
        · dsimp only at e1 e2
          rw [e1, e2, Nat.beq_refl] at h3
          cases h3
      · obtain ⟨h1, h2⟩ := jdl_mem h
        exact ⟨List.mem_cons_of_mem _ h1, h2⟩
    · obtain ⟨h1, h2⟩ := jdl_mem h
      exact ⟨List.mem_cons_of_mem _ h1, h2⟩
theorem jst_mem {w : Bool} {i : Nat} {v : jV} : ∀ {l : List (Nat × jV)} {q : Nat × jV}, q ∈ jst w i v l → q = (i, v) ∨ (q ∈ l ∧ q.1 ≠ i ∧ ¬ (q.1 + 1 = i ∧ jct2 q.2 = true) ∧ ¬ (w = true ∧ q.1 = i + 1))
  | [], q, h => by
    simp [jst] at h
    exact Or.inl h
  | (k, u) :: r, q, h => by
    unfold jst at h
    split at h
    · rcases List.mem_cons.mp h with e | h
      · exact Or.inl e
      · obtain ⟨h1, h2⟩ := jdl_mem h
        exact Or.inr ⟨List.mem_cons_of_mem _ h1, h2⟩
    · rename_i h0
      split at h
      · rename_i h2 h3
        rcases List.mem_cons.mp h with e | h
        · subst e
          refine Or.inr ⟨List.mem_cons_self, fun e => ?_, fun ⟨e1, e2⟩ => ?_, fun ⟨e1, e2⟩ => ?_⟩
          · dsimp only at e
            rw [e, Nat.beq_refl] at h0
            cases h0
          · dsimp only at e1 e2
            rw [e1, Nat.beq_refl, e2] at h2
            cases h2
          · dsimp only at e1 e2
            rw [e1, e2, Nat.beq_refl] at h3
            cases h3
        · rcases jst_mem h with h | ⟨h1, h2⟩
          · exact Or.inl h
          · exact Or.inr ⟨List.mem_cons_of_mem _ h1, h2⟩
      · rcases jst_mem h with h | ⟨h1, h2⟩
        · exact Or.inl h
        · exact Or.inr ⟨List.mem_cons_of_mem _ h1, h2⟩
def jlm (lv : List (Nat × jV)) : List (Nat × Value) := lv.map (fun q => (q.1, jv q.2))
theorem jct2_cat {v : jV} : (jv v).category = 2 ↔ jct2 v = true := by
  rcases v with z | z | _ | a <;> simp [jv, jct2, Value.category]
def jis2 : jV → Bool := jct2
theorem jv_cat1 {v : jV} (h : jct2 v = false) : (jv v).category = 1 := by
  rcases v with z | z | _ | a <;> simp [jv, jct2, Value.category] at h ⊢
theorem jst_has1 {ls : Array Slot} {nL i : Nat} {v : jV} {lv : List (Nat × jV)} (h : lv_has ls nL ((i, jv v) :: (jlm lv).filter (fun q => !(q.1 == i) && !(q.1 + 1 == i && q.2.category == 2)))) : lv_has ls nL (jlm (jst false i v lv)) := by
  refine ⟨h.1, h.2.1, fun q hq => h.2.2 q ?_⟩
  obtain ⟨q0, h0, rfl⟩ := List.mem_map.mp hq
  rcases jst_mem h0 with e | ⟨h1, h2, h3, -⟩
  · rw [e]; exact List.mem_cons_self
  · refine List.mem_cons_of_mem _ (List.mem_filter.mpr ⟨List.mem_map.mpr ⟨q0, h1, rfl⟩, ?_⟩)
    have h4 : ¬ (q0.1 + 1 = i ∧ (jv q0.2).category = 2) := fun ⟨a, b⟩ => h3 ⟨a, jct2_cat.mp b⟩
    simp only [Bool.and_eq_true, Bool.not_eq_true', beq_eq_false_iff_ne, ne_eq, Bool.and_eq_false_iff]
    refine ⟨h2, ?_⟩
    by_cases e : q0.1 + 1 = i
    · exact Or.inr (by intro e2; exact h4 ⟨e, e2⟩)
    · exact Or.inl e
def jret (ret : Option FieldType) (v : Int) : Prop := match ret with
  | some .int => True
  | some .boolean => v = 0 ∨ v = 1
  | _ => False
def jisref (ret : Option FieldType) : Bool := match ret with
  | some (.object _) => true
  | some (.array _) => true
  | _ => false
def jtsw (lo hi : Int) (dflt : Int) (offs : Array Int) (pc : Nat) (x : Int) (t : Nat) : Prop :=
  ((x < lo ∨ hi < x) ∧ (pc : Int) + dflt = (t : Int)) ∨ (¬ x < lo ∧ ¬ hi < x ∧ ∃ off : Int, offs[(x - lo).toNat]? = some off ∧ (pc : Int) + off = (t : Int))
/-- an instruction: its own place, the next one's, its target, the constant that it names -/
abbrev jI5 : Type := Instr × Nat × Nat × Int
def jlen : Instr → Nat
  | .iload _ | .lload _ | .aload _ | .istore _ | .lstore _ | .astore _ | .bipush _ | .ldc _ | .newarray _ => 2
  | .sipush _ | .iinc _ _ | .ifCond _ _ | .if_icmp _ _ | .goto _ | .getfield _ | .putfield _ | .getstatic _ | .invokevirtual _ | .invokestatic _ | .invokespecial _ | .new _ | .anewarray _ | .ldc2_w _ | .ldc_w _ => 3
  | _ => 1
set_option maxRecDepth 20000 in
def js (cp : List (Nat × Nat × jTr)) (ret : Option FieldType) (nL : Nat) (Qr : Option jV → jM → Nat → Prop) (X : Nat → jM → Nat → Nat → Nat → Prop) (pc : Nat) (i : Instr) (npc tgt : Nat) (cst : Int) (lv : List (Nat × jV)) (st : List jV) (M : jM) (sz kc ks : Nat) (K : jK) : Prop :=
  match i with
  | .iconst _ => K npc lv (vI cst :: st) M sz kc ks
  | .bipush _ => K npc lv (vI cst :: st) M sz kc ks
  | .sipush _ => K npc lv (vI cst :: st) M sz kc ks
  | .lconst _ => K npc lv (vL cst :: st) M sz kc ks
  | .iload k => match jlk lv k with
    | some (.inl z) => K npc lv (vI z :: st) M sz kc ks
    | _ => False
  | .iload_n k => match jlk lv k.val with
    | some (.inl z) => K npc lv (vI z :: st) M sz kc ks
    | _ => False
  | .lload k => match jlk lv k with
    | some (.inr (.inl z)) => K npc lv (vL z :: st) M sz kc ks
    | _ => False
  | .lload_n k => match jlk lv k.val with
    | some (.inr (.inl z)) => K npc lv (vL z :: st) M sz kc ks
    | _ => False
  | .aload k => match jlk lv k with
    | some (.inr (.inr (some a))) => K npc lv (vR a :: st) M sz kc ks
    | _ => False
  | .aload_n k => match jlk lv k.val with
    | some (.inr (.inr (some a))) => K npc lv (vR a :: st) M sz kc ks
    | _ => False
  | .istore k => match st, Nat.ble (k + 1) nL with
    | .inl z :: r, true => K npc (jst false k (vI z) lv) r M sz kc ks
    | _, _ => False
  | .istore_n k => match st, Nat.ble (k.val + 1) nL with
    | .inl z :: r, true => K npc (jst false k.val (vI z) lv) r M sz kc ks
    | _, _ => False
  | .lstore k => match st, Nat.ble (k + 2) nL with
    | .inr (.inl z) :: r, true => K npc (jst true k (vL z) lv) r M sz kc ks
    | _, _ => False
  | .lstore_n k => match st, Nat.ble (k.val + 2) nL with
    | .inr (.inl z) :: r, true => K npc (jst true k.val (vL z) lv) r M sz kc ks
    | _, _ => False
  | .astore k => match st, Nat.ble (k + 1) nL with
    | .inr (.inr (some a)) :: r, true => K npc (jst false k (vR a) lv) r M sz kc ks
    | _, _ => False
  | .astore_n k => match st, Nat.ble (k.val + 1) nL with
    | .inr (.inr (some a)) :: r, true => K npc (jst false k.val (vR a) lv) r M sz kc ks
    | _, _ => False
  | .iinc k _ => match jlk lv k, Nat.ble (k + 1) nL with
    | some (.inl z), true => K npc (jst false k (vI (z + cst)) lv) st M sz kc ks
    | _, _ => False
  | .iadd => match st with
    | .inl y :: .inl x :: r => K npc lv (vI (x + y) :: r) M sz kc ks
    | _ => False
  | .isub => match st with
    | .inl y :: .inl x :: r => K npc lv (vI (x - y) :: r) M sz kc ks
    | _ => False
  | .imul => match st with
    | .inl y :: .inl x :: r => K npc lv (vI (x * y) :: r) M sz kc ks
    | _ => False
  | .ineg => match st with
    | .inl x :: r => K npc lv (vI (-x) :: r) M sz kc ks
    | _ => False
  | .idiv => match st with
    | .inl y :: .inl x :: r => (0 ≤ x ∧ jr x ∧ 0 < y ∧ jr y) ∧ K npc lv (vI (x / y) :: r) M sz kc ks
    | _ => False
  | .irem => match st with
    | .inl y :: .inl x :: r => (0 ≤ x ∧ jr x ∧ 0 < y ∧ jr y) ∧ K npc lv (vI (x % y) :: r) M sz kc ks
    | _ => False
  | .iand => match st with
    | .inl y :: .inl x :: r => K npc lv (vI (iI x &&& iI y).toInt :: r) M sz kc ks
    | _ => False
  | .ixor => match st with
    | .inl y :: .inl x :: r => K npc lv (vI (iI x ^^^ iI y).toInt :: r) M sz kc ks
    | _ => False
  | .ladd => match st with
    | .inr (.inl y) :: .inr (.inl x) :: r => K npc lv (vL (x + y) :: r) M sz kc ks
    | _ => False
  | .lmul => match st with
    | .inr (.inl y) :: .inr (.inl x) :: r => K npc lv (vL (x * y) :: r) M sz kc ks
    | _ => False
  | .i2l => match st with
    | .inl x :: r => jr x ∧ K npc lv (vL x :: r) M sz kc ks
    | _ => False
  | .i2c => match st with
    | .inl x :: r => (0 ≤ x ∧ x < 65536) ∧ K npc lv (vI x :: r) M sz kc ks
    | _ => False
  | .dup => match st with
    | v :: r => match jct2 v with
      | false => K npc lv (v :: v :: r) M sz kc ks
      | true => False
    | _ => False
  | .pop => match st with
    | v :: r => match jct2 v with
      | false => K npc lv r M sz kc ks
      | true => False
    | _ => False
  | .dup2 => match st with
    | v :: u :: r => match jct2 v, jct2 u with
      | false, false => K npc lv (v :: u :: v :: u :: r) M sz kc ks
      | _, _ => False
    | _ => False
  | .pop2 => match st with
    | v :: r => match jct2 v with
      | true => K npc lv r M sz kc ks
      | false => False
    | _ => False
  | .goto _ => K tgt lv st M sz kc ks
  | .ifCond cd _ => match st with
    | .inl x :: r => match cd with
      | .eq => jr x ∧ (x = 0 → K tgt lv r M sz kc ks) ∧ (¬ x = 0 → K npc lv r M sz kc ks)
      | .ne => jr x ∧ (¬ x = 0 → K tgt lv r M sz kc ks) ∧ (x = 0 → K npc lv r M sz kc ks)
      | .lt => jr x ∧ (x < 0 → K tgt lv r M sz kc ks) ∧ (0 ≤ x → K npc lv r M sz kc ks)
      | .ge => jr x ∧ (0 ≤ x → K tgt lv r M sz kc ks) ∧ (x < 0 → K npc lv r M sz kc ks)
      | .gt => jr x ∧ (0 < x → K tgt lv r M sz kc ks) ∧ (x ≤ 0 → K npc lv r M sz kc ks)
      | .le => jr x ∧ (x ≤ 0 → K tgt lv r M sz kc ks) ∧ (0 < x → K npc lv r M sz kc ks)
    | _ => False
  | .if_icmp cd _ => match st with
    | .inl y :: .inl x :: r => match cd with
      | .eq => (jr x ∧ jr y) ∧ (x = y → K tgt lv r M sz kc ks) ∧ (¬ x = y → K npc lv r M sz kc ks)
      | .ne => (jr x ∧ jr y) ∧ (¬ x = y → K tgt lv r M sz kc ks) ∧ (x = y → K npc lv r M sz kc ks)
      | .lt => (jr x ∧ jr y) ∧ (x < y → K tgt lv r M sz kc ks) ∧ (y ≤ x → K npc lv r M sz kc ks)
      | .ge => (jr x ∧ jr y) ∧ (y ≤ x → K tgt lv r M sz kc ks) ∧ (x < y → K npc lv r M sz kc ks)
      | .gt => (jr x ∧ jr y) ∧ (y < x → K tgt lv r M sz kc ks) ∧ (x ≤ y → K npc lv r M sz kc ks)
      | .le => (jr x ∧ jr y) ∧ (x ≤ y → K tgt lv r M sz kc ks) ∧ (y < x → K npc lv r M sz kc ks)
    | _ => False
  | .arraylength => match st with
    | .inr (.inr (some a)) :: r => (∃ (ty : FieldType) (xs : List Int), M a = some (.inr (.inl (ty, xs))) ∧ K npc lv (vI (xs.length : Int) :: r) M sz kc ks) ∨ (∃ (ty : FieldType) (rs : List (Option Nat)), M a = some (.inr (.inr (ty, rs))) ∧ K npc lv (vI (rs.length : Int) :: r) M sz kc ks)
    | _ => False
  | .iaload => match st with
    | .inl j :: .inr (.inr (some a)) :: r => ∃ xs : List Int, M a = some (.inr (.inl (.int, xs))) ∧ (0 ≤ j ∧ j < (xs.length : Int) ∧ xs.length < 2 ^ 31) ∧ ∀ v : Int, xs[j.toNat]? = some v → jr v → K npc lv (vI v :: r) M sz kc ks
    | _ => False
  | .aaload => match st with
    | .inl j :: .inr (.inr (some a)) :: r => ∃ (ty : FieldType) (rs : List (Option Nat)) (b : Nat), M a = some (.inr (.inr (ty, rs))) ∧ ty.isReference = true ∧ (0 ≤ j ∧ j < (rs.length : Int) ∧ rs.length < 2 ^ 31) ∧ rs[j.toNat]? = some (some b) ∧ K npc lv (vR b :: r) M sz kc ks
    | _ => False
  | .ireturn => match st with
    | [.inl v] => jret ret v ∧ Qr (some (vI v)) M sz
    | _ => False
  | .lreturn => match st with
    | [.inr (.inl v)] => ret = some .long ∧ Qr (some (vL v)) M sz
    | _ => False
  | .areturn => match st with
    | [.inr (.inr (some a))] => jisref ret = true ∧ Qr (some (vR a)) M sz
    | _ => False
  | .return_ => match st with
    | [] => ret = none ∧ Qr none M sz
    | _ => False
  | .getfield k => match jl2 cp 0 k with
    | some tr => tr st M sz kc ks (K npc lv) X
    | none => False
  | .putfield k => match jl2 cp 1 k with
    | some tr => tr st M sz kc ks (K npc lv) X
    | none => False
  | .getstatic k => match jl2 cp 2 k with
    | some tr => tr st M sz kc ks (K npc lv) X
    | none => False
  | .invokevirtual k => match jl2 cp 3 k with
    | some tr => tr st M sz kc ks (K npc lv) X
    | none => False
  | .invokestatic k => match jl2 cp 4 k with
    | some tr => tr st M sz kc ks (K npc lv) X
    | none => False
  | .invokespecial k => match jl2 cp 5 k with
    | some tr => tr st M sz kc ks (K npc lv) X
    | none => False
  | .new k => match jl2 cp 6 k with
    | some tr => tr st M sz kc ks (K npc lv) X
    | none => False
  | .anewarray k => match jl2 cp 7 k with
    | some tr => tr st M sz kc ks (K npc lv) X
    | none => False
  | .ldc k => match jl2 cp 8 k with
    | some tr => tr st M sz kc ks (K npc lv) X
    | none => False
  | .ldc2_w k => match jl2 cp 9 k with
    | some tr => tr st M sz kc ks (K npc lv) X
    | none => False
  | .newarray at_ => match at_ with
    | .int => match jl2 cp 10 10 with
      | some tr => tr st M sz kc ks (K npc lv) X
      | none => False
    | .char => match jl2 cp 10 5 with
      | some tr => tr st M sz kc ks (K npc lv) X
      | none => False
    | _ => False
  | .iastore => match jl2 cp 11 0 with
    | some tr => tr st M sz kc ks (K npc lv) X
    | none => False
  | .castore => match jl2 cp 12 0 with
    | some tr => tr st M sz kc ks (K npc lv) X
    | none => False
  | .aastore => match jl2 cp 13 0 with
    | some tr => tr st M sz kc ks (K npc lv) X
    | none => False
  | .tableswitch dflt lo hi offs => match st with
    | .inl x :: r => jr x ∧ ∀ t : Nat, jtsw lo hi dflt offs pc x t → K t lv r M sz kc ks
    | _ => False
  | _ => False
abbrev jAs : Type := List (Nat × jV) → List jV → jM → Nat → Nat → Nat → Prop
/-- where a callee throws: no table (none): it goes on to the caller; else the place of the call has its handlers -/
def jx (hd : Option (List (Nat × List (Nat × Nat)))) (Qx : Nat → jM → Nat → Prop) (K : jK) (pc : Nat) (lv : List (Nat × jV)) (E : Nat) (M : jM) (sz kc ks : Nat) : Prop := match hd with
  | none => Qx E M sz
  | some hx => match jlk hx pc with
    | none => False
    | some L => match jlk L E with
      | none => False
      | some h => ∀ q : Nat, K h lv [vR q] M sz kc ks
/-- the walk from a place on: n instructions at most; at a cut its assertion is owed (b: also at the first place); sp: places where several instructions are one -/
def jwp (code : List (Nat × jI5)) (cp : List (Nat × Nat × jTr)) (cut : List (Nat × jAs)) (sp : List (Nat × jTr)) (hd : Option (List (Nat × List (Nat × Nat)))) (ret : Option FieldType) (nL : Nat) (Qr : Option jV → jM → Nat → Prop) (Qx : Nat → jM → Nat → Prop) : Nat → Bool → jK
  | 0, _, _, _, _, _, _, _, _ => False
  | n + 1, b, pc, lv, st, M, sz, kc, ks => match (match b with
      | true => jlk cut pc
      | false => none) with
    | some a => a lv st M sz kc ks
    | none => match jlk sp pc with
      | some tr => tr st M sz kc ks (fun _ _ _ _ _ => False) (jx hd Qx (jwp code cp cut sp hd ret nL Qr Qx n true) pc lv)
      | none => match jlk code pc with
        | none => False
        | some (i, npc, tgt, cst) => js cp ret nL Qr (jx hd Qx (jwp code cp cut sp hd ret nL Qr Qx n true) pc lv) pc i npc tgt cst lv st M sz kc ks (jwp code cp cut sp hd ret nL Qr Qx n true)
