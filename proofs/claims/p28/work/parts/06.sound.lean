/-! Each step is a row of the kit. -/
def jEx : Nat → String
  | 1 => "java/lang/IndexOutOfBoundsException"
  | _ => "java/lang/IllegalArgumentException"
/-- what holds all along a method -/
def jCx (sz0 : Nat) (own nm : String) (dep : Nat) (p : Program) (l : Launch) (R : Room) (s : State) (m : MethodId) (args : Array Value) (meth : Method) (c : Code) (cc : ByteArray) (nL : Nat) (ret : Option FieldType) : Prop :=
  p.tables.exec = Jvm.exec ∧ c.code = cc ∧ c.maxLocals = nL ∧ s.vm.findClass own = some m.cls ∧ (∀ w ∈ jg, w.before args s = true) ∧ meth.locks = false ∧ jI sz0 s s.heap ∧ sz0 ≤ s.heap.size ∧ l.stackTraces = false ∧ meth.name = nm ∧ dep ≤ R.frames ∧ 39 * dep ≤ R.locals ∧ meth.sig.returnType = ret
/-- what holds at a place of it -/
def jH (sz0 : Nat) (s : State) (R : Room) (H : Heap) (locs : List Loc) (cells slots : Nat) (M : jM) (sz kc ks : Nat) : Prop :=
  jhv s M H ∧ H.size = sz ∧ va_S (jA sz0) s.heap H locs ∧ cells + kc ≤ R.cells ∧ slots + ks ≤ R.slots
def jPc (sz0 : Nat) (av : List jV) (M : jM) (sz : Nat) : Array Value → State → Prop := fun v U => v = (av.map jv).toArray ∧ jhv U M U.heap ∧ U.heap.size = sz ∧ sz0 ≤ sz ∧ jI sz0 U U.heap
def jQc (sz0 : Nat) (P : Option jV → jM → Nat → Prop) : Array Value → State → Outcome → State → Prop := fun _ st o t => ∃ (v : Option jV) (M' : jM), o = .returned (v.map jv) ∧ P v M' t.heap.size ∧ jhv t M' t.heap ∧ va_F (jA sz0) st t
def jXC (sz0 : Nat) (X : Nat → jM → Nat → Prop) : String → State → State → Prop := fun E st t => ∃ (k : Nat) (M' : jM), E = jEx k ∧ X k M' t.heap.size ∧ jhv t M' t.heap ∧ va_F (jA sz0) st t
theorem jPc.blind {sz0 : Nat} {av : List jV} {M : jM} {sz : Nat} : FrameBlind (jPc sz0 av M sz) := fun a U g mk h => ⟨h.1, h.2.1, h.2.2.1, h.2.2.2.1, h.2.2.2.2.kept (State.WarmedH.refl U) (fun _ _ _ => rfl)⟩
/-- what a method does, from its arguments and the world on -/
abbrev jS : Type := List jV → jM → Nat → (Option jV → jM → Nat → Prop) → (Nat → jM → Nat → Prop) → Prop
abbrev jRm (dep mc ms : Nat) : Room := { frames := dep, cells := mc, slots := ms, locals := 39 * dep }
def jCon (sz0 : Nat) (l : Launch) (y : MethodName) (cc : ByteArray) (maxL : Nat) (ret : Option FieldType) (dep mc ms : Nat) (S : jS) : Prop :=
  ∀ (av : List jV) (M : jM) (sz : Nat) (P : Option jV → jM → Nat → Prop) (X : Nat → jM → Nat → Prop), S av M sz P X → vx_Met l y (Cond.code y cc maxL ret :: jg) (jRm dep mc ms) (jPc sz0 av M sz) (jQc sz0 P) (jXC sz0 X) mc ms (jA sz0)
section J
variable {p : Program} {l : Launch} {e : Env} {R : Room} {s : State} {m : MethodId} {args : Array Value} {below : List Frame} {meth : Method} {c : Code} {H : Heap} {locs : List Loc} {cells slots : Nat} {Q : State → Prop}
variable {cc : ByteArray} {nL pc : Nat} {ls : Array Slot} {sz0 : Nat} {own nm : String} {dep : Nat} {ret : Option FieldType}
/-- a step is sound: from its demand, and from W at what follows, W -/
def jSnd (sz0 : Nat) (l : Launch) (own nm : String) (dep : Nat) (i : Instr) (len : Nat) (tr : jTr) : Prop :=
  ∀ {p : Program} {e : Env} {R : Room} {s : State} {m : MethodId} {args : Array Value} {below : List Frame} {meth : Method} {c : Code} {H : Heap} {locs : List Loc} {cells slots : Nat} {Q : State → Prop} {cc : ByteArray} {nL pc : Nat} {ls : Array Slot} {ret : Option FieldType} {st : List jV} {M : jM} {sz kc ks : Nat} {K : List jV → jM → Nat → Nat → Nat → Prop} {X : Nat → jM → Nat → Nat → Nat → Prop},
    jCx sz0 own nm dep p l R s m args meth c cc nL ret → decode cc pc = .ok (i, len) → ls.size = nL → jH sz0 s R H locs cells slots M sz kc ks → tr st M sz kc ks K X →
    (∀ (st' : List jV) (M' : jM) (sz' kc' ks' : Nat) (H' : Heap) (locs' : List Loc) (cells' slots' : Nat), K st' M' sz' kc' ks' → jH sz0 s R H' locs' cells' slots' M' sz' kc' ks' → W p l e R s m args below meth c H' locs' cells' slots' Q (F0 m (pc + len) ls (st'.map jv))) →
    (∀ (E : Nat) (M' : jM) (sz' kc' ks' : Nat) (H' : Heap) (locs' : List Loc) (cells' slots' : Nat) (ce : Cell) (q : Nat) (rest : List Value), X E M' sz' kc' ks' → jH sz0 s R H' locs' cells' slots' M' sz' kc' ks' → H'[q]? = some ce → ce.vm = .none → s.vm.findClass (jEx E) = some ce.cls → vx_W p l e R s m args below meth c H' locs' cells' slots' Q (F0 m pc ls rest) q) →
    W p l e R s m args below meth c H locs cells slots Q (F0 m pc ls (st.map jv))
def jfnd : List (Nat × jV) → Nat → Option Nat
  | [], _ => none
  | (k, _) :: r, q => match Nat.beq k q with
    | true => some 0
    | false => (jfnd r q).map (· + 1)
theorem jlk_at {lv : List (Nat × jV)} {k : Nat} {v : jV} (h : lv_has ls nL (jlm lv)) (hk : jlk lv k = some v) : ls[k]? = some (.val (jv v)) := h.2.2 (k, jv v) (List.mem_map.mpr ⟨(k, v), jlk_mem hk, rfl⟩)
theorem jdiv {x y : Int} (hx : 0 ≤ x ∧ jr x ∧ 0 < y ∧ jr y) : iI x / iI y = iI (x / y) ∧ iI x - iI x / iI y * iI y = iI (x % y) ∧ ¬ iI y = 0 := by
  obtain ⟨h1, h2, h3, h4⟩ := hx
  obtain ⟨a, rfl⟩ := Int.eq_ofNat_of_zero_le h1
  obtain ⟨b, rfl⟩ := Int.eq_ofNat_of_zero_le (Int.le_of_lt h3)
  have ha : a < 2 ^ 31 := by obtain ⟨-, h⟩ := h2; omega
  have hb : b < 2 ^ 31 := by obtain ⟨-, h⟩ := h4; omega
  have hb0 : 0 < b := by omega
  rw [iI_nat, iI_nat]
  refine ⟨?_, ?_, ?_⟩
  · rw [pk_div ha hb0 hb, ← iI_nat]; congr 1
  · rw [pk_rem ha hb0 hb, ← iI_nat]; congr 1
  · exact nI_ne0 hb0 hb
/-- an instruction's place, length, target and constant are as decoded -/
def jchk (i : Instr) (pc tgt : Nat) (cst : Int) : Bool := match i with
  | .iconst n => decide (n = cst)
  | .bipush n => decide ((Int8.ofInt n).toInt32 = iI cst)
  | .sipush n => decide ((Int16.ofInt n).toInt32 = iI cst)
  | .lconst n => decide (((n : Nat) : Int) = cst)
  | .iinc _ n => decide (n = cst)
  | .goto off => decide ((pc : Int) + off = (tgt : Int))
  | .ifCond _ off => decide ((pc : Int) + off = (tgt : Int))
  | .if_icmp _ off => decide ((pc : Int) + off = (tgt : Int))
  | _ => true
def jok1 (cc : ByteArray) (q : Nat × jI5) : Bool := (match q.2.1 with
  | .tableswitch d lo hi offs => decide (decode cc q.1 = .ok (q.2.1, q.2.2.1 - q.1)) && decide (0 ≤ (q.1 : Int) + d) && decide (hi - lo + 1 = (offs.size : Int)) && offs.all (fun o => decide (0 ≤ (q.1 : Int) + o))
  | _ => decide (decode cc q.1 = .ok (q.2.1, jlen q.2.1)) && decide (q.2.2.1 = q.1 + jlen q.2.1)) && jchk q.2.1 q.1 q.2.2.2.1 q.2.2.2.2
abbrev jQ (below : List Frame) (sz0 : Nat) (Qr : Option jV → jM → Nat → Prop) (Qx : Nat → jM → Nat → Prop) (args : Array Value) (s : State) (R : Room) : State → Prop := vx_MQ below (jQc sz0 Qr) (jXC sz0 Qx) args s R.cells R.slots (jA sz0)
theorem jH.ends {M : jM} {sz kc ks : Nat} {R : Room} {s t : State} {H : Heap} {locs : List Loc} {cells slots : Nat} {Qr : Option jV → jM → Nat → Prop} {v : Option jV} {args : Array Value} (hH : jH sz0 s R H locs cells slots M sz kc ks) (hq : Qr v M sz) (ht : t.heap = H) (hW : s.WarmedH t.vm) : jQc sz0 Qr args s (.returned (v.map jv)) t := by
  obtain ⟨h1, h2, h3, h4, h5⟩ := hH
  refine ⟨v, M, rfl, by rw [ht, h2]; exact hq, by rw [ht]; exact h1.moved hW.alike, ?_⟩
  exact h3.F ht
theorem iI_l {z : Int} (h : jr z) : (iI z).toInt64 = Int64.ofInt z := by
  rw [← Int64.toInt_inj, Int32.toInt_toInt64, iI_toInt h, Int64.toInt_ofInt_of_le (by have := h.1; omega) (by have := h.2; omega)]
theorem iI_c {z : Int} (h : 0 ≤ z ∧ z < 65536) : ((iI z).toUInt32 % 65536).toInt32 = iI z := by
  obtain ⟨n, rfl⟩ := Int.eq_ofNat_of_zero_le h.1
  rw [iI_nat, pk_char, pk_tn (by omega), Nat.mod_eq_of_lt (by omega)]
theorem jge {x y : Int} (hx : jr x) (hy : jr y) (q : iI x ≥ iI y) : y ≤ x := (iI_le hy hx).mp q
theorem jnge {x y : Int} (hx : jr x) (hy : jr y) (q : ¬ iI x ≥ iI y) : x < y := by
  have h1 : ¬ y ≤ x := fun z => q ((iI_le hy hx).mpr z)
  omega
theorem jgt {x y : Int} (hx : jr x) (hy : jr y) (q : iI x > iI y) : y < x := (iI_lt hy hx).mp q
theorem jngt {x y : Int} (hx : jr x) (hy : jr y) (q : ¬ iI x > iI y) : x ≤ y := by
  have h1 : ¬ y < x := fun z => q ((iI_lt hy hx).mpr z)
  omega
theorem jr0 : jr 0 := ⟨by omega, by omega⟩
theorem jge0 {x : Int} (hx : jr x) (q : iI x ≥ 0) : 0 ≤ x := jge hx jr0 q
theorem jlt0 {x : Int} (hx : jr x) (q : ¬ iI x ≥ 0) : x < 0 := jnge hx jr0 q
theorem jgt0 {x : Int} (hx : jr x) (q : iI x > 0) : 0 < x := jgt hx jr0 q
theorem jle0 {x : Int} (hx : jr x) (q : ¬ iI x > 0) : x ≤ 0 := jngt hx jr0 q
theorem jst_has2 {ls : Array Slot} {nL i : Nat} {v : jV} {lv : List (Nat × jV)} (h : lv_has ls nL ((i, jv v) :: (jlm lv).filter (fun q => !(q.1 == i) && (!(q.1 == i + 1) && !(q.1 + 1 == i && q.2.category == 2))))) : lv_has ls nL (jlm (jst true i v lv)) := by
  refine ⟨h.1, h.2.1, fun q hq => h.2.2 q ?_⟩
  obtain ⟨q0, h0, rfl⟩ := List.mem_map.mp hq
  rcases jst_mem h0 with e | ⟨h1, h2, h3, h5⟩
  · rw [e]; exact List.mem_cons_self
  · refine List.mem_cons_of_mem _ (List.mem_filter.mpr ⟨List.mem_map.mpr ⟨q0, h1, rfl⟩, ?_⟩)
    have h4 : ¬ (q0.1 + 1 = i ∧ (jv q0.2).category = 2) := fun ⟨a, b⟩ => h3 ⟨a, jct2_cat.mp b⟩
    have h6 : ¬ q0.1 = i + 1 := fun a => h5 ⟨rfl, a⟩
    simp only [Bool.and_eq_true, Bool.not_eq_true', beq_eq_false_iff_ne, ne_eq, Bool.and_eq_false_iff]
    refine ⟨h2, h6, ?_⟩
    by_cases e : q0.1 + 1 = i
    · exact Or.inr (by intro e2; exact h4 ⟨e, e2⟩)
    · exact Or.inl e
set_option maxHeartbeats 4000000 in
set_option maxRecDepth 20000 in
theorem js_sound1 {Qr : Option jV → jM → Nat → Prop} {Qx : Nat → jM → Nat → Prop} {X : Nat → jM → Nat → Nat → Nat → Prop} {cp : List (Nat × Nat × jTr)} {i : Instr} {npc tgt : Nat} {cst : Int} {lv : List (Nat × jV)} {st : List jV} {M : jM} {sz kc ks : Nat} {K : jK}
    (hC : jCx sz0 own nm dep p l R s m args meth c cc nL ret) (hsw : ∀ (d lo hi : Int) (offs : Array Int), i ≠ .tableswitch d lo hi offs) (hd : decode cc pc = .ok (i, jlen i)) (hn : npc = pc + jlen i) (hr : jchk i pc tgt cst = true) (hlv : lv_has ls nL (jlm lv)) (hH : jH sz0 s R H locs cells slots M sz kc ks)
    (hcp : ∀ q ∈ cp, jSnd sz0 l own nm dep (jin q.1 q.2.1) (jlen (jin q.1 q.2.1)) q.2.2)
    (h : js cp ret nL Qr X pc i npc tgt cst lv st M sz kc ks K)
    (kK : ∀ (pc' : Nat) (lv' : List (Nat × jV)) (st' : List jV) (M' : jM) (sz' kc' ks' : Nat) (ls' : Array Slot) (H' : Heap) (locs' : List Loc) (cells' slots' : Nat), K pc' lv' st' M' sz' kc' ks' → lv_has ls' nL (jlm lv') → jH sz0 s R H' locs' cells' slots' M' sz' kc' ks' → W p l e R s m args below meth c H' locs' cells' slots' (jQ below sz0 Qr Qx args s R) (F0 m pc' ls' (st'.map jv)))
    (kX : ∀ (E : Nat) (M' : jM) (sz' kc' ks' : Nat) (H' : Heap) (locs' : List Loc) (cells' slots' : Nat) (ce : Cell) (q : Nat) (rest : List Value), X E M' sz' kc' ks' → jH sz0 s R H' locs' cells' slots' M' sz' kc' ks' → H'[q]? = some ce → ce.vm = .none → s.vm.findClass (jEx E) = some ce.cls → vx_W p l e R s m args below meth c H' locs' cells' slots' (jQ below sz0 Qr Qx args s R) (F0 m pc ls rest) q) :
    W p l e R s m args below meth c H locs cells slots (jQ below sz0 Qr Qx args s R) (F0 m pc ls (st.map jv)) := by
  have hC0 := hC
  obtain ⟨hx, hb, hml, hown, hts, hlocks, hI, hsz0, hnt, hnm, hRf, hRl, hret⟩ := hC
  have hS := hH.2.2.1
  have hcl : cells ≤ R.cells := by have := hH.2.2.2.1; omega
  have hsl : slots ≤ R.slots := by have := hH.2.2.2.2; omega
  have hmem : ∀ (a b : Nat) (tr : jTr), jl2 cp a b = some tr → tr st M sz kc ks (K npc lv) X → decode cc pc = .ok (jin a b, jlen (jin a b)) → npc = pc + jlen (jin a b) → W p l e R s m args below meth c H locs cells slots (jQ below sz0 Qr Qx args s R) (F0 m pc ls (st.map jv)) := by
    intro a b tr h1 h2 h3 h4
    refine hcp (a, b, tr) (jl2_mem h1) hC0 h3 hlv.1 hH h2 (fun st' M' sz' kc' ks' H' locs' cells' slots' hk hh => ?_) kX
    rw [← h4]
    exact kK npc lv st' M' sz' kc' ks' ls H' locs' cells' slots' hk hlv hh
  revert hsw
  cases i with
  | iconst n =>
    intro hs9; clear hs9
    simp only [jchk, decide_eq_true_eq] at hr
    subst hr; subst hn
    exact lv_iconst hx hb hd rfl (kK _ _ _ _ _ _ _ _ _ _ _ _ h hlv hH)
  | bipush n =>
    intro hs9; clear hs9
    simp only [jchk, decide_eq_true_eq] at hr
    subst hn
    exact lv_bipush hx hb hd hr (kK _ _ _ _ _ _ _ _ _ _ _ _ h hlv hH)
  | sipush n =>
    intro hs9; clear hs9
    simp only [jchk, decide_eq_true_eq] at hr
    subst hn
    exact lv_sipush hx hb hd hr (kK _ _ _ _ _ _ _ _ _ _ _ _ h hlv hH)
  | lconst n =>
    intro hs9; clear hs9
    simp only [jchk, decide_eq_true_eq] at hr
    subst hr; subst hn
    exact lv_lconst hx hb hd (Int64.ofInt_eq_ofNat).symm (kK _ _ _ _ _ _ _ _ _ _ _ _ h hlv hH)
  | iload k =>
    intro hs9; clear hs9
    subst hn
    simp only [js] at h
    split at h
    · rename_i z hz
      exact lv_iload hx hb hd (jlk_at hlv hz) (kK _ _ _ _ _ _ _ _ _ _ _ _ h hlv hH)
    · exact h.elim
  | iload_n k =>
    intro hs9; clear hs9
    subst hn
    simp only [js] at h
    split at h
    · rename_i z hz
      exact lv_iload_n hx hb hd rfl (jlk_at hlv hz) (kK _ _ _ _ _ _ _ _ _ _ _ _ h hlv hH)
    · exact h.elim
  | lload k =>
    intro hs9; clear hs9
    subst hn
    simp only [js] at h
    split at h
    · rename_i z hz
      exact lv_lload hx hb hd (jlk_at hlv hz) (kK _ _ _ _ _ _ _ _ _ _ _ _ h hlv hH)
    · exact h.elim
  | lload_n k =>
    intro hs9; clear hs9
    subst hn
    simp only [js] at h
    split at h
    · rename_i z hz
      exact lv_lload_n hx hb hd rfl (jlk_at hlv hz) (kK _ _ _ _ _ _ _ _ _ _ _ _ h hlv hH)
    · exact h.elim
  | aload k =>
    intro hs9; clear hs9
    subst hn
    simp only [js] at h
    split at h
    · rename_i z hz
      exact lv_aload hx hb hd (jlk_at hlv hz) (kK _ _ _ _ _ _ _ _ _ _ _ _ h hlv hH)
    · exact h.elim
  | aload_n k =>
    intro hs9; clear hs9
    subst hn
    simp only [js] at h
    split at h
    · rename_i z hz
      exact lv_aload_n hx hb hd rfl (jlk_at hlv hz) (kK _ _ _ _ _ _ _ _ _ _ _ _ h hlv hH)
    · exact h.elim
  | istore k =>
    intro hs9; clear hs9
    subst hn
    simp only [js] at h
    split at h
    · rename_i z r hz
      exact lv_istore hx hb hd hlv (Nat.le_of_ble_eq_true hz) rfl (fun ls' hl' => kK _ _ _ _ _ _ _ _ _ _ _ _ h (jst_has1 hl') hH)
    · exact h.elim
  | istore_n k =>
    intro hs9; clear hs9
    subst hn
    simp only [js] at h
    split at h
    · rename_i z r hz
      exact lv_istore_n hx hb hd rfl hlv (Nat.le_of_ble_eq_true hz) rfl (fun ls' hl' => kK _ _ _ _ _ _ _ _ _ _ _ _ h (jst_has1 hl') hH)
    · exact h.elim
  | astore k =>
    intro hs9; clear hs9
    subst hn
    simp only [js] at h
    split at h
    · rename_i z r hz
      exact lv_astore hx hb hd hlv (Nat.le_of_ble_eq_true hz) rfl (fun ls' hl' => kK _ _ _ _ _ _ _ _ _ _ _ _ h (jst_has1 hl') hH)
    · exact h.elim
  | astore_n k =>
    intro hs9; clear hs9
    subst hn
    simp only [js] at h
    split at h
    · rename_i z r hz
      exact lv_astore_n hx hb hd rfl hlv (Nat.le_of_ble_eq_true hz) rfl (fun ls' hl' => kK _ _ _ _ _ _ _ _ _ _ _ _ h (jst_has1 hl') hH)
    · exact h.elim
  | lstore k =>
    intro hs9; clear hs9
    subst hn
    simp only [js] at h
    split at h
    · rename_i z r hz
      exact lv_lstore hx hb hd hlv (Nat.le_of_ble_eq_true hz) rfl (fun ls' hl' => kK _ _ _ _ _ _ _ _ _ _ _ _ h (jst_has2 hl') hH)
    · exact h.elim
  | lstore_n k =>
    intro hs9; clear hs9
    subst hn
    simp only [js] at h
    split at h
    · rename_i z r hz
      exact lv_lstore_n hx hb hd rfl hlv (Nat.le_of_ble_eq_true hz) rfl (fun ls' hl' => kK _ _ _ _ _ _ _ _ _ _ _ _ h (jst_has2 hl') hH)
    · exact h.elim
  | iinc k n =>
    intro hs9; clear hs9
    subst hn
    simp only [jchk, decide_eq_true_eq] at hr
    subst hr
    simp only [js] at h
    split at h
    · rename_i z hz hb2
      obtain ⟨j, hj⟩ := List.getElem?_of_mem (List.mem_map.mpr ⟨(k, .inl z), jlk_mem hz, rfl⟩ : (k, jv (.inl z)) ∈ jlm lv)
      exact lv_iinc hx hb hd hlv hj (iI_add z n) (Nat.le_of_ble_eq_true hb2) rfl (fun ls' hl' => kK _ _ _ _ _ _ _ _ _ _ _ _ h (jst_has1 hl') hH)
    · exact h.elim
  | iadd =>
    intro hs9; clear hs9
    subst hn
    simp only [js] at h
    split at h
    · rename_i y x r
      refine lv_iadd hx hb hd ?_
      rw [iI_add]
      exact kK _ _ _ _ _ _ _ _ _ _ _ _ h hlv hH
    · exact h.elim
  | isub =>
    intro hs9; clear hs9
    subst hn
    simp only [js] at h
    split at h
    · rename_i y x r
      refine lv_isub hx hb hd ?_
      rw [iI_sub]
      exact kK _ _ _ _ _ _ _ _ _ _ _ _ h hlv hH
    · exact h.elim
  | imul =>
    intro hs9; clear hs9
    subst hn
    simp only [js] at h
    split at h
    · rename_i y x r
      refine lv_imul hx hb hd ?_
      rw [iI_mul]
      exact kK _ _ _ _ _ _ _ _ _ _ _ _ h hlv hH
    · exact h.elim
  | ladd =>
    intro hs9; clear hs9
    subst hn
    simp only [js] at h
    split at h
    · rename_i y x r
      refine lv_ladd hx hb hd ?_
      rw [← Int64.ofInt_add]
      exact kK _ _ _ _ _ _ _ _ _ _ _ _ h hlv hH
    · exact h.elim
  | lmul =>
    intro hs9; clear hs9
    subst hn
    simp only [js] at h
    split at h
    · rename_i y x r
      refine lv_lmul hx hb hd ?_
      rw [← Int64.ofInt_mul]
      exact kK _ _ _ _ _ _ _ _ _ _ _ _ h hlv hH
    · exact h.elim
  | ineg =>
    intro hs9; clear hs9
    subst hn
    simp only [js] at h
    split at h
    · refine lv_ineg hx hb hd ?_
      rw [iI_neg]
      exact kK _ _ _ _ _ _ _ _ _ _ _ _ h hlv hH
    · exact h.elim
  | idiv =>
    intro hs9; clear hs9
    subst hn
    simp only [js] at h
    split at h
    · obtain ⟨h1, h⟩ := h
      obtain ⟨e1, e2, e3⟩ := jdiv h1
      refine lv_idiv hx hb hd e3 ?_
      rw [e1]
      exact kK _ _ _ _ _ _ _ _ _ _ _ _ h hlv hH
    · exact h.elim
  | irem =>
    intro hs9; clear hs9
    subst hn
    simp only [js] at h
    split at h
    · obtain ⟨h1, h⟩ := h
      obtain ⟨e1, e2, e3⟩ := jdiv h1
      refine lv_irem hx hb hd e3 ?_
      rw [e2]
      exact kK _ _ _ _ _ _ _ _ _ _ _ _ h hlv hH
    · exact h.elim
  | iand =>
    intro hs9; clear hs9
    subst hn
    simp only [js] at h
    split at h
    · rename_i y x r
      refine lv_iand hx hb hd ?_
      have h9 := kK _ _ _ _ _ _ _ _ _ _ _ _ h hlv hH
      simp only [List.map_cons, jv, iI_of] at h9
      exact h9
    · exact h.elim
  | ixor =>
    intro hs9; clear hs9
    subst hn
    simp only [js] at h
    split at h
    · rename_i y x r
      refine lv_ixor hx hb hd ?_
      have h9 := kK _ _ _ _ _ _ _ _ _ _ _ _ h hlv hH
      simp only [List.map_cons, jv, iI_of] at h9
      exact h9
    · exact h.elim
  | i2l =>
    intro hs9; clear hs9
    subst hn
    simp only [js] at h
    split at h
    · obtain ⟨h1, h⟩ := h
      exact lv_i2l hx hb hd (iI_l h1) (kK _ _ _ _ _ _ _ _ _ _ _ _ h hlv hH)
    · exact h.elim
  | i2c =>
    intro hs9; clear hs9
    subst hn
    simp only [js] at h
    split at h
    · obtain ⟨h1, h⟩ := h
      exact lv_i2c hx hb hd (iI_c h1) (kK _ _ _ _ _ _ _ _ _ _ _ _ h hlv hH)
    · exact h.elim
  | dup =>
    intro hs9; clear hs9
    subst hn
    simp only [js] at h
    split at h
    · split at h
      · rename_i hv
        exact lv_dup hx hb hd (jv_cat1 hv) (kK _ _ _ _ _ _ _ _ _ _ _ _ h hlv hH)
      · exact h.elim
    · exact h.elim
  | pop =>
    intro hs9; clear hs9
    subst hn
    simp only [js] at h
    split at h
    · split at h
      · rename_i hv
        exact lv_pop hx hb hd (jv_cat1 hv) (kK _ _ _ _ _ _ _ _ _ _ _ _ h hlv hH)
      · exact h.elim
    · exact h.elim
  | dup2 =>
    intro hs9; clear hs9
    subst hn
    simp only [js] at h
    split at h
    · split at h
      · rename_i hv hu
        exact lv_dup2_11 hx hb hd (jv_cat1 hv) (jv_cat1 hu) (kK _ _ _ _ _ _ _ _ _ _ _ _ h hlv hH)
      · exact h.elim
    · exact h.elim
  | pop2 =>
    intro hs9; clear hs9
    subst hn
    simp only [js] at h
    split at h
    · split at h
      · rename_i hv
        exact lv_pop2_2 hx hb hd (jct2_cat.mpr hv) (kK _ _ _ _ _ _ _ _ _ _ _ _ h hlv hH)
      · exact h.elim
    · exact h.elim
  | goto off =>
    intro hs9; clear hs9
    simp only [jchk, decide_eq_true_eq] at hr
    exact lv_goto hx hb hd hr (kK _ _ _ _ _ _ _ _ _ _ _ _ h hlv hH)
  | ifCond cd off =>
    intro hs9; clear hs9
    simp only [jchk, decide_eq_true_eq] at hr
    subst hn
    simp only [js] at h
    split at h
    · rename_i x r
      have h0 : (0 : Int32) = iI 0 := rfl
      have hj0 : jr 0 := ⟨by omega, by omega⟩
      cases cd <;> simp only at h <;> obtain ⟨h1, h2, h3⟩ := h
      · exact lv_if_eq hx hb hd hr (fun q => kK _ _ _ _ _ _ _ _ _ _ _ _ (h2 (by rw [h0] at q; exact (iI_eq h1 hj0).mp q)) hlv hH) (fun q => kK _ _ _ _ _ _ _ _ _ _ _ _ (h3 (fun z => q (by rw [h0]; exact (iI_eq h1 hj0).mpr z))) hlv hH)
      · exact lv_if_ne hx hb hd hr (fun q => kK _ _ _ _ _ _ _ _ _ _ _ _ (h2 (fun z => q (by rw [h0]; exact (iI_eq h1 hj0).mpr z))) hlv hH) (fun q => kK _ _ _ _ _ _ _ _ _ _ _ _ (h3 ((iI_eq h1 hj0).mp (by rw [← h0]; exact q))) hlv hH)
      · exact lv_if_lt hx hb hd hr (fun q => kK _ _ _ _ _ _ _ _ _ _ _ _ (h2 (by rw [h0] at q; exact (iI_lt h1 hj0).mp q)) hlv hH) (fun q => kK _ _ _ _ _ _ _ _ _ _ _ _ (h3 (by rw [h0, iI_lt h1 hj0] at q; omega)) hlv hH)
      · exact lv_if_ge hx hb hd hr (fun q => kK _ _ _ _ _ _ _ _ _ _ _ _ (h2 (jge0 h1 q)) hlv hH) (fun q => kK _ _ _ _ _ _ _ _ _ _ _ _ (h3 (jlt0 h1 q)) hlv hH)
      · exact lv_if_gt hx hb hd hr (fun q => kK _ _ _ _ _ _ _ _ _ _ _ _ (h2 (jgt0 h1 q)) hlv hH) (fun q => kK _ _ _ _ _ _ _ _ _ _ _ _ (h3 (jle0 h1 q)) hlv hH)
      · exact lv_if_le hx hb hd hr (fun q => kK _ _ _ _ _ _ _ _ _ _ _ _ (h2 (by rw [h0] at q; exact (iI_le h1 hj0).mp q)) hlv hH) (fun q => kK _ _ _ _ _ _ _ _ _ _ _ _ (h3 (by rw [h0, iI_le h1 hj0] at q; omega)) hlv hH)
    · exact h.elim
  | if_icmp cd off =>
    intro hs9; clear hs9
    simp only [jchk, decide_eq_true_eq] at hr
    subst hn
    simp only [js] at h
    split at h
    · rename_i y x r
      cases cd <;> simp only at h <;> obtain ⟨⟨hjx, hjy⟩, h2, h3⟩ := h
      · exact lv_icmp_eq hx hb hd hr (fun q => kK _ _ _ _ _ _ _ _ _ _ _ _ (h2 ((iI_eq hjx hjy).mp q)) hlv hH) (fun q => kK _ _ _ _ _ _ _ _ _ _ _ _ (h3 (fun z => q ((iI_eq hjx hjy).mpr z))) hlv hH)
      · exact lv_icmp_ne hx hb hd hr (fun q => kK _ _ _ _ _ _ _ _ _ _ _ _ (h2 (fun z => q ((iI_eq hjx hjy).mpr z))) hlv hH) (fun q => kK _ _ _ _ _ _ _ _ _ _ _ _ (h3 ((iI_eq hjx hjy).mp q)) hlv hH)
      · exact lv_icmp_lt hx hb hd hr (fun q => kK _ _ _ _ _ _ _ _ _ _ _ _ (h2 ((iI_lt hjx hjy).mp q)) hlv hH) (fun q => kK _ _ _ _ _ _ _ _ _ _ _ _ (h3 (by rw [iI_lt hjx hjy] at q; omega)) hlv hH)
      · exact lv_icmp_ge hx hb hd hr (fun q => kK _ _ _ _ _ _ _ _ _ _ _ _ (h2 (jge hjx hjy q)) hlv hH) (fun q => kK _ _ _ _ _ _ _ _ _ _ _ _ (h3 (jnge hjx hjy q)) hlv hH)
      · exact lv_icmp_gt hx hb hd hr (fun q => kK _ _ _ _ _ _ _ _ _ _ _ _ (h2 (jgt hjx hjy q)) hlv hH) (fun q => kK _ _ _ _ _ _ _ _ _ _ _ _ (h3 (jngt hjx hjy q)) hlv hH)
      · exact lv_icmp_le hx hb hd hr (fun q => kK _ _ _ _ _ _ _ _ _ _ _ _ (h2 ((iI_le hjx hjy).mp q)) hlv hH) (fun q => kK _ _ _ _ _ _ _ _ _ _ _ _ (h3 (by rw [iI_le hjx hjy] at q; omega)) hlv hH)
    · exact h.elim
  | getfield k =>
    intro hs9; clear hs9
    simp only [js] at h
    split at h
    · rename_i tr ht
      exact hmem 0 k tr ht h hd hn
    · exact h.elim
  | putfield k =>
    intro hs9; clear hs9
    simp only [js] at h
    split at h
    · rename_i tr ht
      exact hmem 1 k tr ht h hd hn
    · exact h.elim
  | getstatic k =>
    intro hs9; clear hs9
    simp only [js] at h
    split at h
    · rename_i tr ht
      exact hmem 2 k tr ht h hd hn
    · exact h.elim
  | invokevirtual k =>
    intro hs9; clear hs9
    simp only [js] at h
    split at h
    · rename_i tr ht
      exact hmem 3 k tr ht h hd hn
    · exact h.elim
  | invokestatic k =>
    intro hs9; clear hs9
    simp only [js] at h
    split at h
    · rename_i tr ht
      exact hmem 4 k tr ht h hd hn
    · exact h.elim
  | invokespecial k =>
    intro hs9; clear hs9
    simp only [js] at h
    split at h
    · rename_i tr ht
      exact hmem 5 k tr ht h hd hn
    · exact h.elim
  | new k =>
    intro hs9; clear hs9
    simp only [js] at h
    split at h
    · rename_i tr ht
      exact hmem 6 k tr ht h hd hn
    · exact h.elim
  | anewarray k =>
    intro hs9; clear hs9
    simp only [js] at h
    split at h
    · rename_i tr ht
      exact hmem 7 k tr ht h hd hn
    · exact h.elim
  | ldc k =>
    intro hs9; clear hs9
    simp only [js] at h
    split at h
    · rename_i tr ht
      exact hmem 8 k tr ht h hd hn
    · exact h.elim
  | ldc2_w k =>
    intro hs9; clear hs9
    simp only [js] at h
    split at h
    · rename_i tr ht
      exact hmem 9 k tr ht h hd hn
    · exact h.elim
  | iastore =>
    intro hs9; clear hs9
    simp only [js] at h
    split at h
    · rename_i tr ht
      exact hmem 11 0 tr ht h hd hn
    · exact h.elim
  | castore =>
    intro hs9; clear hs9
    simp only [js] at h
    split at h
    · rename_i tr ht
      exact hmem 12 0 tr ht h hd hn
    · exact h.elim
  | aastore =>
    intro hs9; clear hs9
    simp only [js] at h
    split at h
    · rename_i tr ht
      exact hmem 13 0 tr ht h hd hn
    · exact h.elim
  | newarray ty =>
    intro hs9; clear hs9
    simp only [js] at h
    split at h
    · split at h
      · rename_i tr ht
        exact hmem 10 10 tr ht h hd hn
      · exact h.elim
    · split at h
      · rename_i tr ht
        exact hmem 10 5 tr ht h hd hn
      · exact h.elim
    · exact h.elim
  | arraylength =>
    intro hs9; clear hs9
    subst hn
    simp only [js] at h
    split at h
    · rename_i a r
      rcases h with ⟨ty, xs, h1, h⟩ | ⟨ty, rs, h1, h⟩
      · have h9 := kK _ _ _ _ _ _ _ _ _ _ _ _ h hlv hH
        rcases (hH.1 _ _ h1).1 with ⟨cA, h2, h3⟩ | ⟨h0, cell, h2, h3, h4, h5⟩
        · exact W.alen (n := iI (xs.length : Int)) hx hb h2 (h3 xs.length (fun j => .int (iI (xs.getD j 0)))) (by rw [vp_cell_i, arrV_size, iI_nat]; rfl) rfl rfl hd h9
        · dsimp only at h0
          subst h0
          exact W.alen (n := iI ((List.length ([] : List Int) : Nat) : Int)) hx hb h2 h3 (by rw [h5]; rfl) rfl rfl hd h9
      · have h9 := kK _ _ _ _ _ _ _ _ _ _ _ _ h hlv hH
        obtain ⟨cA, h2, h3, h4⟩ := hH.1 _ _ h1
        exact W.alen (n := iI (rs.length : Int)) hx hb h2 (h3 rs.length (fun j => va_rf (rs.getD j none))) (by rw [vp_cell_q, arrV_size, iI_nat]; rfl) rfl rfl hd h9
    · exact h.elim
  | iaload =>
    intro hs9; clear hs9
    subst hn
    simp only [js] at h
    split at h
    · rename_i j a r
      obtain ⟨xs, h1, ⟨g1, g2, g3⟩, h⟩ := h
      obtain ⟨h2, hjr⟩ := hH.1 _ _ h1
      have hjj : jr j := ⟨by omega, by omega⟩
      have hlt : j.toNat < xs.length := by omega
      have h9 := kK _ _ _ _ _ _ _ _ _ _ _ _ (h (xs[j.toNat]) (List.getElem?_eq_getElem hlt) (hjr _ (List.getElem_mem hlt))) hlv hH
      rcases h2 with ⟨cA, h2, h3⟩ | ⟨h0, -⟩
      · refine W.iald (v := .int (iI (xs[j.toNat]))) hx hb h2 (h3 xs.length (fun j => .int (iI (xs.getD j 0)))) (fun q => by cases q) ?_ ?_ rfl rfl hd h9
        · rw [vp_cell_i, arrV_size, iI_clamp hjj g1]
          intro q
          rcases q with q | q
          · exact iI_neg_not hjj g1 q
          · exact absurd hlt (Nat.not_lt.mpr q)
        · rw [vp_cell_i, iI_clamp hjj g1, arrV_read _ _ hlt]
          simp [List.getD_eq_getElem?_getD, hlt]
      · dsimp only at h0
        rw [h0] at hlt
        exact absurd hlt (Nat.not_lt_zero _)
    · exact h.elim
  | aaload =>
    intro hs9; clear hs9
    subst hn
    simp only [js] at h
    split at h
    · rename_i j a r
      obtain ⟨ty, rs, b, h1, hty, ⟨g1, g2, g3⟩, hb9, h⟩ := h
      obtain ⟨cA, h2, h3, h4⟩ := hH.1 _ _ h1
      have hjj : jr j := ⟨by omega, by omega⟩
      have hlt : j.toNat < rs.length := by omega
      have h9 := kK _ _ _ _ _ _ _ _ _ _ _ _ h hlv hH
      refine W.aald (v := .ref b) (ty := ty) hx hb h2 (h3 rs.length (fun j => va_rf (rs.getD j none))) hty (fun q => by cases q) ?_ ?_ rfl rfl hd h9
      · rw [vp_cell_q, arrV_size, iI_clamp hjj g1]
        intro q
        rcases q with q | q
        · exact iI_neg_not hjj g1 q
        · exact absurd hlt (Nat.not_lt.mpr q)
      · rw [vp_cell_q, iI_clamp hjj g1, arrV_read _ _ hlt, List.getD_eq_getElem?_getD, hb9]
        rfl
    · exact h.elim
  | ireturn =>
    intro hs9; clear hs9
    simp only [js] at h
    split at h
    · rename_i v
      obtain ⟨h1, h2⟩ := h
      refine W.widen hcl hsl (vx_ret ?_)
      cases ret with
      | none => exact h1.elim
      | some ty =>
        have hn9 : narrow ty (.int (iI v)) = .int (iI v) := by
          cases ty <;> first | exact h1.elim | rfl | (rcases h1 with rfl | rfl <;> rfl)
        exact W.zret (v := iI v) (ty := ty) hx hb hret hn9 (fun t ht hW => jH.ends hH h2 ht hW) hS.2.2 hd
    · exact h.elim
  | lreturn =>
    intro hs9; clear hs9
    simp only [js] at h
    split at h
    · rename_i v
      obtain ⟨h1, h2⟩ := h
      refine W.widen hcl hsl (vx_ret ?_)
      exact W.lret (v := Int64.ofInt v) hx hb (hret.trans h1) (fun t ht hW => jH.ends hH h2 ht hW) hS.2.2 hd
    · exact h.elim
  | areturn =>
    intro hs9; clear hs9
    simp only [js] at h
    split at h
    · rename_i v
      obtain ⟨h1, h2⟩ := h
      refine W.widen hcl hsl (vx_ret ?_)
      cases ret with
      | none => cases h1
      | some ty =>
        refine W.aret (v := .ref v) (rt := ty) hx hb hret ?_ (Or.inr ⟨v, rfl⟩) (fun t ht hW => jH.ends hH h2 ht hW) hS.2.2 hd
        cases ty <;> first | exact Or.inl ⟨_, rfl⟩ | exact Or.inr ⟨_, rfl⟩ | cases h1
    · exact h.elim
  | return_ =>
    intro hs9; clear hs9
    simp only [js] at h
    split at h
    · obtain ⟨h1, h2⟩ := h
      refine W.widen hcl hsl (vx_ret ?_)
      exact W.vret hx hb (hret.trans h1) (fun t ht hW => jH.ends hH h2 ht hW) hS.2.2 hd
    · exact h.elim
  | tableswitch d lo hi offs =>
    intro hsw
    exact absurd rfl (hsw _ _ _ _)
  | _ => intro hs9; exact h.elim
set_option maxHeartbeats 4000000 in
set_option maxRecDepth 20000 in
theorem js_sound {Qr : Option jV → jM → Nat → Prop} {Qx : Nat → jM → Nat → Prop} {X : Nat → jM → Nat → Nat → Nat → Prop} {cp : List (Nat × Nat × jTr)} {i : Instr} {npc tgt : Nat} {cst : Int} {lv : List (Nat × jV)} {st : List jV} {M : jM} {sz kc ks : Nat} {K : jK}
    (hC : jCx sz0 own nm dep p l R s m args meth c cc nL ret) (hok : jok1 cc (pc, i, npc, tgt, cst) = true) (hlv : lv_has ls nL (jlm lv)) (hH : jH sz0 s R H locs cells slots M sz kc ks)
    (hcp : ∀ q ∈ cp, jSnd sz0 l own nm dep (jin q.1 q.2.1) (jlen (jin q.1 q.2.1)) q.2.2)
    (h : js cp ret nL Qr X pc i npc tgt cst lv st M sz kc ks K)
    (kK : ∀ (pc' : Nat) (lv' : List (Nat × jV)) (st' : List jV) (M' : jM) (sz' kc' ks' : Nat) (ls' : Array Slot) (H' : Heap) (locs' : List Loc) (cells' slots' : Nat), K pc' lv' st' M' sz' kc' ks' → lv_has ls' nL (jlm lv') → jH sz0 s R H' locs' cells' slots' M' sz' kc' ks' → W p l e R s m args below meth c H' locs' cells' slots' (jQ below sz0 Qr Qx args s R) (F0 m pc' ls' (st'.map jv)))
    (kX : ∀ (E : Nat) (M' : jM) (sz' kc' ks' : Nat) (H' : Heap) (locs' : List Loc) (cells' slots' : Nat) (ce : Cell) (q : Nat) (rest : List Value), X E M' sz' kc' ks' → jH sz0 s R H' locs' cells' slots' M' sz' kc' ks' → H'[q]? = some ce → ce.vm = .none → s.vm.findClass (jEx E) = some ce.cls → vx_W p l e R s m args below meth c H' locs' cells' slots' (jQ below sz0 Qr Qx args s R) (F0 m pc ls rest) q) :
    W p l e R s m args below meth c H locs cells slots (jQ below sz0 Qr Qx args s R) (F0 m pc ls (st.map jv)) := by
  have hC0 := hC
  obtain ⟨hx, hb, hml, hown, hts, hlocks, hI, hsz0, hnt, hnm, hRf, hRl, hret⟩ := hC
  have hS := hH.2.2.1
  have hcl : cells ≤ R.cells := by have := hH.2.2.2.1; omega
  have hsl : slots ≤ R.slots := by have := hH.2.2.2.2; omega
  by_cases hsw : ∃ d lo hi offs, i = .tableswitch d lo hi offs
  · obtain ⟨d, lo, hi, offs, rfl⟩ := hsw
    simp only [jok1, Bool.and_eq_true, decide_eq_true_eq] at hok
    obtain ⟨⟨⟨⟨hd, hr0⟩, hr1⟩, hr2⟩, -⟩ := hok
    simp only [js] at h
    split at h
    · rename_i x r
      obtain ⟨hj, h⟩ := h
      have e : (iI x).toInt = x := iI_toInt hj
      by_cases h1 : x < lo ∨ hi < x
      · obtain ⟨t, ht⟩ : ∃ t : Nat, (pc : Int) + d = (t : Int) := ⟨((pc : Int) + d).toNat, by omega⟩
        exact lv_tableOut hx hb hd (by rw [e]; exact h1) ht (kK _ _ _ _ _ _ _ _ _ _ _ _ (h t (Or.inl ⟨h1, ht⟩)) hlv hH)
      · have h2 : ¬ x < lo := fun z => h1 (Or.inl z)
        have h3 : ¬ hi < x := fun z => h1 (Or.inr z)
        have hl : (x - lo).toNat < offs.size := by omega
        have ho : offs[(x - lo).toNat]? = some (offs[(x - lo).toNat]) := Array.getElem?_eq_getElem hl
        have hr3 := Array.all_eq_true.mp hr2 _ hl
        simp only [decide_eq_true_eq] at hr3
        obtain ⟨t, ht⟩ : ∃ t : Nat, (pc : Int) + offs[(x - lo).toNat] = (t : Int) := ⟨((pc : Int) + offs[(x - lo).toNat]).toNat, by omega⟩
        exact lv_tableIn hx hb hd (by rw [e]; exact h2) (by rw [e]; exact h3) (by rw [e]; exact ho) ht (kK _ _ _ _ _ _ _ _ _ _ _ _ (h t (Or.inr ⟨h2, h3, _, ho, ht⟩)) hlv hH)
    · exact h.elim
  have hok : (decode cc pc = .ok (i, jlen i) ∧ npc = pc + jlen i) ∧ jchk i pc tgt cst = true := by
    unfold jok1 at hok
    rw [Bool.and_eq_true] at hok
    refine ⟨?_, hok.2⟩
    have h9 := hok.1
    dsimp only at h9
    split at h9
    · exact absurd ⟨_, _, _, _, rfl⟩ hsw
    · rw [Bool.and_eq_true] at h9
      exact ⟨of_decide_eq_true h9.1, of_decide_eq_true h9.2⟩
  exact js_sound1 hC0 (fun d lo hi offs e9 => hsw ⟨d, lo, hi, offs, e9⟩) hok.1.1 hok.1.2 hok.2 hlv hH hcp h kK kX
end J
