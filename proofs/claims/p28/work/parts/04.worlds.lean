/-! A world is a map from addresses to cells whose ints are integers; a value is an integer (int, long) or a reference. -/
abbrev jV : Type := Int ⊕ (Int ⊕ Option Nat)
abbrev vI (z : Int) : jV := .inl z
abbrev vL (z : Int) : jV := .inr (.inl z)
abbrev vR (a : Nat) : jV := .inr (.inr (some a))
abbrev vN : jV := .inr (.inr none)
def iI (z : Int) : Int32 := Int32.ofInt z
def jv : jV → Value
  | .inl z => .int (iI z)
  | .inr (.inl z) => .long (Int64.ofInt z)
  | .inr (.inr none) => .null
  | .inr (.inr (some a)) => .ref a
def jr (z : Int) : Prop := -2147483648 ≤ z ∧ z < 2147483648
abbrev jE : Type := (Nat × List jV) ⊕ ((FieldType × List Int) ⊕ (FieldType × List (Option Nat)))
abbrev jM : Type := Nat → Option jE
def jup (M : jM) (q : Nat) (e : jE) : jM := fun x => if x = q then some e else M x
theorem jup_s {M : jM} {q : Nat} {e : jE} : jup M q e q = some e := by simp [jup]
theorem jup_n {M : jM} {q x : Nat} {e : jE} (h : x ≠ q) : jup M q e x = M x := by simp [jup, h]
-- ints
theorem iI_toInt {z : Int} (h : jr z) : (iI z).toInt = z := by
  obtain ⟨h1, h2⟩ := h
  exact Int32.toInt_ofInt_of_le (by omega) (by omega)
theorem iI_of (x : Int32) : iI x.toInt = x := Int32.ofInt_toInt x
theorem iI_add (a b : Int) : iI a + iI b = iI (a + b) := (Int32.ofInt_add a b).symm
theorem iI_sub (a b : Int) : iI a - iI b = iI (a - b) := (Int32.ofInt_sub a b).symm
theorem iI_mul (a b : Int) : iI a * iI b = iI (a * b) := (Int32.ofInt_mul a b).symm
theorem iI_neg (a : Int) : - iI a = iI (-a) := (Int32.ofInt_neg a).symm
theorem iI_lt {a b : Int} (ha : jr a) (hb : jr b) : iI a < iI b ↔ a < b := by
  rw [Int32.lt_iff_toInt_lt, iI_toInt ha, iI_toInt hb]
theorem iI_le {a b : Int} (ha : jr a) (hb : jr b) : iI a ≤ iI b ↔ a ≤ b := by
  rw [Int32.le_iff_toInt_le, iI_toInt ha, iI_toInt hb]
theorem iI_eq {a b : Int} (ha : jr a) (hb : jr b) : iI a = iI b ↔ a = b := by
  rw [← Int32.toInt_inj, iI_toInt ha, iI_toInt hb]
theorem jr_of (x : Int32) : jr x.toInt := ⟨by have := Int32.le_toInt x; omega, by have := Int32.toInt_lt x; omega⟩
theorem iI_nat {n : Nat} : iI (n : Int) = nI n := by
  show Int32.ofInt (n : Int) = Int32.ofNat n
  exact Int32.ofInt_eq_ofNat
theorem jr_nat {n : Nat} (h : n < 2 ^ 31) : jr (n : Int) := ⟨by omega, by omega⟩
theorem iI_neg_not {a : Int} (ha : jr a) (h : 0 ≤ a) : ¬ iI a < 0 := by
  have h0 : (0 : Int32) = iI 0 := rfl
  rw [h0, iI_lt ha ⟨by omega, by omega⟩]
  omega
theorem iI_clamp {a : Int} (ha : jr a) (h : 0 ≤ a) : (iI a).toNatClampNeg = a.toNat := by
  show (iI a).toInt.toNat = a.toNat
  rw [iI_toInt ha]
-- the cells
def jcn : FieldType → String
  | .object C => C
  | t => t.toString
def jRA (U : State) (cA : ClassId) (ty : FieldType) : Prop := ∃ (kA : Class) (comp : ClassId) (kc : Class), U.vm.classes[cA]? = some kA ∧ kA.kind = .array comp ty ∧ U.vm.findClass (jcn ty) = some comp ∧ U.vm.classes[comp]? = some kc
theorem jRA.moved {u U : State} (hvm : u.vm.Alike U.vm) {cA : ClassId} {ty : FieldType} (h : jRA u cA ty) : jRA U cA ty := by
  obtain ⟨kA, comp, kc, h1, h2, h3, h4⟩ := h
  obtain ⟨k', hk', he⟩ := hvm.2.2 _ _ h1
  obtain ⟨k2, hk2, -⟩ := hvm.2.2 _ _ h4
  exact ⟨k', comp, k2, hk', by rw [he]; exact h2, by rw [hvm.findClass]; exact h3, hk2⟩
def jat (U : State) (q : Nat) (e : jE) (H : Heap) : Prop := match e with
  | .inl o => ∃ (r : vw_C) (cC : ClassId) (iS : Nat → Nat), jcl[o.1]? = some r ∧ u_Kn U r.1 r.2.1 r.2.2 cC iS ∧ t_OB q cC r.2.2 iS H (vp_V (o.2.map jv)) ∧ o.2.length = r.2.2
  | .inr (.inl a) => ((∃ cA : ClassId, H[q]? = some (vp_cell cA (a.2.length, .inl (fun j => iI (a.2.getD j 0)))) ∧ ArrOfT U cA a.1) ∨ (a.2 = [] ∧ ∃ cell : Cell, H[q]? = some cell ∧ U.isArrayOf cell a.1 ∧ cell.vm ≠ .unknown ∧ cell.slots.size = 0)) ∧ ∀ x ∈ a.2, jr x
  | .inr (.inr a) => ∃ cA : ClassId, H[q]? = some (vp_cell cA (a.2.length, .inr (.inr (.inr (.inr (fun j => a.2.getD j none)))))) ∧ ArrOfT U cA a.1 ∧ jRA U cA a.1
theorem jat.moved {u U : State} (hvm : u.vm.Alike U.vm) {q : Nat} {e : jE} {H : Heap} (h : jat u q e H) : jat U q e H := by
  rcases e with o | a | a
  · obtain ⟨r, cC, iS, h1, h2, h3⟩ := h
    exact ⟨r, cC, iS, h1, u_Kn_moved hvm h2, h3⟩
  · obtain ⟨h, hj⟩ := h
    refine ⟨?_, hj⟩
    rcases h with ⟨cA, h1, h2⟩ | ⟨h0, cell, h1, h2, h3⟩
    · exact Or.inl ⟨cA, h1, arrOfT_moved hvm h2⟩
    · exact Or.inr ⟨h0, cell, h1, State.isArrayOf_alike hvm h2, h3⟩
  · obtain ⟨cA, h1, h2, h3⟩ := h
    exact ⟨cA, h1, arrOfT_moved hvm h2, h3.moved hvm⟩
theorem jat.kept {U : State} {q : Nat} {e : jE} {H H1 : Heap} (h : jat U q e H) (hq : H1[q]? = H[q]?) : jat U q e H1 := by
  rcases e with o | a | a
  · obtain ⟨r, cC, iS, h1, h2, h3, h4⟩ := h
    exact ⟨r, cC, iS, h1, h2, h3.kept hq, h4⟩
  · obtain ⟨h, hj⟩ := h
    refine ⟨?_, hj⟩
    rcases h with ⟨cA, h1, h2⟩ | ⟨h0, cell, h1, h2⟩
    · exact Or.inl ⟨cA, hq.trans h1, h2⟩
    · exact Or.inr ⟨h0, cell, hq.trans h1, h2⟩
  · obtain ⟨cA, h1, h2⟩ := h
    exact ⟨cA, hq.trans h1, h2⟩
theorem jat.lt {U : State} {q : Nat} {e : jE} {H : Heap} (h : jat U q e H) : q < H.size := by
  rcases e with o | a | a
  · obtain ⟨r, cC, iS, h1, h2, ⟨cell, h3, -⟩, h4⟩ := h
    exact (Array.getElem?_eq_some_iff.mp h3).1
  · obtain ⟨h, hj⟩ := h
    rcases h with ⟨cA, h1, h2⟩ | ⟨h0, cell, h1, h2⟩
    · exact (Array.getElem?_eq_some_iff.mp h1).1
    · exact (Array.getElem?_eq_some_iff.mp h1).1
  · obtain ⟨cA, h1, h2⟩ := h
    exact (Array.getElem?_eq_some_iff.mp h1).1
def jhv (U : State) (M : jM) (H : Heap) : Prop := ∀ (q : Nat) (e : jE), M q = some e → jat U q e H
theorem jhv.moved {u U : State} (hvm : u.vm.Alike U.vm) {M : jM} {H : Heap} (h : jhv u M H) : jhv U M H := fun q e hq => (h q e hq).moved hvm
theorem jhv.put {U : State} {M : jM} {H H1 : Heap} {a : Nat} {e : jE} (h : jhv U M H) (ha : jat U a e H1) (oq : ∀ q : Nat, q ≠ a → H1[q]? = H[q]?) : jhv U (jup M a e) H1 := by
  intro q e' hq
  by_cases hqa : q = a
  · subst hqa
    rw [jup_s] at hq
    cases hq
    exact ha
  · rw [jup_n hqa] at hq
    exact (h q e' hq).kept (oq q hqa)
theorem jhv.push {U : State} {M : jM} {H H1 : Heap} {e : jE} (h : jhv U M H) (ha : jat U H.size e H1) (oq : ∀ q : Nat, q < H.size → H1[q]? = H[q]?) : jhv U (jup M H.size e) H1 := by
  intro q e' hq
  by_cases hqa : q = H.size
  · subst hqa
    rw [jup_s] at hq
    cases hq
    exact ha
  · rw [jup_n hqa] at hq
    exact (h q e' hq).kept (oq q (h q e' hq).lt)
theorem jhv.fresh {U : State} {M : jM} {H : Heap} (h : jhv U M H) : M H.size = none := by
  cases hq : M H.size with
  | none => rfl
  | some e => exact absurd (h _ _ hq).lt (Nat.lt_irrefl _)
-- the tables' words that every method takes with it
def jg : List Cond := lw_tbl.filter goodWord
theorem jg_in {w : Cond} (h : w ∈ lw_tbl) (hg : goodWord w = true) : w ∈ jg := List.mem_filter.mpr ⟨h, hg⟩
theorem jg_ok (w : Cond) (h : w ∈ jg) : goodWord w = true := (List.mem_filter.mp h).2
theorem jg_good {y : MethodName} {cc : ByteArray} {maxL : Nat} {ret : Option FieldType} (h : Cond.code y cc maxL ret ∈ jg) : GoodIn jg (Cond.code y cc maxL ret :: jg) := fun w hw => by
  rcases List.mem_cons.mp hw with e | h1
  · subst e
    exact ⟨h, good_of_word (jg_ok _ h)⟩
  · exact ⟨h1, good_of_word (jg_ok _ h1)⟩
def jnk : Cond → Bool
  | .fieldLinkNest .. => true
  | .methodLinkNest .. => true
  | .castable .. => true
  | .declares _ => true
  | _ => false
def jA (sz0 : Nat) : Nat → Prop := fun q => sz0 ≤ q
/-- what of the start no method changes, beside the words -/
def jI (sz0 : Nat) (U : State) (H : Heap) : Prop :=
  (∀ w ∈ lw_tbl, jnk w = true → va_Nw w U) ∧ (∀ C : String, Cond.arrayOver (.object C) ∈ lw_tbl → va_AO C U) ∧
  (∀ (own : String) (k : Nat) (tx : String), Cond.stringRef own k tx ∈ lw_tbl → ∃ sa : Nat, vk_R own k tx sa U) ∧
  vx_Zq Bundle.tN "UNASSIGNED_STACK" Bundle.steD (jA sz0) U H ∧ vx_Zq Bundle.tN "SUPPRESSED_SENTINEL" Bundle.listD (jA sz0) U H
theorem jI.kept {sz0 : Nat} {u U : State} {H H1 : Heap} (h : jI sz0 u H) (hW : u.WarmedH U.vm) (hq : ∀ a : Nat, a < H.size → ¬ jA sz0 a → H1[a]? = H[a]?) : jI sz0 U H1 := by
  obtain ⟨h1, h2, h3, h4, h5⟩ := h
  refine ⟨fun w hw hk => ?_, fun C hC => (h2 C hC).moved hW.alike, fun own k tx hx => ?_, (vx_Zq.moved hW.alike h4).kept hq, (vx_Zq.moved hW.alike h5).kept hq⟩
  · have h9 := h1 w hw hk
    cases w <;> first | (simp [jnk] at hk; done) | exact h9.warmF hW | exact va_Nw.warmF hW h9 | exact va_Nw.warmM hW h9 | exact va_Nw.warmC hW h9 | exact va_Nw.warmD hW h9
  · obtain ⟨sa, h9⟩ := h3 own k tx hx
    exact ⟨sa, h9.warm hW⟩
