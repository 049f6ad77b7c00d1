/-! rows of our own over the kit's: one context (xE), one world (xW), contracts whose outcome is given (xC) -/
/-- the tables' words that a contract may carry -/
def x_tbl : List Cond := lw_tbl.filter goodWord
theorem x_good_tbl : x_tbl.all goodWord = true := List.all_eq_true.mpr (fun _ h => (List.mem_filter.mp h).2)
theorem x_tm {i : Nat} {w : Cond} (h : lw_tbl[i]? = some w) (hg : goodWord w = true) : w ∈ x_tbl := List.mem_filter.mpr ⟨List.mem_of_getElem? h, hg⟩
abbrev xG : Type := va_G × (ClassId × ClassId × ClassId) × ((Nat → Nat) × (Nat → Nat))
abbrev x_tys (G : xG) : List (ClassId × FieldType) := [(G.2.1.1, .int), (G.2.1.2.1, .long), (G.2.1.2.2, .byte)]
def x_len : List Nat := [5, 6, 6, 6, 5, 3, 6, 5]
def x_byt : List (List Int32) := [[102, 108, 101, 101, 116], [32, 99, 108, 97, 115, 115], [32, 121, 101, 97, 114, 115], [32, 115, 104, 97, 114, 101], [32, 114, 97, 116, 101], [99, 97, 112], [115, 116, 101, 97, 100, 121], [99, 108, 97, 105, 109]]
/-- what holds of the constants: the texts, two statics of the library; none of them is a cell of the world -/
def xS (G : xG) (A : Nat → Prop) (U : State) (H : Heap) : Prop :=
  vk_S 8 x_len x_byt G.2.2.1 G.2.2.2 A U H ∧ (vk_R RX7 298 "fleet" (G.2.2.1 0) U ∧ vk_R RX7 304 " class" (G.2.2.1 1) U ∧ vk_R RX7 306 " years" (G.2.2.1 2) U ∧ vk_R RX7 308 " share" (G.2.2.1 3) U ∧ vk_R RX7 310 " rate" (G.2.2.1 4) U ∧ vk_R RX7 321 "cap" (G.2.2.1 5) U ∧ vk_R RX7 322 "steady" (G.2.2.1 6) U ∧ vk_R RX7 345 "claim" (G.2.2.1 7) U ∧ vk_R RX6 67 "cap" (G.2.2.1 5) U ∧ vk_R RX6 72 "steady" (G.2.2.1 6) U ∧ vk_R RX6 73 "fleet" (G.2.2.1 0) U ∧ vk_R RX6 78 "claim" (G.2.2.1 7) U) ∧
  va_Z "java/lang/String" "COMPACT_STRINGS" "Z" (.int 1) A U H ∧ va_Zq "jdk/internal/util/Preconditions" "SIOOBE_FORMATTER" "Ljava/util/function/BiFunction;" A U H ∧ va_Nw (.methodLinkNest RX0 44 yX7_isYear "FleetShares") U ∧ va_Nw (.methodLinkNest RX1 152 yX7_isYear "FleetShares") U ∧ va_Nw (.methodLinkNest RX4 11 yX5_init "FleetShares") U ∧ va_Nw (.methodLinkNest RX1 45 yX5_init "FleetShares") U ∧ va_Nw (.methodLinkNest RX7 42 yX3_init "FleetShares") U ∧ va_Nw (.methodLinkNest RX7 49 yX5_init "FleetShares") U
def xE (p : Program) (s : State) (m : MethodId) (args : Array Value) (c : Code) (cc : ByteArray) (nL : Nat) (own : String) (G : xG) (A : Nat → Prop) : Prop :=
  p.tables.exec = Jvm.exec ∧ c.code = cc ∧ c.maxLocals = nL ∧ s.vm.findClass own = some m.cls ∧ (∀ w ∈ x_tbl, w.before args s = true) ∧ va_K G.1 vwCl (x_tys G) s ∧ xS G A s s.heap
def xW (G : xG) (A : Nat → Prop) (H0 : Heap) (ws : va_W) (H : Heap) (locs : List Loc) : Prop := va_P G.1 vwCl ws H ∧ va_D A ws ∧ va_S A H0 H locs
def x_in (ws : va_W) : Nat → Prop := fun q => ∃ (k : Nat) (e : va_E), ws[k]? = some (q, e)
def xQ (G : xG) (ws ws' : va_W) (o : Option Value) : Array Value → State → Outcome → State → Prop := fun _ st oc t => oc = .returned o ∧ va_P G.1 vwCl ws' t.heap ∧ va_F (x_in ws) st t
def xP (G : xG) (ws : va_W) (av : List Value) : Array Value → State → Prop := va_Pc av (fun U => va_P G.1 vwCl ws U.heap ∧ va_K G.1 vwCl (x_tys G) U ∧ va_D (fun _ => True) ws ∧ xS G (x_in ws) U U.heap)
def xC (l : Launch) (y : MethodName) (cc : ByteArray) (n : Nat) (ret : Option FieldType) (rm : Room) (G : xG) (av : List Value) (ws : va_W) (o : Option Value) (ws' : va_W) : Prop :=
  Met l y (.code y cc n ret :: x_tbl) rm (xP G ws av) (xQ G ws ws' o) 0 0 (x_in ws) ∧ ws'.map Prod.fst = ws.map Prod.fst
def x_at (ws : va_W) : List Nat → va_W → Prop
  | [], [] => True
  | i :: is, c :: cs => ws[i]? = some c ∧ x_at ws is cs
  | _, _ => False
def x_same (ws' ws : va_W) : List Nat → Prop
  | [] => True
  | i :: is => (∃ c, ws'[i]? = some c ∧ ws[i]? = some c) ∧ x_same ws' ws is
theorem x_at_map {ws : va_W} : ∀ {is : List Nat} {wc : va_W}, x_at ws is wc → is.map (fun i => ws[i]?) = wc.map some
  | [], [], _ => rfl
  | i :: is, c :: cs, h => by
    rw [List.map_cons, List.map_cons, h.1, x_at_map h.2]
  | [], _ :: _, h => h.elim
  | _ :: _, [], h => h.elim
theorem x_same_at {ws' ws : va_W} : ∀ {is : List Nat}, x_same ws' ws is → ∀ k ∈ is, ∃ c, ws'[k]? = some c ∧ ws[k]? = some c
  | [], _, k, hk => by cases hk
  | i :: is, h, k, hk => by
    rcases List.mem_cons.mp hk with rfl | h2
    · exact h.1
    · exact x_same_at h.2 k h2
theorem xS.warm {G : xG} {A B : Nat → Prop} {s U : State} {H : Heap} {locs : List Loc} (h : xS G A s s.heap) (hW : s.WarmedH U.vm) (hU : U.heap = H) (hS : va_S A s.heap H locs) (hB : ∀ q, B q → A q) : xS G B U U.heap := by
  obtain ⟨h1, ⟨r0, r1, r2, r3, r4, r5, r6, r7, r8, r9, r10, r11⟩, h3, h4, h5, h6, h7, h8, h9, h10⟩ := h
  have hq : ∀ a : Nat, a < s.heap.size → ¬ A a → U.heap[a]? = s.heap[a]? := fun a ha hn => by rw [hU]; exact hS.2.1 a ha hn
  exact ⟨((h1.kept hq).moved hW.alike).narrow hB, ⟨r0.warm hW, r1.warm hW, r2.warm hW, r3.warm hW, r4.warm hW, r5.warm hW, r6.warm hW, r7.warm hW, r8.warm hW, r9.warm hW, r10.warm hW, r11.warm hW⟩, ((h3.kept hq).moved hW.alike).narrow hB, ((h4.kept hq).moved hW.alike).narrow hB, h5.warmM hW, h6.warmM hW, h7.warmM hW, h8.warmM hW, h9.warmM hW, h10.warmM hW⟩
theorem xS.calling {G : xG} {A : Nat → Prop} {U U1 : State} (hv : U1.vm = U.vm) (hh : U1.heap = U.heap) (h : xS G A U U.heap) : xS G A U1 U1.heap := by
  obtain ⟨h1, ⟨r0, r1, r2, r3, r4, r5, r6, r7, r8, r9, r10, r11⟩, h3, h4, h5, h6, h7, h8, h9, h10⟩ := h
  have ha : U.vm.Alike U1.vm := by rw [hv]; exact Vm.Alike.refl U.vm
  rw [hh]
  exact ⟨h1.moved ha, ⟨r0.same hv, r1.same hv, r2.same hv, r3.same hv, r4.same hv, r5.same hv, r6.same hv, r7.same hv, r8.same hv, r9.same hv, r10.same hv, r11.same hv⟩, h3.moved ha, h4.moved ha, h5.same rfl hv.symm, h6.same rfl hv.symm, h7.same rfl hv.symm, h8.same rfl hv.symm, h9.same rfl hv.symm, h10.same rfl hv.symm⟩
theorem x_good {y : MethodName} {cc : ByteArray} {n : Nat} {ret : Option FieldType} (h : Cond.code y cc n ret ∈ x_tbl) : GoodIn x_tbl (.code y cc n ret :: x_tbl) := by
  intro w hw
  have hm : w ∈ x_tbl := by
    rcases List.mem_cons.mp hw with rfl | h2
    · exact h
    · exact h2
  exact ⟨hm, good_of_word (List.all_eq_true.mp x_good_tbl w hm)⟩
theorem x_goodV {own : String} {idx : Nat} {C : String} {y : MethodName} {cc : ByteArray} {n : Nat} {ret : Option FieldType} (h : Cond.code y cc n ret ∈ x_tbl) (h1 : Cond.methodLink own idx y ∈ x_tbl) (h2 : Cond.instanceMethod y ∈ x_tbl) (h3 : Cond.selects C y y ∈ x_tbl) (h4 : Cond.initialized C ∈ x_tbl) : GoodIn x_tbl (wsV own idx C y (.code y cc n ret :: x_tbl)) := by
  intro w hw
  have hm : w ∈ x_tbl := by
    unfold wsV at hw
    rcases List.mem_append.mp hw with h5 | h5
    · simp only [List.mem_cons, List.not_mem_nil, or_false] at h5
      rcases h5 with rfl | rfl | rfl | rfl <;> assumption
    · exact (x_good h w h5).1
  exact ⟨hm, good_of_word (List.all_eq_true.mp x_good_tbl w hm)⟩
theorem x_goodS {own : String} {idx : Nat} {y : MethodName} {cc : ByteArray} {n : Nat} {ret : Option FieldType} (h : Cond.code y cc n ret ∈ x_tbl) (h1 : Cond.methodLink own idx y ∈ x_tbl) (h2 : Cond.static y ∈ x_tbl) (h4 : Cond.initialized own ∈ x_tbl) : GoodIn x_tbl (wsS own idx y (.code y cc n ret :: x_tbl)) := by
  intro w hw
  have hm : w ∈ x_tbl := by
    unfold wsS at hw
    rcases List.mem_append.mp hw with h5 | h5
    · simp only [List.mem_cons, List.not_mem_nil, or_false] at h5
      rcases h5 with rfl | rfl | rfl <;> assumption
    · exact (x_good h w h5).1
  exact ⟨hm, good_of_word (List.all_eq_true.mp x_good_tbl w hm)⟩
theorem x_map_at {α β : Type} {is : List Nat} {f : Nat → Option α} {w : List α} (hs : is.map f = w.map some) {j k : Nat} (hj : is[j]? = some k) : ∃ q, w[j]? = some q ∧ f k = some q := by
  have h1 : (is.map f)[j]? = some (f k) := by rw [List.getElem?_map, hj]; rfl
  rw [hs, List.getElem?_map] at h1
  cases hq : w[j]? with
  | none => rw [hq] at h1; cases h1
  | some q => rw [hq] at h1; exact ⟨q, rfl, (Option.some.inj h1).symm⟩
theorem x_map_at2 {α : Type} {is : List Nat} {f : Nat → Option α} {w : List α} (hs : is.map f = w.map some) {j : Nat} {q : α} (hj : w[j]? = some q) : ∃ k, is[j]? = some k ∧ f k = some q := by
  have h1 : (is.map f)[j]? = some (some q) := by rw [hs, List.getElem?_map, hj]; rfl
  rw [List.getElem?_map] at h1
  cases hi : is[j]? with
  | none => rw [hi] at h1; cases h1
  | some i => rw [hi] at h1; exact ⟨i, rfl, Option.some.inj h1⟩
theorem x_D_same {A : Nat → Prop} {ws ws' : va_W} (hD : va_D A ws) (h : ws'.map Prod.fst = ws.map Prod.fst) : va_D A ws' := by
  have key : ∀ (k : Nat) (q : Nat × va_E), ws'[k]? = some q → ∃ q2, ws[k]? = some q2 ∧ q2.1 = q.1 := by
    intro k q hq
    have h1 : (ws'.map Prod.fst)[k]? = some q.1 := by rw [List.getElem?_map, hq]; rfl
    rw [h, List.getElem?_map] at h1
    cases h2 : ws[k]? with
    | none => rw [h2] at h1; cases h1
    | some q2 => rw [h2] at h1; exact ⟨q2, rfl, Option.some.inj h1⟩
  refine ⟨fun i j x y hx hy hxy => ?_, fun k q hq => ?_⟩
  · obtain ⟨x2, a1, b1⟩ := key i x hx
    obtain ⟨y2, a2, b2⟩ := key j y hy
    exact hD.1 i j x2 y2 a1 a2 (by rw [b1, b2, hxy])
  · obtain ⟨x2, a1, b1⟩ := key k q hq
    rw [← b1]
    exact hD.2 k x2 a1
theorem x_D_self {A : Nat → Prop} {ws : va_W} (hD : va_D A ws) : va_D (x_in ws) ws := ⟨hD.1, fun k q hq => ⟨k, q.2, hq⟩⟩
theorem x_K_call {G : xG} {ws : va_W} {av : List Value} : FrameBlind (xP G ws av) := fun a U g mk q => by
  obtain ⟨q0, qP, qK, qD, qS⟩ := q
  exact ⟨q0, qP, va_K.moved (u := U) (U := U.calling g mk a) (Vm.Alike.refl U.vm) qK, qD, qS.calling rfl rfl⟩
/-! partial functions: reading and writing rows, dividing, loops with fuel -/
theorem x_bind {α β : Type} {o : Option α} {k : α → Option β} {z : β} (h : o.bind k = some z) : ∃ q, o = some q ∧ k q = some z := by
  cases o with
  | none => cases h
  | some q => exact ⟨q, rfl, h⟩
theorem x_pos {α : Type} {c : Prop} {d : Decidable c} {a b z : α} (q : c) (h : (@ite α c d a b) = z) : a = z := by rw [if_pos q] at h; exact h
theorem x_neg {α : Type} {c : Prop} {d : Decidable c} {a b z : α} (q : ¬ c) (h : (@ite α c d a b) = z) : b = z := by rw [if_neg q] at h; exact h
def x_ok (i : Int32) (n : Nat) : Bool := decide (¬ (i < 0 ∨ n ≤ i.toNatClampNeg))
def x_rd {α : Type} (n : Nat) (f : Nat → α) (i : Int32) : Option α := if x_ok i n = true then some (f i.toNatClampNeg) else none
def x_wr (n : Nat) (f : Nat → Int32) (i x : Int32) : Option (Nat → Int32) := if x_ok i n = true then some (upd f i.toNatClampNeg x) else none
def x_wrb (n : Nat) (f : Nat → Int32) (i x : Int32) : Option (Nat → Int32) := if x_ok i n = true then some (upd f i.toNatClampNeg (vp_nar .byte x)) else none
def x_wrl (n : Nat) (f : Nat → Int64) (i : Int32) (x : Int64) : Option (Nat → Int64) := if x_ok i n = true then some (vp_updL f i.toNatClampNeg x) else none
def x_zb (v : Int32) : Option Int32 := if v = 0 ∨ v = 1 then some v else none
def x_nz (v : Int32) : Option Unit := if v = 0 then none else some ()
def x_nzl (v : Int64) : Option Unit := if v = 0 then none else some ()
def x_cp (n0 n1 : Nat) (f g : Nat → Int32) (sp dp n : Int32) : Option (Nat → Int32) := if ¬ sp < 0 ∧ ¬ dp < 0 ∧ ¬ n < 0 ∧ sp.toNatClampNeg + n.toNatClampNeg ≤ n0 ∧ dp.toNatClampNeg + n.toNatClampNeg ≤ n1 then some (va_cpy f g sp.toNatClampNeg dp.toNatClampNeg n.toNatClampNeg) else none
def x_loop {σ ρ : Type} (body : (σ → Option ρ) → σ → Option ρ) : Nat → σ → Option ρ
  | 0, _ => none
  | n + 1, s => body (x_loop body n) s
theorem x_loop_W {σ ρ : Type} {body : (σ → Option ρ) → σ → Option ρ} {P : σ → ρ → Prop} (hb : ∀ k : σ → Option ρ, (∀ s r, k s = some r → P s r) → ∀ s r, body k s = some r → P s r) : ∀ (n : Nat) (s : σ) (r : ρ), x_loop body n s = some r → P s r := by
  intro n
  induction n with
  | zero => intro s r h; cases h
  | succ n ih => intro s r h; exact hb (x_loop body n) ih s r h
theorem FU_ex : ∃ n : Nat, 100000 ≤ n := ⟨100000, Nat.le_refl _⟩
noncomputable def FU : Nat := Classical.choose FU_ex
theorem FU_ge : 100000 ≤ FU := Classical.choose_spec FU_ex
theorem x_ok_in {i : Int32} {n : Nat} (h : x_ok i n = true) : vp_in i n := of_decide_eq_true (p := ¬ (i < 0 ∨ n ≤ i.toNatClampNeg)) h
theorem x_rd_some {α : Type} {n : Nat} {f : Nat → α} {i : Int32} {v : α} (h : x_rd n f i = some v) : vp_in i n ∧ f i.toNatClampNeg = v := by
  unfold x_rd at h
  split at h
  · rename_i q; exact ⟨x_ok_in q, Option.some.inj h⟩
  · cases h
theorem x_wr_some {n : Nat} {f g : Nat → Int32} {i x : Int32} (h : x_wr n f i x = some g) : vp_in i n ∧ upd f i.toNatClampNeg x = g := by
  unfold x_wr at h
  split at h
  · rename_i q; exact ⟨x_ok_in q, Option.some.inj h⟩
  · cases h
theorem x_wrb_some {n : Nat} {f g : Nat → Int32} {i x : Int32} (h : x_wrb n f i x = some g) : vp_in i n ∧ upd f i.toNatClampNeg (vp_nar .byte x) = g := by
  unfold x_wrb at h
  split at h
  · rename_i q; exact ⟨x_ok_in q, Option.some.inj h⟩
  · cases h
theorem x_wrl_some {n : Nat} {f g : Nat → Int64} {i : Int32} {x : Int64} (h : x_wrl n f i x = some g) : vp_in i n ∧ vp_updL f i.toNatClampNeg x = g := by
  unfold x_wrl at h
  split at h
  · rename_i q; exact ⟨x_ok_in q, Option.some.inj h⟩
  · cases h
theorem x_nz_some {v : Int32} {u : Unit} (h : x_nz v = some u) : ¬ v = 0 := fun q => by unfold x_nz at h; rw [if_pos q] at h; cases h
theorem x_nzl_some {v : Int64} {u : Unit} (h : x_nzl v = some u) : ¬ v = 0 := fun q => by unfold x_nzl at h; rw [if_pos q] at h; cases h
theorem x_zb_some {v r : Int32} (h : x_zb v = some r) : narrow .boolean (.int v) = .int v ∧ v = r := by
  unfold x_zb at h
  split at h
  · rename_i q
    refine ⟨?_, Option.some.inj h⟩
    rcases q with rfl | rfl <;> decide
  · cases h
theorem x_cp_some {n0 n1 : Nat} {f g r : Nat → Int32} {sp dp n : Int32} (h : x_cp n0 n1 f g sp dp n = some r) : (¬ sp < 0 ∧ ¬ dp < 0 ∧ ¬ n < 0 ∧ sp.toNatClampNeg + n.toNatClampNeg ≤ n0 ∧ dp.toNatClampNeg + n.toNatClampNeg ≤ n1) ∧ va_cpy f g sp.toNatClampNeg dp.toNatClampNeg n.toNatClampNeg = r := by
  unfold x_cp at h
  split at h
  · rename_i q; exact ⟨q, Option.some.inj h⟩
  · cases h
section XR
variable {p : Program} {l : Launch} {e : Env} {R : Room} {s : State} {m : MethodId} {args : Array Value} {below : List Frame} {meth : Method} {c : Code} {H : Heap} {locs : List Loc} {Q : State → Prop} {G : xG} {A : Nat → Prop} {ws ws' wc wc' : va_W} {cc : ByteArray} {nL pc : Nat} {ls : Array Slot} {rest st0 : List Value} {own : String} {o : Option Value} {a : Nat} {cells slots : Nat}
theorem x_run {av : Array Value} {nw : Nat} (hr : va_Run p l e R s m args below meth c H locs cells slots 0 0 (F0 m pc ls st0) rest (xQ G wc wc' o av) (x_in wc)) (hw : xW G A s.heap ws H locs) (isC isR : List Nat)
    (hC0 : x_at ws isC wc) (hN0 : x_at ws' isC wc') (hR : x_same ws' ws isR) (hl1 : ws'.length = nw) (hl2 : ws.length = nw) (hcov : (List.range nw).all (fun k => isC.contains k || isR.contains k) = true) (hdis : isR.all (fun k => !isC.contains k) = true) (hf0 : wc'.map Prod.fst = wc.map Prod.fst)
    (kk : ∀ (H1 : Heap) (locs1 : List Loc), xW G A s.heap ws' H1 locs1 → W p l e R s m args below meth c H1 locs1 cells slots Q (F0 m (pc + 3) ls (o.toList ++ rest))) : W p l e R s m args below meth c H locs cells slots Q (F0 m pc ls st0) := by
  have hC := x_at_map hC0
  have hN := x_at_map hN0
  obtain ⟨hP, hD, hS⟩ := hw
  intro T hT X
  obtain ⟨v, st₀, t, T', L, h0, X', hL, e1, e2, ⟨hv, hP1, hz, hk⟩, st⟩ := hr T hT X
  cases hv
  rw [h0] at hz hk
  have hin : ∀ q, x_in wc q → A q := by
    intro q ⟨j, en, hj⟩
    obtain ⟨k, -, hk2⟩ := x_map_at2 hC hj
    exact hD.2 k _ hk2
  have hcase : ∀ (k : Nat) (q : Nat × va_E), ws'[k]? = some q → (∃ (j : Nat) (q2 : Nat × va_E), isC[j]? = some k ∧ wc'[j]? = some q ∧ wc[j]? = some q2 ∧ ws[k]? = some q2 ∧ q2.1 = q.1) ∨ (ws[k]? = some q ∧ ¬ k ∈ isC) := by
    intro k q hq
    have hlt : k < nw := by rw [← hl1]; exact (List.getElem?_eq_some_iff.mp hq).1
    have hc := List.all_eq_true.mp hcov k (List.mem_range.mpr hlt)
    by_cases hkc : isC.contains k = true
    · left
      obtain ⟨j, hj⟩ := List.getElem?_of_mem (List.contains_iff_mem.mp hkc)
      obtain ⟨q2, h2, h3⟩ := x_map_at (β := Nat) hN hj
      obtain ⟨q3, h4, h5⟩ := x_map_at (β := Nat) hC hj
      rw [hq] at h3
      cases h3
      have h6 : (wc'.map Prod.fst)[j]? = (wc.map Prod.fst)[j]? := by rw [hf0]
      rw [List.getElem?_map, List.getElem?_map, h2, h4] at h6
      exact ⟨j, q3, hj, h2, h4, h5, (Option.some.inj h6).symm⟩
    · right
      have hkr : isR.contains k = true := by
        simp only [Bool.or_eq_true] at hc
        exact hc.resolve_left hkc
      obtain ⟨c1, h1, h2⟩ := x_same_at hR k (List.contains_iff_mem.mp hkr)
      rw [hq] at h1
      cases h1
      exact ⟨h2, fun hm => hkc (List.contains_iff_mem.mpr hm)⟩
  have hPn : va_P G.1 vwCl ws' T'.heap := by
    intro k q hq
    rw [e1]
    rcases hcase k q hq with ⟨j, q2, h1, h2, h3, h4, h5⟩ | ⟨h1, h2⟩
    · exact hP1 j q h2
    · have hat := hP k q h1
      refine hat.kept (hk q.1 hat.lt ?_)
      rintro ⟨j2, en, hj2⟩
      obtain ⟨k2, h5, h6⟩ := x_map_at2 hC hj2
      have := hD.1 k k2 q (q.1, en) h1 h6 rfl
      subst this
      exact h2 (List.mem_of_getElem? h5)
  have key : ∀ (k : Nat) (q : Nat × va_E), ws'[k]? = some q → ∃ q2, ws[k]? = some q2 ∧ q2.1 = q.1 := by
    intro k q hq
    rcases hcase k q hq with ⟨j, q2, h1, h2, h3, h4, h5⟩ | ⟨h1, h2⟩
    · exact ⟨q2, h4, h5⟩
    · exact ⟨q, h1, rfl⟩
  have hDn : va_D A ws' := by
    refine ⟨fun i j x y hx hy hxy => ?_, fun k q hq => ?_⟩
    · obtain ⟨x2, a1, b1⟩ := key i x hx
      obtain ⟨y2, a2, b2⟩ := key j y hy
      exact hD.1 i j x2 y2 a1 a2 (by rw [b1, b2, hxy])
    · obtain ⟨x2, a1, b1⟩ := key k q hq
      rw [← b1]
      exact hD.2 k x2 a1
  obtain ⟨t2, a1, b1⟩ := kk T'.heap (locs ++ L) ⟨hPn, hDn, ⟨Nat.le_trans hS.1 (by rw [e1]; exact hz), fun q h1 h2 => by rw [e1, hk q (Nat.lt_of_lt_of_le h1 hS.1) (fun z => h2 (hin q z))]; exact hS.2.1 q h1 h2, fun q hq => by
      rcases List.mem_append.mp hq with h | h
      · exact hS.2.2 q h
      · exact hin _ (hL q h)⟩⟩ T' rfl X'
  exact ⟨t2, st t2 a1, b1⟩
/-- a call whose world is the caller's whole world -/
theorem x_runA {av : Array Value} (hr : va_Run p l e R s m args below meth c H locs cells slots 0 0 (F0 m pc ls st0) rest (xQ G ws ws' o av) (x_in ws)) (hw : xW G A s.heap ws H locs) (hfst : ws'.map Prod.fst = ws.map Prod.fst)
    (kk : ∀ (H1 : Heap) (locs1 : List Loc), xW G A s.heap ws' H1 locs1 → W p l e R s m args below meth c H1 locs1 cells slots Q (F0 m (pc + 3) ls (o.toList ++ rest))) : W p l e R s m args below meth c H locs cells slots Q (F0 m pc ls st0) := by
  obtain ⟨hP, hD, hS⟩ := hw
  intro T hT X
  obtain ⟨v, st₀, t, T', L, h0, X', hL, e1, e2, ⟨hv, hP1, hz, hk⟩, st⟩ := hr T hT X
  cases hv
  rw [h0] at hz hk
  have hin : ∀ q, x_in ws q → A q := fun q ⟨j, en, hj⟩ => hD.2 j _ hj
  obtain ⟨t2, a1, b1⟩ := kk T'.heap (locs ++ L) ⟨by rw [e1]; exact hP1, x_D_same hD hfst, ⟨Nat.le_trans hS.1 (by rw [e1]; exact hz), fun q h1 h2 => by rw [e1, hk q (Nat.lt_of_lt_of_le h1 hS.1) (fun z => h2 (hin q z))]; exact hS.2.1 q h1 h2, fun q hq => by
      rcases List.mem_append.mp hq with h | h
      · exact hS.2.2 q h
      · exact hin _ (hL q h)⟩⟩ T' rfl X'
  exact ⟨t2, st t2 a1, b1⟩
theorem x_preS {av : List Value} (E : xE p s m args c cc nL own G A) (hw : xW G A s.heap ws H locs) (isC : List Nat) (hnd : va_nd isC = true) (hC : isC.map (fun i => ws[i]?) = wc.map some) : PreS s H (xP G wc av) av := by
  obtain ⟨-, -, -, -, -, hK, hT⟩ := E
  have hin : ∀ q, x_in wc q → A q := by
    intro q ⟨j, en, hj⟩
    obtain ⟨k, -, hk2⟩ := x_map_at2 hC hj
    exact hw.2.1.2 k _ hk2
  refine ⟨x_K_call, fun U hU hW => ⟨rfl, ?_, va_K.moved hW.alike hK, (hw.2.1.sub isC hnd hC).weaken (fun _ _ _ _ => trivial), hT.warm hW hU hw.2.2 hin⟩⟩
  rw [hU]
  intro j q hj
  obtain ⟨k, -, h2⟩ := x_map_at2 hC hj
  exact hw.1 k q h2
theorem x_preSA {av : List Value} (E : xE p s m args c cc nL own G A) (hw : xW G A s.heap ws H locs) : PreS s H (xP G ws av) av := by
  obtain ⟨-, -, -, -, -, hK, hT⟩ := E
  have hin : ∀ q, x_in ws q → A q := fun q ⟨j, en, hj⟩ => hw.2.1.2 j _ hj
  refine ⟨x_K_call, fun U hU hW => ⟨rfl, ?_, va_K.moved hW.alike hK, hw.2.1.weaken (fun _ _ _ _ => trivial), hT.warm hW hU hw.2.2 hin⟩⟩
  rw [hU]
  exact hw.1
variable {y : MethodName} {bytes : ByteArray} {maxL n index : Nat} {ret : Option FieldType} {rm : Room} {C : String} {b : Addr} {As : List Value} {lv : List (Nat × Value)}
/-- invokevirtual, the callee's cells by their places; what comes back stands in ws' -/
theorem x_callV (E : xE p s m args c cc nL own G A) (hw : xW G A s.heap ws H locs) (hl : lv_has ls nL lv) (hM : xC l y bytes maxL ret rm G (.ref b :: As) wc o wc') (hG : GoodIn x_tbl (wsV own index C y (.code y bytes maxL ret :: x_tbl)))
    (hd : y.cls = C ∧ y.cls ≠ "java/lang/invoke/MethodHandle" ∧ y.cls ≠ "java/lang/invoke/VarHandle" ∧ (parseMethodDescriptor y.desc).map (fun d => d.parameters.length) = some n) (hr0 : rm.cells = 0) (hr1 : rm.slots = 0) (hRm : rm.frames + 1 ≤ R.frames ∧ 8 + (maxL + 11) + rm.locals ≤ R.locals)
    (isC isR : List Nat) (hnd : va_nd isC = true) (hC : x_at ws isC wc) {q0 ci : Nat} {fs : List Value} {T : u_T} {N : Nat} (hc0 : ws[q0]? = some (b, .inr (ci, fs))) (hcl : vwCl[ci]? = some (C, T, N)) (hn : As.length = n) (hst : st0 = As.reverse ++ .ref b :: rest) (hcat : 2 * 0 + (rest.map fun v => v.category).sum ≤ 8)
    {nw : Nat} (hN : x_at ws' isC wc') (hR : x_same ws' ws isR) (hl1 : ws'.length = nw) (hl2 : ws.length = nw) (hcov : (List.range nw).all (fun k => isC.contains k || isR.contains k) = true) (hdis : isR.all (fun k => !isC.contains k) = true)
    {st1 : List Value} (hst1 : o.toList ++ rest = st1) (hdg : decode cc pc = .ok (.invokevirtual index, 3))
    (kk : ∀ (H1 : Heap) (locs1 : List Loc), xW G A s.heap ws' H1 locs1 → W p l e R s m args below meth c H1 locs1 cells slots Q (F0 m (pc + 3) ls st1)) (hcs : cells ≤ R.cells ∧ slots ≤ R.slots := by exact ⟨Nat.zero_le _, Nat.zero_le _⟩) : W p l e R s m args below meth c H locs cells slots Q (F0 m pc ls st0) := by
  subst hst1
  obtain ⟨hx, hb, hml, hown, hts, hK, -⟩ := id E
  refine x_run (va_runV (C := C) (b := b) (As := As) (rest := rest) ⟨hx, hb, hml, hown, hts⟩ hM.1 (cwV n hts hG rfl hr0 hr1 hd hRm) ?_ rfl hn hl.1 hst hcat hdg hcs) hw isC isR hC hN hR hl1 hl2 hcov hdis hM.2 kk
  obtain ⟨f1, f2⟩ := x_preS (av := .ref b :: As) E hw isC hnd (x_at_map hC)
  have := va_recv hK hw.1 hcl hc0
  exact ⟨f1, this, f2⟩
theorem x_callVA (E : xE p s m args c cc nL own G A) (hw : xW G A s.heap ws H locs) (hl : lv_has ls nL lv) (hM : xC l y bytes maxL ret rm G (.ref b :: As) ws o ws') (hG : GoodIn x_tbl (wsV own index C y (.code y bytes maxL ret :: x_tbl)))
    (hd : y.cls = C ∧ y.cls ≠ "java/lang/invoke/MethodHandle" ∧ y.cls ≠ "java/lang/invoke/VarHandle" ∧ (parseMethodDescriptor y.desc).map (fun d => d.parameters.length) = some n) (hr0 : rm.cells = 0) (hr1 : rm.slots = 0) (hRm : rm.frames + 1 ≤ R.frames ∧ 8 + (maxL + 11) + rm.locals ≤ R.locals)
    {q0 ci : Nat} {fs : List Value} {T : u_T} {N : Nat} (hc0 : ws[q0]? = some (b, .inr (ci, fs))) (hcl : vwCl[ci]? = some (C, T, N)) (hn : As.length = n) (hst : st0 = As.reverse ++ .ref b :: rest) (hcat : 2 * 0 + (rest.map fun v => v.category).sum ≤ 8)
    {st1 : List Value} (hst1 : o.toList ++ rest = st1) (hdg : decode cc pc = .ok (.invokevirtual index, 3))
    (kk : ∀ (H1 : Heap) (locs1 : List Loc), xW G A s.heap ws' H1 locs1 → W p l e R s m args below meth c H1 locs1 cells slots Q (F0 m (pc + 3) ls st1)) (hcs : cells ≤ R.cells ∧ slots ≤ R.slots := by exact ⟨Nat.zero_le _, Nat.zero_le _⟩) : W p l e R s m args below meth c H locs cells slots Q (F0 m pc ls st0) := by
  subst hst1
  obtain ⟨hx, hb, hml, hown, hts, hK, -⟩ := id E
  refine x_runA (va_runV (C := C) (b := b) (As := As) (rest := rest) ⟨hx, hb, hml, hown, hts⟩ hM.1 (cwV n hts hG rfl hr0 hr1 hd hRm) ?_ rfl hn hl.1 hst hcat hdg hcs) hw hM.2 kk
  obtain ⟨f1, f2⟩ := x_preSA (av := .ref b :: As) E hw
  have := va_recv hK hw.1 hcl hc0
  exact ⟨f1, this, f2⟩
/-- invokestatic of the own class -/
theorem x_callS (E : xE p s m args c cc nL own G A) (hw : xW G A s.heap ws H locs) (hl : lv_has ls nL lv) (hM : xC l y bytes maxL ret rm G As wc o wc') (hG : GoodIn x_tbl (wsS own index y (.code y bytes maxL ret :: x_tbl)))
    (hd : y.cls = own ∧ y.cls ≠ "java/lang/invoke/MethodHandle" ∧ y.cls ≠ "java/lang/invoke/VarHandle" ∧ (parseMethodDescriptor y.desc).map (fun d => d.parameters.length) = some n) (hr0 : rm.cells = 0) (hr1 : rm.slots = 0) (hRm : rm.frames + 1 ≤ R.frames ∧ 8 + (maxL + 11) + rm.locals ≤ R.locals)
    (isC isR : List Nat) (hnd : va_nd isC = true) (hC : x_at ws isC wc) (hn : As.length = n) (hst : st0 = As.reverse ++ rest) (hcat : 2 * 0 + (rest.map fun v => v.category).sum ≤ 8)
    {nw : Nat} (hN : x_at ws' isC wc') (hR : x_same ws' ws isR) (hl1 : ws'.length = nw) (hl2 : ws.length = nw) (hcov : (List.range nw).all (fun k => isC.contains k || isR.contains k) = true) (hdis : isR.all (fun k => !isC.contains k) = true)
    {st1 : List Value} (hst1 : o.toList ++ rest = st1) (hdg : decode cc pc = .ok (.invokestatic index, 3))
    (kk : ∀ (H1 : Heap) (locs1 : List Loc), xW G A s.heap ws' H1 locs1 → W p l e R s m args below meth c H1 locs1 cells slots Q (F0 m (pc + 3) ls st1)) (hcs : cells ≤ R.cells ∧ slots ≤ R.slots := by exact ⟨Nat.zero_le _, Nat.zero_le _⟩) : W p l e R s m args below meth c H locs cells slots Q (F0 m pc ls st0) := by
  subst hst1
  obtain ⟨hx, hb, hml, hown, hts, hK, -⟩ := id E
  exact x_run (va_runS (As := As) (rest := rest) ⟨hx, hb, hml, hown, hts⟩ hM.1 (cwS n hts hG rfl hr0 hr1 hd hRm) (x_preS (av := As) E hw isC hnd (x_at_map hC)) rfl hn hl.1 hst hcat hdg hcs) hw isC isR hC hN hR hl1 hl2 hcov hdis hM.2 kk
/-- a static method that reads and writes no cell: the world is as it was -/
theorem x_D_nil {A : Nat → Prop} : va_D A [] := ⟨fun i j x y h => (by cases h), fun k q h => (by cases h)⟩
theorem x_in_nil {A : Nat → Prop} : ∀ q, x_in [] q → A q := fun q h => by obtain ⟨j, en, hj⟩ := h; cases hj
theorem x_P_nil {H : Heap} : va_P G.1 vwCl [] H := fun k q h => by cases h
theorem x_run0 {av : Array Value} (hr : va_Run p l e R s m args below meth c H locs cells slots 0 0 (F0 m pc ls st0) rest (xQ G [] [] o av) (x_in [])) (hw : xW G A s.heap ws H locs)
    (kk : ∀ (H1 : Heap) (locs1 : List Loc), xW G A s.heap ws H1 locs1 → W p l e R s m args below meth c H1 locs1 cells slots Q (F0 m (pc + 3) ls (o.toList ++ rest))) : W p l e R s m args below meth c H locs cells slots Q (F0 m pc ls st0) := by
  obtain ⟨hP, hD, hS⟩ := hw
  intro T hT X
  obtain ⟨v, st₀, t, T', L, h0, X', hL, e1, e2, ⟨hv, hP1, hz, hk⟩, st⟩ := hr T hT X
  cases hv
  rw [h0] at hz hk
  have hin : ∀ q, ¬ x_in [] q := fun q ⟨j, en, hj⟩ => by cases hj
  obtain ⟨t2, a1, b1⟩ := kk T'.heap (locs ++ L) ⟨fun k q hq => by rw [e1]; exact (hP k q hq).kept (hk q.1 (hP k q hq).lt (hin _)), hD, ⟨Nat.le_trans hS.1 (by rw [e1]; exact hz), fun q h1 h2 => by rw [e1, hk q (Nat.lt_of_lt_of_le h1 hS.1) (hin q)]; exact hS.2.1 q h1 h2, fun q hq => by
      rcases List.mem_append.mp hq with h | h
      · exact hS.2.2 q h
      · exact absurd (hL q h) (hin _)⟩⟩ T' rfl X'
  exact ⟨t2, st t2 a1, b1⟩
theorem x_pre0 {av : List Value} (E : xE p s m args c cc nL own G A) (hw : xW G A s.heap ws H locs) : PreS s H (xP G [] av) av := by
  obtain ⟨-, -, -, -, -, hK, hT⟩ := E
  exact ⟨x_K_call, fun U hU hW => ⟨rfl, x_P_nil, va_K.moved hW.alike hK, x_D_nil, hT.warm hW hU hw.2.2 x_in_nil⟩⟩
theorem x_callS0 (E : xE p s m args c cc nL own G A) (hw : xW G A s.heap ws H locs) (hl : lv_has ls nL lv) (hM : xC l y bytes maxL ret rm G As [] o []) (hG : GoodIn x_tbl (wsS own index y (.code y bytes maxL ret :: x_tbl)))
    (hd : y.cls = own ∧ y.cls ≠ "java/lang/invoke/MethodHandle" ∧ y.cls ≠ "java/lang/invoke/VarHandle" ∧ (parseMethodDescriptor y.desc).map (fun d => d.parameters.length) = some n) (hr0 : rm.cells = 0) (hr1 : rm.slots = 0) (hRm : rm.frames + 1 ≤ R.frames ∧ 8 + (maxL + 11) + rm.locals ≤ R.locals)
    (hn : As.length = n) (hst : st0 = As.reverse ++ rest) (hcat : 2 * 0 + (rest.map fun v => v.category).sum ≤ 8)
    {st1 : List Value} (hst1 : o.toList ++ rest = st1) (hdg : decode cc pc = .ok (.invokestatic index, 3))
    (kk : ∀ (H1 : Heap) (locs1 : List Loc), xW G A s.heap ws H1 locs1 → W p l e R s m args below meth c H1 locs1 cells slots Q (F0 m (pc + 3) ls st1)) (hcs : cells ≤ R.cells ∧ slots ≤ R.slots := by exact ⟨Nat.zero_le _, Nat.zero_le _⟩) : W p l e R s m args below meth c H locs cells slots Q (F0 m pc ls st0) := by
  subst hst1
  obtain ⟨hx, hb, hml, hown, hts, hK, -⟩ := id E
  exact x_run0 (va_runS (As := As) (rest := rest) ⟨hx, hb, hml, hown, hts⟩ hM.1 (cwS n hts hG rfl hr0 hr1 hd hRm) (x_pre0 (av := As) E hw) rfl hn hl.1 hst hcat hdg hcs) hw kk
/-- a nest mate's private static method that reads and writes no cell -/
theorem x_callSN0 (E : xE p s m args c cc nL own G A) (hw : xW G A s.heap ws H locs) (hl : lv_has ls nL lv) (hM : xC l y bytes maxL ret rm G As [] o []) {host : String} (hnl : va_Nw (.methodLinkNest own index y host) s) (hcd : Cond.code y bytes maxL ret ∈ x_tbl) (hst1 : Cond.static y ∈ x_tbl) (hini : Cond.initialized y.cls ∈ x_tbl)
    (hd : y.cls ≠ "java/lang/invoke/MethodHandle" ∧ y.cls ≠ "java/lang/invoke/VarHandle" ∧ (parseMethodDescriptor y.desc).map (fun d => d.parameters.length) = some n) (hr0 : rm.cells = 0) (hr1 : rm.slots = 0) (hRm : rm.frames + 1 ≤ R.frames ∧ 8 + (maxL + 11) + rm.locals ≤ R.locals)
    (hn : As.length = n) (hst : st0 = As.reverse ++ rest) (hcat : 2 * 0 + (rest.map fun v => v.category).sum ≤ 8)
    {st1 : List Value} (hst1 : o.toList ++ rest = st1) (hdg : decode cc pc = .ok (.invokestatic index, 3))
    (kk : ∀ (H1 : Heap) (locs1 : List Loc), xW G A s.heap ws H1 locs1 → W p l e R s m args below meth c H1 locs1 cells slots Q (F0 m (pc + 3) ls st1)) (hcs : cells ≤ R.cells ∧ slots ≤ R.slots := by exact ⟨Nat.zero_le _, Nat.zero_le _⟩) : W p l e R s m args below meth c H locs cells slots Q (F0 m pc ls st0) := by
  subst hst1
  obtain ⟨hx, hb, hml, hown, hts, hK, -⟩ := id E
  exact x_run0 (va_runSN (host := host) (As := As) (rest := rest) ⟨hx, hb, hml, hown, hts⟩ hM.1 ⟨va_cnB n hts (x_good hcd) rfl hr0 hr1 hnl (hts _ hini) hd hRm, hts _ hst1, trivial⟩ (x_pre0 (av := As) E hw) rfl hn hl.1 hst hcat hdg hcs) hw kk
/-- a method's contract out of its walk from pc 0 -/
theorem x_met {av : List Value} (hy : plainName y.cls = true) (hfst : ws'.map Prod.fst = ws.map Prod.fst) (hn : (lg_sl av).length ≤ maxL)
    (body : ∀ (p : Program) (e : Env) (s : State) (m : MethodId) (below : List Frame) (meth : Method) (c : Code), xE p s m av.toArray c bytes maxL y.cls G (x_in ws) → meth.sig.returnType = ret → meth.locks = false → ∀ ls : Array Slot, lv_has ls maxL (lv_args 0 av) → xW G (x_in ws) s.heap ws s.heap [] →
      W p l e rm s m av.toArray below meth c s.heap [] 0 0 (MQ below (xQ G ws ws' o) av.toArray s 0 0 (x_in ws)) (F0 m 0 ls [])) : xC l y bytes maxL ret rm G av ws o ws' := by
  refine ⟨?_, hfst⟩
  refine Met.ofW (cc := bytes) (maxL := maxL) (ret := ret) hy rfl ?_
  intro p e s m args below meth c s₁ B hml hv
  obtain ⟨rfl, hP, hK, hD, hT⟩ := hv
  have hts := atoms_spec (ws := .code y bytes maxL ret :: x_tbl) B.pre
  have E : xE p s m av.toArray c bytes maxL y.cls G (x_in ws) := ⟨B.exec, B.bytes, hml, findClass_of_methodNamed B.named, fun w h => hts w (List.mem_cons_of_mem _ h), hK, hT⟩
  have hl := lv_entry av (n := maxL) hn
  rw [lg_entry_eq]
  exact body p e s m below meth c E B.returns B.notSynchronized _ hl ⟨hP, x_D_self hD, va_S.rf⟩
/-! ends -/
theorem x_reti {w0 : va_W} {v : Int32} (E : xE p s m args c cc nL own G (x_in w0)) (hr : meth.sig.returnType = some .int) (hlocks : meth.locks = false) (hw : xW G (x_in w0) s.heap ws H locs) (hdg : decode cc pc = .ok (.ireturn, 1)) :
    W p l e R s m args below meth c H locs 0 0 (MQ below (xQ G w0 ws (some (.int v))) args s 0 0 (x_in w0)) (F0 m pc ls [.int v]) :=
  W.iret (v := v) E.1 E.2.1 hr (fun t ht _ => ⟨rfl, by rw [ht]; exact hw.1, hw.2.2.F ht⟩) hw.2.2.2.2 hdg hlocks
theorem x_retz {w0 : va_W} {v r : Int32} (E : xE p s m args c cc nL own G (x_in w0)) (hr : meth.sig.returnType = some .boolean) (hlocks : meth.locks = false) (hw : xW G (x_in w0) s.heap ws H locs) (hz : x_zb v = some r) (hdg : decode cc pc = .ok (.ireturn, 1)) :
    W p l e R s m args below meth c H locs 0 0 (MQ below (xQ G w0 ws (some (.int r))) args s 0 0 (x_in w0)) (F0 m pc ls [.int v]) := by
  obtain ⟨h1, rfl⟩ := x_zb_some hz
  exact W.zret (v := v) E.1 E.2.1 hr h1 (fun t ht _ => ⟨rfl, by rw [ht]; exact hw.1, hw.2.2.F ht⟩) hw.2.2.2.2 hdg hlocks
theorem x_retl {w0 : va_W} {v : Int64} (E : xE p s m args c cc nL own G (x_in w0)) (hr : meth.sig.returnType = some .long) (hlocks : meth.locks = false) (hw : xW G (x_in w0) s.heap ws H locs) (hdg : decode cc pc = .ok (.lreturn, 1)) :
    W p l e R s m args below meth c H locs 0 0 (MQ below (xQ G w0 ws (some (.long v))) args s 0 0 (x_in w0)) (F0 m pc ls [.long v]) :=
  W.lret (v := v) E.1 E.2.1 hr (fun t ht _ => ⟨rfl, by rw [ht]; exact hw.1, hw.2.2.F ht⟩) hw.2.2.2.2 hdg hlocks
theorem x_retv {w0 : va_W} (E : xE p s m args c cc nL own G (x_in w0)) (hr : meth.sig.returnType = none) (hlocks : meth.locks = false) (hw : xW G (x_in w0) s.heap ws H locs) (hdg : decode cc pc = .ok (.return_, 1)) :
    W p l e R s m args below meth c H locs 0 0 (MQ below (xQ G w0 ws none) args s 0 0 (x_in w0)) (F0 m pc ls []) :=
  W.vret E.1 E.2.1 hr (fun t ht _ => ⟨rfl, by rw [ht]; exact hw.1, hw.2.2.F ht⟩) hw.2.2.2.2 hdg hlocks
/-! array rows -/
theorem x_iald (E : xE p s m args c cc nL own G A) (hw : xW G A s.heap ws H locs) (q0 : Nat) {n : Nat} {f : Nat → Int32} (ha : ws[q0]? = some (a, .inl (G.2.1.1, n, .inl f))) {i v : Int32} (hg : x_rd n f i = some v) (hdg : decode cc pc = .ok (.iaload, 1))
    (kk : W p l e R s m args below meth c H locs cells slots Q (F0 m (pc + 1) ls (.int v :: rest))) : W p l e R s m args below meth c H locs cells slots Q (F0 m pc ls (.int i :: .ref a :: rest)) := by
  obtain ⟨h1, rfl⟩ := x_rd_some hg
  exact va_iald E.1 E.2.1 E.2.2.2.2.2.1 hw.1 q0 0 ha rfl h1 hdg kk
theorem x_lald (E : xE p s m args c cc nL own G A) (hw : xW G A s.heap ws H locs) (q0 : Nat) {n : Nat} {f : Nat → Int64} (ha : ws[q0]? = some (a, .inl (G.2.1.2.1, n, .inr (.inl f)))) {i : Int32} {v : Int64} (hg : x_rd n f i = some v) (hdg : decode cc pc = .ok (.laload, 1))
    (kk : W p l e R s m args below meth c H locs cells slots Q (F0 m (pc + 1) ls (.long v :: rest))) : W p l e R s m args below meth c H locs cells slots Q (F0 m pc ls (.int i :: .ref a :: rest)) := by
  obtain ⟨h1, rfl⟩ := x_rd_some hg
  exact va_lald E.1 E.2.1 E.2.2.2.2.2.1 hw.1 q0 1 ha rfl h1 hdg kk
theorem x_bald (E : xE p s m args c cc nL own G A) (hw : xW G A s.heap ws H locs) (q0 : Nat) {n : Nat} {f : Nat → Int32} (ha : ws[q0]? = some (a, .inl (G.2.1.2.2, n, .inl f))) {i v : Int32} (hg : x_rd n f i = some v) (hdg : decode cc pc = .ok (.baload, 1))
    (kk : W p l e R s m args below meth c H locs cells slots Q (F0 m (pc + 1) ls (.int v :: rest))) : W p l e R s m args below meth c H locs cells slots Q (F0 m pc ls (.int i :: .ref a :: rest)) := by
  obtain ⟨h1, rfl⟩ := x_rd_some hg
  exact va_bald E.1 E.2.1 E.2.2.2.2.2.1 hw.1 q0 2 ha rfl h1 hdg kk
theorem x_iast (E : xE p s m args c cc nL own G A) (hw : xW G A s.heap ws H locs) (q0 : Nat) {n : Nat} {f f' : Nat → Int32} (ha : ws[q0]? = some (a, .inl (G.2.1.1, n, .inl f))) {i x : Int32} (hg : x_wr n f i x = some f') (hn : ws.set q0 (a, .inl (G.2.1.1, n, .inl f')) = ws') (hdg : decode cc pc = .ok (.iastore, 1))
    (kk : ∀ (H1 : Heap) (locs1 : List Loc), xW G A s.heap ws' H1 locs1 → W p l e R s m args below meth c H1 locs1 cells slots Q (F0 m (pc + 1) ls rest)) : W p l e R s m args below meth c H locs cells slots Q (F0 m pc ls (.int x :: .int i :: .ref a :: rest)) := by
  obtain ⟨h1, rfl⟩ := x_wr_some hg
  subst hn
  exact va_iast E.1 E.2.1 E.2.2.2.2.2.1 hw.1 hw.2.1 hw.2.2 q0 0 ha rfl h1 hdg (fun H1 l1 a1 a2 a3 => kk H1 l1 ⟨a1, a2, a3⟩)
theorem x_bast (E : xE p s m args c cc nL own G A) (hw : xW G A s.heap ws H locs) (q0 : Nat) {n : Nat} {f f' : Nat → Int32} (ha : ws[q0]? = some (a, .inl (G.2.1.2.2, n, .inl f))) {i x : Int32} (hg : x_wrb n f i x = some f') (hn : ws.set q0 (a, .inl (G.2.1.2.2, n, .inl f')) = ws') (hdg : decode cc pc = .ok (.bastore, 1))
    (kk : ∀ (H1 : Heap) (locs1 : List Loc), xW G A s.heap ws' H1 locs1 → W p l e R s m args below meth c H1 locs1 cells slots Q (F0 m (pc + 1) ls rest)) : W p l e R s m args below meth c H locs cells slots Q (F0 m pc ls (.int x :: .int i :: .ref a :: rest)) := by
  obtain ⟨h1, rfl⟩ := x_wrb_some hg
  subst hn
  exact va_bast E.1 E.2.1 E.2.2.2.2.2.1 hw.1 hw.2.1 hw.2.2 q0 2 ha rfl h1 hdg (fun H1 l1 a1 a2 a3 => kk H1 l1 ⟨a1, a2, a3⟩)
theorem x_last (E : xE p s m args c cc nL own G A) (hw : xW G A s.heap ws H locs) (q0 : Nat) {n : Nat} {f f' : Nat → Int64} (ha : ws[q0]? = some (a, .inl (G.2.1.2.1, n, .inr (.inl f)))) {i : Int32} {x : Int64} (hg : x_wrl n f i x = some f') (hn : ws.set q0 (a, .inl (G.2.1.2.1, n, .inr (.inl f'))) = ws') (hdg : decode cc pc = .ok (.lastore, 1))
    (kk : ∀ (H1 : Heap) (locs1 : List Loc), xW G A s.heap ws' H1 locs1 → W p l e R s m args below meth c H1 locs1 cells slots Q (F0 m (pc + 1) ls rest)) : W p l e R s m args below meth c H locs cells slots Q (F0 m pc ls (.long x :: .int i :: .ref a :: rest)) := by
  obtain ⟨h1, rfl⟩ := x_wrl_some hg
  subst hn
  exact va_last E.1 E.2.1 E.2.2.2.2.2.1 hw.1 hw.2.1 hw.2.2 q0 1 ha rfl h1 hdg (fun H1 l1 a1 a2 a3 => kk H1 l1 ⟨a1, a2, a3⟩)
theorem x_alen (E : xE p s m args c cc nL own G A) (hw : xW G A s.heap ws H locs) (q0 : Nat) {n : Nat} {f : Nat → Int32} (ha : ws[q0]? = some (a, .inl (G.2.1.1, n, .inl f))) {v : Int32} (hv : Int32.ofNat n = v) (hdg : decode cc pc = .ok (.arraylength, 1))
    (kk : W p l e R s m args below meth c H locs cells slots Q (F0 m (pc + 1) ls (.int v :: rest))) : W p l e R s m args below meth c H locs cells slots Q (F0 m pc ls (.ref a :: rest)) :=
  va_alen E.1 E.2.1 E.2.2.2.2.2.1 hw.1 q0 0 ha rfl hv hdg kk
theorem x_alenb (E : xE p s m args c cc nL own G A) (hw : xW G A s.heap ws H locs) (q0 : Nat) {n : Nat} {f : Nat → Int32} (ha : ws[q0]? = some (a, .inl (G.2.1.2.2, n, .inl f))) {v : Int32} (hv : Int32.ofNat n = v) (hdg : decode cc pc = .ok (.arraylength, 1))
    (kk : W p l e R s m args below meth c H locs cells slots Q (F0 m (pc + 1) ls (.int v :: rest))) : W p l e R s m args below meth c H locs cells slots Q (F0 m pc ls (.ref a :: rest)) :=
  va_alen E.1 E.2.1 E.2.2.2.2.2.1 hw.1 q0 2 ha rfl hv hdg kk
theorem x_copy (E : xE p s m args c cc nL own G A) (hw : xW G A s.heap ws H locs) (hl : lv_has ls nL lv) {index : Nat} (hlink : Cond.methodLink own index arraycopyName ∈ x_tbl) (hnat : Cond.native arraycopyName ∈ x_tbl) (hstat : Cond.static arraycopyName ∈ x_tbl) (hini : Cond.initialized "java/lang/System" ∈ x_tbl)
    (q0 q1 : Nat) {a0 : Nat} {n0 n1 : Nat} {f g r : Nat → Int32} (ha0 : ws[q0]? = some (a0, .inl (G.2.1.1, n0, .inl f))) (ha1 : ws[q1]? = some (a, .inl (G.2.1.1, n1, .inl g))) {sp dp n : Int32} (hg : x_cp n0 n1 f g sp dp n = some r) (hn : ws.set q1 (a, .inl (G.2.1.1, n1, .inl r)) = ws')
    (hframes : 1 ≤ R.frames) (hlocals : (rest.map fun v => v.category).sum + (nativeFrameWords "java/lang/System" "arraycopy" 5 + 11) ≤ R.locals) (hdg : decode cc pc = .ok (.invokestatic index, 3))
    (kk : ∀ (H1 : Heap) (locs1 : List Loc), xW G A s.heap ws' H1 locs1 → W p l e R s m args below meth c H1 locs1 cells slots Q (F0 m (pc + 3) ls rest)) : W p l e R s m args below meth c H locs cells slots Q (F0 m pc ls (.int n :: .int dp :: .ref a :: .int sp :: .ref a0 :: rest)) := by
  obtain ⟨hx, hb, hml, hown, hts, hK, -⟩ := id E
  obtain ⟨⟨h1, h2, h3, h4, h5⟩, rfl⟩ := x_cp_some hg
  subst hn
  exact va_copyi hx hb (hml.trans hl.1.symm) hown (hts _ hlink) (hts _ hnat) (hts _ hstat) (hts _ hini) hK hw.1 hw.2.1 hw.2.2 q0 q1 0 0 ha0 ha1 rfl rfl rfl h1 h2 h3 h4 h5 (fun _ _ => rfl) hframes hlocals hdg (fun H1 l1 a1 a2 a3 => kk H1 l1 ⟨a1, a2, a3⟩)
/-- invokestatic of another class -/
theorem x_callSX (E : xE p s m args c cc nL own G A) (hw : xW G A s.heap ws H locs) (hl : lv_has ls nL lv) (hM : xC l y bytes maxL ret rm G As wc o wc') (hml1 : Cond.methodLink own index y ∈ x_tbl) (hcd : Cond.code y bytes maxL ret ∈ x_tbl) (hst2 : Cond.static y ∈ x_tbl) (hini : Cond.initialized y.cls ∈ x_tbl)
    (hd : y.cls ≠ "java/lang/invoke/MethodHandle" ∧ y.cls ≠ "java/lang/invoke/VarHandle" ∧ (parseMethodDescriptor y.desc).map (fun d => d.parameters.length) = some n) (hr0 : rm.cells = 0) (hr1 : rm.slots = 0) (hRm : rm.frames + 1 ≤ R.frames ∧ 8 + (maxL + 11) + rm.locals ≤ R.locals)
    (isC isR : List Nat) (hnd : va_nd isC = true) (hC : x_at ws isC wc) (hn : As.length = n) (hst : st0 = As.reverse ++ rest) (hcat : 2 * 0 + (rest.map fun v => v.category).sum ≤ 8)
    {nw : Nat} (hN : x_at ws' isC wc') (hR : x_same ws' ws isR) (hl1 : ws'.length = nw) (hl2 : ws.length = nw) (hcov : (List.range nw).all (fun k => isC.contains k || isR.contains k) = true) (hdis : isR.all (fun k => !isC.contains k) = true)
    {st1 : List Value} (hst1 : o.toList ++ rest = st1) (hdg : decode cc pc = .ok (.invokestatic index, 3))
    (kk : ∀ (H1 : Heap) (locs1 : List Loc), xW G A s.heap ws' H1 locs1 → W p l e R s m args below meth c H1 locs1 cells slots Q (F0 m (pc + 3) ls st1)) (hcs : cells ≤ R.cells ∧ slots ≤ R.slots := by exact ⟨Nat.zero_le _, Nat.zero_le _⟩) : W p l e R s m args below meth c H locs cells slots Q (F0 m pc ls st0) := by
  subst hst1
  obtain ⟨hx, hb, hml, hown, hts, hK, -⟩ := id E
  exact x_run (va_runS (As := As) (rest := rest) ⟨hx, hb, hml, hown, hts⟩ hM.1 ⟨callB_of n hts (x_good hcd) rfl hr0 hr1 (hts _ hini) (hts _ hml1) hd hRm, hts _ hst2⟩ (x_preS (av := As) E hw isC hnd (x_at_map hC)) rfl hn hl.1 hst hcat hdg hcs) hw isC isR hC hN hR hl1 hl2 hcov hdis hM.2 kk
theorem x_callSX0 (E : xE p s m args c cc nL own G A) (hw : xW G A s.heap ws H locs) (hl : lv_has ls nL lv) (hM : xC l y bytes maxL ret rm G As [] o []) (hml1 : Cond.methodLink own index y ∈ x_tbl) (hcd : Cond.code y bytes maxL ret ∈ x_tbl) (hst2 : Cond.static y ∈ x_tbl) (hini : Cond.initialized y.cls ∈ x_tbl)
    (hd : y.cls ≠ "java/lang/invoke/MethodHandle" ∧ y.cls ≠ "java/lang/invoke/VarHandle" ∧ (parseMethodDescriptor y.desc).map (fun d => d.parameters.length) = some n) (hr0 : rm.cells = 0) (hr1 : rm.slots = 0) (hRm : rm.frames + 1 ≤ R.frames ∧ 8 + (maxL + 11) + rm.locals ≤ R.locals)
    (hn : As.length = n) (hst : st0 = As.reverse ++ rest) (hcat : 2 * 0 + (rest.map fun v => v.category).sum ≤ 8)
    {st1 : List Value} (hst1 : o.toList ++ rest = st1) (hdg : decode cc pc = .ok (.invokestatic index, 3))
    (kk : ∀ (H1 : Heap) (locs1 : List Loc), xW G A s.heap ws H1 locs1 → W p l e R s m args below meth c H1 locs1 cells slots Q (F0 m (pc + 3) ls st1)) (hcs : cells ≤ R.cells ∧ slots ≤ R.slots := by exact ⟨Nat.zero_le _, Nat.zero_le _⟩) : W p l e R s m args below meth c H locs cells slots Q (F0 m pc ls st0) := by
  subst hst1
  obtain ⟨hx, hb, hml, hown, hts, hK, -⟩ := id E
  exact x_run0 (va_runS (As := As) (rest := rest) ⟨hx, hb, hml, hown, hts⟩ hM.1 ⟨callB_of n hts (x_good hcd) rfl hr0 hr1 (hts _ hini) (hts _ hml1) hd hRm, hts _ hst2⟩ (x_pre0 (av := As) E hw) rfl hn hl.1 hst hcat hdg hcs) hw kk
/-- switches from 0 on -/
theorem x_swi (E : xE p s m args c cc nL own G A) {dflt lo hi : Int} {offs : Array Int} {len : Nat} {x v : Int32} {off : Int} {tgt : Nat} (q : x = v) (hdg : decode cc pc = .ok (.tableswitch dflt lo hi offs, len)) (h1 : ¬ v.toInt < lo) (h2 : ¬ hi < v.toInt) (ho : offs[(v.toInt - lo).toNat]? = some off) (ht : (pc : Int) + off = (tgt : Int))
    (k : W p l e R s m args below meth c H locs cells slots Q (F0 m tgt ls rest)) : W p l e R s m args below meth c H locs cells slots Q (F0 m pc ls (.int x :: rest)) := by
  subst q
  exact lv_tableIn E.1 E.2.1 hdg h1 h2 ho ht k
theorem x_swo (E : xE p s m args c cc nL own G A) {dflt hi : Int} {offs : Array Int} {len : Nat} {x : Int32} {tgt n : Nat} (h : ∀ k, k < n → ¬ x = nI k) (hn : hi + 1 = (n : Int) ∧ n < 1000) (hdg : decode cc pc = .ok (.tableswitch dflt 0 hi offs, len)) (ht : (pc : Int) + dflt = (tgt : Int))
    (k : W p l e R s m args below meth c H locs cells slots Q (F0 m tgt ls rest)) : W p l e R s m args below meth c H locs cells slots Q (F0 m pc ls (.int x :: rest)) := by
  refine lv_tableOut E.1 E.2.1 hdg ?_ ht k
  by_cases h1 : x.toInt < 0
  · exact Or.inl h1
  · right
    by_cases h2 : hi < x.toInt
    · exact h2
    · exfalso
      refine h x.toInt.toNat (by omega) ?_
      rw [← Int32.toInt_inj, nI_toInt (by omega)]
      omega
theorem x_reta {w0 : va_W} {v : Nat} {rn : String} (E : xE p s m args c cc nL own G (x_in w0)) (hr : meth.sig.returnType = some (.object rn)) (hlocks : meth.locks = false) (hw : xW G (x_in w0) s.heap ws H locs) (hdg : decode cc pc = .ok (.areturn, 1)) :
    W p l e R s m args below meth c H locs 0 0 (MQ below (xQ G w0 ws (some (.ref v))) args s 0 0 (x_in w0)) (F0 m pc ls [.ref v]) :=
  W.aret (v := .ref v) E.1 E.2.1 hr (Or.inl ⟨rn, rfl⟩) (Or.inr ⟨v, rfl⟩) (fun t ht _ => ⟨rfl, by rw [ht]; exact hw.1, hw.2.2.F ht⟩) hw.2.2.2.2 hdg hlocks
end XR
