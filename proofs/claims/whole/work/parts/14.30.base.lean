/-! PURE: rows, loops, numbers -/
theorem p_ok {i n : Nat} (h : i < n) (hn : n < 2 ^ 31) : x_ok (nI i) n = true := by
  unfold x_ok
  exact decide_eq_true (nI_in h hn)
theorem p_rd {α : Type} {i n : Nat} {f : Nat → α} (h : i < n) (hn : n < 2 ^ 31) : x_rd n f (nI i) = some (f i) := by
  unfold x_rd
  rw [if_pos (p_ok h hn), nI_clamp (by omega)]
theorem p_wr {i n : Nat} {f : Nat → Int32} {x : Int32} (h : i < n) (hn : n < 2 ^ 31) : x_wr n f (nI i) x = some (upd f i x) := by
  unfold x_wr
  rw [if_pos (p_ok h hn), nI_clamp (by omega)]
theorem p_wrb {i n : Nat} {f : Nat → Int32} {x : Int32} (h : i < n) (hn : n < 2 ^ 31) : x_wrb n f (nI i) x = some (upd f i (vp_nar .byte x)) := by
  unfold x_wrb
  rw [if_pos (p_ok h hn), nI_clamp (by omega)]
theorem p_wrl {i n : Nat} {f : Nat → Int64} {x : Int64} (h : i < n) (hn : n < 2 ^ 31) : x_wrl n f (nI i) x = some (vp_updL f i x) := by
  unfold x_wrl
  rw [if_pos (p_ok h hn), nI_clamp (by omega)]
theorem p_cp {a b n n0 n1 : Nat} {f g : Nat → Int32} (h0 : a + n ≤ n0) (h1 : b + n ≤ n1) (hn0 : n0 < 2 ^ 31) (hn1 : n1 < 2 ^ 31) : x_cp n0 n1 f g (nI a) (nI b) (nI n) = some (va_cpy f g a b n) := by
  unfold x_cp
  have e1 : (nI a).toNatClampNeg = a := nI_clamp (by omega)
  have e2 : (nI b).toNatClampNeg = b := nI_clamp (by omega)
  have e3 : (nI n).toNatClampNeg = n := nI_clamp (by omega)
  rw [e1, e2, e3, if_pos ⟨nI_pos (by omega), nI_pos (by omega), nI_pos (by omega), h0, h1⟩]
theorem p_nz {x : Int32} (h : ¬ x = 0) : x_nz x = some () := by unfold x_nz; rw [if_neg h]
theorem p_nzl {x : Int64} (h : ¬ x = 0) : x_nzl x = some () := by unfold x_nzl; rw [if_neg h]
theorem p_zb0 : x_zb 0 = some 0 := by decide
theorem p_zb1 : x_zb 1 = some 1 := by decide
theorem p_bind {α β : Type} {a : α} {k : α → Option β} : Option.bind (some a) k = k a := rfl
/-- a loop whose states are known one by one -/
theorem p_for {σ ρ : Type} {body : (σ → Option ρ) → σ → Option ρ} (n : Nat) (st : Nat → σ) (r : ρ) (hn : n < 90000) (hs : ∀ (i : Nat) (k : σ → Option ρ), i < n → k (st (i + 1)) = some r → body k (st i) = some r) (he : ∀ k : σ → Option ρ, body k (st n) = some r) : ∀ i : Nat, i ≤ n → x_loop body FU (st i) = some r := by
  have key : ∀ (d i m : Nat), i + d = n → d < m → x_loop body m (st i) = some r := by
    intro d
    induction d with
    | zero =>
      intro i m h1 h2
      obtain ⟨m, rfl⟩ : ∃ m', m = m' + 1 := ⟨m - 1, by omega⟩
      rw [show i = n by omega]
      exact he _
    | succ d ih =>
      intro i m h1 h2
      obtain ⟨m, rfl⟩ : ∃ m', m = m' + 1 := ⟨m - 1, by omega⟩
      exact hs i _ (by omega) (ih (i + 1) m (by omega) (by omega))
  intro i hi
  exact key (n - i) i FU (by omega) (by have := FU_ge; omega)
/-- a loop with an invariant and a measure -/
theorem p_loop {σ ρ : Type} {body : (σ → Option ρ) → σ → Option ρ} (I : Nat → σ → Prop) (Q : ρ → Prop) (hs : ∀ (d : Nat) (k : σ → Option ρ) (s : σ), I d s → (∀ (d' : Nat) (s' : σ), d' < d → I d' s' → ∃ r, k s' = some r ∧ Q r) → ∃ r, body k s = some r ∧ Q r) : ∀ (d : Nat) (s : σ), d < 90000 → I d s → ∃ r, x_loop body FU s = some r ∧ Q r := by
  have key : ∀ (m d : Nat) (s : σ), d < m → I d s → ∃ r, x_loop body m s = some r ∧ Q r := by
    intro m
    induction m with
    | zero => intro d s h; omega
    | succ m ih => intro d s h hI; exact hs d _ s hI (fun d' s' h1 h2 => ih d' s' (by omega) h2)
  intro d s hd hI
  exact key FU d s (by have := FU_ge; omega) hI
theorem p_forI {σ ρ : Type} {body : (σ → Option ρ) → σ → Option ρ} (n : Nat) (I : Nat → σ → Prop) (Q : ρ → Prop) (hn : n < 90000) (hs : ∀ (i : Nat) (k : σ → Option ρ) (s : σ), i < n → I i s → (∀ s' : σ, I (i + 1) s' → ∃ r, k s' = some r ∧ Q r) → ∃ r, body k s = some r ∧ Q r) (he : ∀ (k : σ → Option ρ) (s : σ), I n s → ∃ r, body k s = some r ∧ Q r) : ∀ (i : Nat) (s : σ), i ≤ n → I i s → ∃ r, x_loop body FU s = some r ∧ Q r := by
  intro i s hi hI
  refine p_loop (fun d s => ∃ i, i + d = n ∧ I i s) Q (fun d k s h ih => ?_) (n - i) s (by omega) ⟨i, by omega, hI⟩
  obtain ⟨i, h1, h2⟩ := h
  cases d with
  | zero =>
    rw [show i = n by omega] at h2
    exact he k s h2
  | succ d => exact hs i k s (by omega) h2 (fun s' h3 => ih d s' (by omega) ⟨i + 1, by omega, h3⟩)
/-- the first i of a list turned -/
def mapTo {α : Type} (g : α → α) (i : Nat) (l : List α) : List α := (l.take i).map g ++ l.drop i
theorem mapTo_0 {α : Type} (g : α → α) (l : List α) : mapTo g 0 l = l := by simp [mapTo]
theorem mapTo_all {α : Type} (g : α → α) (l : List α) : mapTo g l.length l = l.map g := by simp [mapTo]
theorem mapTo_len {α : Type} (g : α → α) (i : Nat) (l : List α) : (mapTo g i l).length = l.length := by simp [mapTo]; omega
theorem mapTo_get {α : Type} (g : α → α) (i j : Nat) (l : List α) : (mapTo g i l)[j]? = if j < i then l[j]?.map g else l[j]? := by
  unfold mapTo
  by_cases h : j < i
  · rw [if_pos h]
    by_cases h2 : j < l.length
    · rw [List.getElem?_append_left (by simp; omega), List.getElem?_map, List.getElem?_take, if_pos h]
    · rw [List.getElem?_append_right (by simp; omega), List.getElem?_drop, List.getElem?_eq_none (by simp; omega), List.getElem?_eq_none (by omega)]; rfl
  · rw [if_neg h]
    by_cases h2 : i ≤ l.length
    · rw [List.getElem?_append_right (by simp; omega), List.getElem?_drop]
      congr 1
      simp
      omega
    · rw [List.getElem?_eq_none (by simp; omega), List.getElem?_eq_none (by omega)]
theorem mapTo_step {α : Type} (g : α → α) {i : Nat} {l : List α} {a : α} (h : l[i]? = some a) : mapTo g (i + 1) l = (mapTo g i l).set i (g a) := by
  apply List.ext_getElem?
  intro j
  rw [mapTo_get, List.getElem?_set, mapTo_get, mapTo_len]
  have hi := (List.getElem?_eq_some_iff.mp h).1
  by_cases h1 : i = j
  · subst h1
    rw [if_pos (Nat.lt_succ_self _), h, if_pos rfl, if_pos hi]
    rfl
  · by_cases h2 : j < i
    · simp [h1, h2, show j < i + 1 by omega]
    · simp [h1, h2, show ¬ j < i + 1 by omega]
theorem mapTo_id {α : Type} (g : α → α) {i : Nat} {l : List α} {a : α} (h : l[i]? = some a) (hg : g a = a) : mapTo g (i + 1) l = mapTo g i l := by
  rw [mapTo_step g h, hg]
  apply List.ext_getElem?
  intro j
  rw [List.getElem?_set]
  by_cases h1 : i = j
  · subst h1
    rw [if_pos rfl, mapTo_len, if_pos (List.getElem?_eq_some_iff.mp h).1, mapTo_get, if_neg (Nat.lt_irrefl _), h]
  · rw [if_neg h1]
/-! numbers -/
theorem p_lt {a b : Nat} (ha : a < 2 ^ 31) (hb : b < 2 ^ 31) : (nI a < nI b) = (a < b) := propext (nI_ltI ha hb)
theorem p_le {a b : Nat} (ha : a < 2 ^ 31) (hb : b < 2 ^ 31) : (nI a ≤ nI b) = (a ≤ b) := propext (nI_leI ha hb)
theorem p_eq {a b : Nat} (ha : a < 2 ^ 31) (hb : b < 2 ^ 31) : (nI a = nI b) = (a = b) := propext (nI_eq ha hb)
theorem p_neg {a : Nat} (ha : a < 2 ^ 31) : (nI a < 0) = False := propext ⟨fun h => nI_pos ha h, False.elim⟩
theorem p_shr {n k : Nat} (h : n < 2 ^ 31) (hk : k < 32) : nI n >>> (nI k &&& 31) = nI (n / 2 ^ k) := by
  have e : nI k &&& 31 = nI k := by
    have := pk_andN (n := k) (by omega) (m := 31) 5 (by decide)
    rw [this, Nat.mod_eq_of_lt (by omega)]
  rw [e]
  refine pk_shrN h (nI k) k ?_
  have : ∀ k, k < 32 → ((nI k).toBitVec.smod 32).toNat = k := by decide +kernel
  exact this k hk
theorem p_shl {n k : Nat} (h : n * 2 ^ k < 2 ^ 31) (hk : k < 32) : nI n <<< (nI k &&& 31) = nI (n * 2 ^ k) := by
  have e : nI k &&& 31 = nI k := by
    have := pk_andN (n := k) (by omega) (m := 31) 5 (by decide)
    rw [this, Nat.mod_eq_of_lt (by omega)]
  rw [e]
  refine pk_shlN (nI k) k ?_ (by omega)
  have : ∀ k, k < 32 → ((nI k).toBitVec.smod 32).toNat = k := by decide +kernel
  exact this k hk
theorem p_and {n m : Nat} (hn : n < 2 ^ 31) (hm : m < 2 ^ 31) : nI n &&& nI m = nI (n &&& m) := by
  have h1 : (n &&& m) ≤ n := Nat.and_le_left
  apply Int32.toBitVec_inj.mp
  rw [Int32.toBitVec_and]
  apply BitVec.eq_of_toNat_eq
  rw [BitVec.toNat_and, pk_tn (by omega), pk_tn (by omega), pk_tn (by omega)]
theorem p_or {n m : Nat} (hn : n < 2 ^ 31) (hm : m < 2 ^ 31) : nI n ||| nI m = nI (n ||| m) := by
  have h1 : (n ||| m) < 2 ^ 31 := Nat.or_lt_two_pow hn hm
  apply Int32.toBitVec_inj.mp
  rw [Int32.toBitVec_or]
  apply BitVec.eq_of_toNat_eq
  rw [BitVec.toNat_or, pk_tn (by omega), pk_tn (by omega), pk_tn (by omega)]
/-- an argument against a bound: inside, or not -/
theorem p_ix (x : Int32) {n : Nat} (hn : n < 2 ^ 31) : (∃ j : Nat, j < n ∧ x = nI j) ∨ x < 0 ∨ (¬ x < 0 ∧ nI n ≤ x) := by
  rcases pk_ix x hn with h | h | h
  · exact Or.inr (Or.inl h)
  · by_cases h0 : x < 0
    · exact Or.inr (Or.inl h0)
    · exact Or.inr (Or.inr ⟨h0, h⟩)
  · exact Or.inl h
