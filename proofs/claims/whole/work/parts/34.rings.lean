/-! what threads may give: the same list on both sides; sums of ints -/
def gfB (th ce : Nat → Nat) (wr : Nat → Bool) (s u : Nat) : Bool := if s = u then wr s else (ahB th s u && !decide (ce s = ce u))
def gU (th ce : Nat → Nat) (wr : Nat → Bool) (s : Nat) : Nat → List (Nat × Nat)
  | 0 => []
  | k + 1 => gU th ce wr s k ++ (if s ≤ k ∧ gfB th ce wr s k = true then [(s, k)] else [])
def gS (th ce : Nat → Nat) (wr : Nat → Bool) (n : Nat) : Nat → List (Nat × Nat)
  | 0 => []
  | s + 1 => gS th ce wr n s ++ gU th ce wr s n
def tri (n : Nat) : Nat → Nat
  | 0 => 0
  | s + 1 => tri n s + (n - s)
section GL
variable {th ce : Nat → Nat} {wr : Nat → Bool} {n s u k : Nat}
theorem gU_0 : ∀ {k}, k ≤ s → gU th ce wr s k = [] := by
  intro k
  induction k with
  | zero => intro _; rfl
  | succ k ih =>
    intro h
    show gU th ce wr s k ++ _ = []
    rw [ih (by omega), if_neg (by omega)]
    rfl
theorem gU_len : ∀ k, (gU th ce wr s k).length ≤ k - s := by
  intro k
  induction k with
  | zero => exact Nat.zero_le _
  | succ k ih =>
    show (gU th ce wr s k ++ _).length ≤ _
    rw [List.length_append]
    split
    · rename_i h
      have : ([(s, k)] : List (Nat × Nat)).length = 1 := rfl
      omega
    · have : ([] : List (Nat × Nat)).length = 0 := rfl
      omega
theorem gS_len : ∀ s, (gS th ce wr n s).length ≤ tri n s := by
  intro s
  induction s with
  | zero => exact Nat.le_refl _
  | succ s ih =>
    show (gS th ce wr n s ++ gU th ce wr s n).length ≤ tri n s + (n - s)
    rw [List.length_append]
    have := gU_len (th := th) (ce := ce) (wr := wr) (s := s) n
    omega
theorem tri_lt : ∀ n, n ≤ 8 → ∀ s, s < n → ∀ u, u < n → s ≤ u → tri n s + (u - s) < 36 := by decide +kernel
theorem tri_le : ∀ n, n ≤ 8 → tri n n ≤ 36 := by decide +kernel
theorem gSU_lt (hn : n ≤ 8) (hs : s < n) (hu : u < n) (h : s ≤ u) : (gS th ce wr n s ++ gU th ce wr s u).length < 36 := by
  rw [List.length_append]
  have h1 := gS_len (th := th) (ce := ce) (wr := wr) (n := n) s
  have h2 := gU_len (th := th) (ce := ce) (wr := wr) (s := s) u
  have h3 := tri_lt n hn s hs u hu h
  omega
theorem gS_le (hn : n ≤ 8) : (gS th ce wr n n).length ≤ 36 := Nat.le_trans (gS_len n) (tri_le n hn)
theorem gU_mem : ∀ {k} {a : Nat × Nat}, a ∈ gU th ce wr s k → a.1 = s ∧ s ≤ a.2 ∧ a.2 < k ∧ gfB th ce wr s a.2 = true := by
  intro k
  induction k with
  | zero => intro a h; exact absurd h List.not_mem_nil
  | succ k ih =>
    intro a h
    rcases List.mem_append.mp h with z | z
    · obtain ⟨h1, h2, h3, h4⟩ := ih z
      exact ⟨h1, h2, by omega, h4⟩
    · split at z
      · rename_i hc
        have e := List.mem_singleton.mp z
        subst e
        exact ⟨rfl, hc.1, Nat.lt_succ_self _, hc.2⟩
      · exact absurd z List.not_mem_nil
theorem gS_mem : ∀ {s} {a : Nat × Nat}, s ≤ n → a ∈ gS th ce wr n s → a.1 < n ∧ a.1 ≤ a.2 ∧ a.2 < n ∧ gfB th ce wr a.1 a.2 = true := by
  intro s
  induction s with
  | zero => intro a _ h; exact absurd h List.not_mem_nil
  | succ s ih =>
    intro a hs h
    rcases List.mem_append.mp h with z | z
    · exact ih (by omega) z
    · obtain ⟨h1, h2, h3, h4⟩ := gU_mem z
      rw [h1]
      exact ⟨by omega, h2, h3, h4⟩
end GL
def gAt (L : List (Nat × Nat)) (i : Nat) : Nat × Nat := (L[i]?).getD (0, 0)
theorem gAt_mem {L : List (Nat × Nat)} {i : Nat} (h : i < L.length) : gAt L i ∈ L := by
  unfold gAt
  rw [List.getElem?_eq_getElem h]
  exact List.getElem_mem h
def sI (f : Nat → Int32) : Nat → Int32
  | 0 => nI 0
  | n + 1 => sI f n + f n
theorem add_z (x : Int32) : x + nI 0 = x := Int32.add_zero x
theorem z_add (x : Int32) : nI 0 + x = x := Int32.zero_add x
theorem sI_add (f g : Nat → Int32) : ∀ n, sI (fun k => f k + g k) n = sI f n + sI g n := by
  intro n
  induction n with
  | zero => exact (add_z _).symm
  | succ n ih =>
    show sI (fun k => f k + g k) n + (f n + g n) = (sI f n + f n) + (sI g n + g n)
    rw [ih]
    simp only [Int32.add_assoc]
    congr 1
    simp only [← Int32.add_assoc]
    congr 1
    exact Int32.add_comm _ _
theorem sI_cong {f g : Nat → Int32} : ∀ {n}, (∀ k, k < n → f k = g k) → sI f n = sI g n := by
  intro n
  induction n with
  | zero => intro _; rfl
  | succ n ih => intro h; unfold sI; rw [ih (fun k hk => h k (Nat.lt_succ_of_lt hk)), h n (Nat.lt_succ_self n)]
theorem sI_zero {f : Nat → Int32} {n : Nat} (h : ∀ k, k < n → f k = nI 0) : sI f n = nI 0 := by
  rw [sI_cong h]
  induction n with
  | zero => rfl
  | succ n ih => unfold sI; rw [ih (fun k hk => h k (Nat.lt_succ_of_lt hk)), add_z]
def adk (k : Nat) (c : Int32) (q : Nat) : Int32 := if q = k then c else nI 0
theorem up1_add (f : Nat → Int32) (k : Nat) (c : Int32) : up1 f k (f k + c) = fun q => f q + adk k c q := by
  funext q
  unfold up1 adk
  by_cases h : q = k
  · rw [if_pos h, if_pos h, h]
  · rw [if_neg h, if_neg h, add_z]
theorem up1_add' {f : Nat → Int32} {k : Nat} {c x : Int32} (hx : x = f k + c) : up1 f k x = fun q => f q + adk k c q := by rw [hx, up1_add]
def kyN (a : Nat × Nat) : Nat := 8 * a.1 + a.2
def alB (a : Nat × Nat) : Bool := decide (a.1 = a.2)
/-! the reference's rings -/
def lsf {α β : Type} (L : List α) (f : α → β) (g : Nat → β) (k : Nat) : β := match L[k]? with
  | some a => f a
  | none => g k
theorem lsf_in {α β : Type} {L : List α} {f : α → β} {g : Nat → β} {k : Nat} (h : k < L.length) : lsf L f g k = f L[k] := by
  unfold lsf
  rw [List.getElem?_eq_getElem h]
theorem lsf_out {α β : Type} {L : List α} {f : α → β} {g : Nat → β} {k : Nat} (h : L.length ≤ k) : lsf L f g k = g k := by
  unfold lsf
  rw [List.getElem?_eq_none h]
def gsI (I : Nat → Nat → Int32) (L : List (Nat × Nat)) : Nat → Nat → Int32 := fun p k => if p = 13 then lsf L (fun a => nI a.1) (I 13) k else if p = 14 then lsf L (fun a => nI a.2) (I 14) k else if p = 0 then (if k = 22 then nI L.length else I 0 k) else I p k
theorem lst_push {α β : Type} (L : List α) (x : α) (f : α → β) (g : Nat → β) : up1 (lsf L f g) L.length (f x) = lsf (L ++ [x]) f g := by
  funext k
  unfold up1
  by_cases h : k = L.length
  · subst h
    rw [if_pos rfl]
    unfold lsf
    simp
  · rw [if_neg h]
    by_cases hl : k < L.length
    · unfold lsf
      rw [List.getElem?_append_left hl]
    · rw [lsf_out (by omega), lsf_out (by rw [List.length_append, List.length_singleton]; omega)]
theorem gsI_push (I : Nat → Nat → Int32) (L : List (Nat × Nat)) (s u : Nat) : up2 (up2 (up2 (gsI I L) 13 L.length (nI s)) 14 L.length (nI u)) 0 22 (nI L.length + nI 1) = gsI I (L ++ [(s, u)]) := by
  funext p
  by_cases h13 : p = 13
  · subst h13
    rw [up2_ne (by decide), up2_ne (by decide), up2_eq]
    exact lst_push L (s, u) (fun a => nI a.1) (I 13)
  by_cases h14 : p = 14
  · subst h14
    rw [up2_ne (by decide), up2_eq, up2_ne (by decide)]
    exact lst_push L (s, u) (fun a => nI a.2) (I 14)
  by_cases h0 : p = 0
  · subst h0
    rw [up2_eq, up2_ne (by decide), up2_ne (by decide)]
    funext k
    unfold up1
    by_cases hk : k = 22
    · subst hk
      rw [if_pos rfl]
      simp [gsI, nI_add]
    · rw [if_neg hk]
      simp [gsI, hk]
  · rw [up2_ne h0, up2_ne h14, up2_ne h13]
    funext k
    simp [gsI, h13, h14, h0]
theorem gsI_nil {I : Nat → Nat → Int32} : up2 I 0 22 (nI 0) = gsI I [] := by
  funext p
  by_cases h0 : p = 0
  · subst h0
    rw [up2_eq]
    funext k
    unfold up1
    by_cases hk : k = 22
    · subst hk; rfl
    · rw [if_neg hk]; simp [gsI, hk]
  · rw [up2_ne h0]
    funext k
    by_cases h13 : p = 13
    · subst h13; rfl
    · by_cases h14 : p = 14
      · subst h14; rfl
      · simp [gsI, h13, h14, h0]
section MR
variable {I : Nat → Nat → Int32} {J : Nat → Nat → Int64} {n : Nat} {th ce : Nat → Nat} {wr : Nat → Bool}
theorem RPm.gs (h : RPm I n th ce wr) (L : List (Nat × Nat)) : RPm (gsI I L) n th ce wr := h.cong rfl rfl rfl rfl
theorem gU_t {s u : Nat} (h : s ≤ u) (hg : gfB th ce wr s u = true) : gU th ce wr s (u + 1) = gU th ce wr s u ++ [(s, u)] := by
  show gU th ce wr s u ++ _ = _
  rw [if_pos ⟨h, hg⟩]
theorem gU_f {s u : Nat} (hg : gfB th ce wr s u = false) : gU th ce wr s (u + 1) = gU th ce wr s u := by
  show gU th ce wr s u ++ _ = _
  rw [if_neg (fun z => by rw [hg] at z; cases z.2), List.append_nil]
theorem mLg_in (h : RPm I n th ce wr) {s : Nat} (hs : s < n) : ∀ d u, u + d = n → s ≤ u → run mX12_laysGifts (17, 0, 0, [.ref 0, .int (nI s), .int (nI u)], [], mH (gsI I (gS th ce wr n s ++ gU th ce wr s u)) J) = run mX12_laysGifts (7, 0, 0, [.ref 0, .int (nI (s + 1)), .int (nI n)], [], mH (gsI I (gS th ce wr n (s + 1))) J) := by
  have hn := h.2.1
  intro d
  induction d with
  | zero =>
    intro u hu _
    have : u = n := by omega
    subst this
    have h' := h.gs (gS th ce wr u s ++ gU th ce wr s u)
    rw [bX12_laysGifts_17]
    simp (disch := omega) only [nI_lt', nI_le', nI_eq', inb_nI, clp, nI_add, nI_mul', cond_true, cond_false, h'.1, Nat.le_refl, if_true]
    rfl
  | succ d ih =>
    intro u hu hsu
    have hun : u < n := by omega
    have h' := h.gs (gS th ce wr n s ++ gU th ce wr s u)
    have hlen := gSU_lt (th := th) (ce := ce) (wr := wr) hn hs hun hsu
    have ih' := ih (u + 1) (by omega) (by omega)
    obtain ⟨a1, a2, a3, a4, a5⟩ := h'.2.2 s hs
    obtain ⟨b1, b2, b3, b4, b5⟩ := h'.2.2 u hun
    have hc : gsI I (gS th ce wr n s ++ gU th ce wr s u) 0 22 = nI (gS th ce wr n s ++ gU th ce wr s u).length := rfl
    rw [bX12_laysGifts_17]
    simp (disch := omega) only [nI_lt', nI_le', nI_eq', inb_nI, clp, nI_add, nI_mul', cond_true, cond_false, callK_some, Option.toList_some, Option.toList_none, List.cons_append, List.nil_append, h'.1, a3, hc, ite_tI, mAh h' hs hun, bX12_laysGifts_48, a2, b2]
    rw [if_neg (by omega)]
    rw [← nI_add (gS th ce wr n s ++ gU th ce wr s u).length 1, gsI_push, List.append_assoc]
    by_cases e : s = u
    · subst e
      rw [if_pos rfl]
      cases hw : wr s with
      | true =>
        rw [if_pos rfl, ← gU_t (Nat.le_refl s) (by unfold gfB; rw [if_pos rfl]; exact hw)]
        exact ih'
      | false =>
        rw [if_neg (by decide)]
        rw [gU_f (by unfold gfB; rw [if_pos rfl]; exact hw)] at ih'
        exact ih'
    · rw [if_neg e]
      cases ha : ahB th s u with
      | false =>
        rw [if_neg (by decide)]
        rw [gU_f (by unfold gfB; rw [if_neg e, ha]; rfl)] at ih'
        exact ih'
      | true =>
        rw [if_pos rfl]
        by_cases hce : ce s = ce u
        · rw [if_pos hce]
          rw [gU_f (by unfold gfB; rw [if_neg e, ha]; simp [hce])] at ih'
          exact ih'
        · rw [if_neg hce, ← gU_t hsu (by unfold gfB; rw [if_neg e, ha]; simp [hce])]
          exact ih'
theorem mLg_out (h : RPm I n th ce wr) : ∀ d s (z : Value), s + d = n → run mX12_laysGifts (7, 0, 0, [.ref 0, .int (nI s), z], [], mH (gsI I (gS th ce wr n s)) J) = some (none, mH (gsI I (gS th ce wr n n)) J) := by
  have hn := h.2.1
  intro d
  induction d with
  | zero =>
    intro s z hs
    have : s = n := by omega
    subst this
    have h' := h.gs (gS th ce wr s s)
    rw [bX12_laysGifts_7]
    simp (disch := omega) only [nI_lt', nI_le', nI_eq', inb_nI, clp, nI_add, nI_mul', cond_true, cond_false, h'.1, Nat.le_refl, if_true]
  | succ d ih =>
    intro s z hs
    have h' := h.gs (gS th ce wr n s)
    rw [bX12_laysGifts_7]
    simp (disch := omega) only [nI_lt', nI_le', nI_eq', inb_nI, clp, nI_add, nI_mul', cond_true, cond_false, h'.1]
    rw [if_neg (by omega)]
    have e := mLg_in (J := J) h (show s < n by omega) (n - s) s (by omega) (Nat.le_refl s)
    rw [gU_0 (Nat.le_refl s), List.append_nil] at e
    rw [e]
    exact ih (s + 1) _ (by omega)
theorem mLg (h : RPm I n th ce wr) : fX12_laysGifts [.ref 0] (mH I J) = some (none, mH (gsI I (gS th ce wr n n)) J) := by
  rw [eX12_laysGifts, gsI_nil]
  exact mLg_out h n 0 _ (by omega)
end MR
