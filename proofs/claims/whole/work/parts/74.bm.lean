/-! sets of states as bit maps: eight steps on one cell -/
def btN (x k : Nat) : Bool := Nat.beq (Nat.land (Nat.shiftRight x k) 1) 1
abbrev BS : Type := List (Nat × Nat)
def insO (k v : Nat) : BS → BS
  | [] => [(k, v)]
  | p :: r => bif Nat.beq k p.1 then (p.1, Nat.lor v p.2) :: r else p :: insO k v r
def mrgO : BS → BS → BS
  | [], m => m
  | p :: r, m => mrgO r (insO p.1 p.2 m)
abbrev BL : Type := List (Nat × BS)
def insL (k : Nat) (v : BS) : BL → BL
  | [] => [(k, v)]
  | p :: r => bif Nat.beq k p.1 then (p.1, mrgO v p.2) :: r else p :: insL k v r
def rdO (w : Nat) : BS → BS
  | [] => []
  | p :: r => (p.1, Nat.shiftLeft p.2 (p.1 * w)) :: rdO w r
def unO : BS → Nat
  | [] => 0
  | p :: r => Nat.lor p.2 (unO r)
/-- one step more -/
def stpO (W w s : Nat) (S : BS) : BS := bif btN W s then [(s + 1, unO S)] else rdO w S
def stsL (G W D : Nat) (S : BS) : Nat → List Nat → BL → BL
  | _, [], m => m
  | s, w :: ws, m => stsL G W D S (s + 1) ws (bif !btN D s && (!btN G s || btN D (Nat.sub s 1)) then insL (Nat.lor D (Nat.shiftLeft 1 s)) (stpO W w s S) m else m)
def nxtL (G W : Nat) (ws : List Nat) : BL → BL → BL
  | [], m => m
  | p :: r, m => nxtL G W ws r (stsL G W p.1 p.2 0 ws m)
def layB (G W : Nat) (ws : List Nat) : Nat → BL → BL
  | 0, l => l
  | k + 1, l => layB G W ws k (nxtL G W ws l [])
def wsF (W : Nat) : Nat → Nat → List Nat
  | _, 0 => []
  | s, d + 1 => wgN (fun u => Nat.testBit W u) 8 s :: wsF W (s + 1) d
/-- how many bits, if no more than the first number -/
def cbN : Nat → Nat → Nat
  | 0, x => bif Nat.beq x 0 then 0 else 1000000
  | f + 1, x => bif Nat.beq x 0 then 0 else cbN f (Nat.land x (Nat.sub x 1)) + 1
def cbO (f : Nat) : BS → Nat
  | [] => 0
  | p :: r => cbN f p.2 + cbO f r
def cbL (f : Nat) : BL → Nat
  | [] => 0
  | p :: r => cbO f p.2 + cbL f r
def unL : BL → Nat
  | [] => 0
  | p :: r => Nat.lor (unO p.2) (unL r)
def bchk (G W : Nat) : Bool :=
  (fun l7 => (fun l8 => Nat.ble (cbL 520 l7) 512 && Nat.ble (cbL 520 l8) 512 && Nat.ble (cbN 260 (unL l8)) 256) (nxtL G W (wsF W 0 8) l7 [])) (layB G W (wsF W 0 8) 7 [(0, [(0, 1)])])
def bchR (G W : Nat) : Bool := Nat.ble (cbN 260 (unL (layB G W (wsF W 0 8) 8 [(0, [(0, 1)])]))) 256
theorem btN_eq (x k : Nat) : btN x k = x.testBit k := by
  have h1 : Nat.land (Nat.shiftRight x k) 1 = x / 2 ^ k % 2 := by
    show (x >>> k) &&& 1 = _
    rw [Nat.and_one_is_mod, Nat.shiftRight_eq_div_pow]
  unfold btN
  rw [h1, Nat.testBit_eq_decide_div_mod_eq]
  by_cases h : x / 2 ^ k % 2 = 1
  · rw [h]; rfl
  · rw [decide_eq_false h]
    cases hq : Nat.beq (x / 2 ^ k % 2) 1
    · rfl
    · exact absurd (Nat.eq_of_beq_eq_true hq) h
theorem beq_f {a b : Nat} (h : Nat.beq a b = false) : a ≠ b := by
  intro e
  rw [e, Nat.beq_refl] at h
  exact Bool.noConfusion h
def hasO (S : BS) (h r : Nat) : Prop := ∃ x, (h, x) ∈ S ∧ x.testBit r = true
theorem insO_self {h x r : Nat} (hx : x.testBit r = true) : ∀ l : BS, hasO (insO h x l) h r := by
  intro l
  induction l with
  | nil => exact ⟨x, List.mem_singleton.mpr rfl, hx⟩
  | cons p l ih =>
    show hasO (bif Nat.beq h p.1 then (p.1, Nat.lor x p.2) :: l else p :: insO h x l) h r
    cases hb : Nat.beq h p.1 with
    | true =>
      have e := Nat.eq_of_beq_eq_true hb
      refine ⟨Nat.lor x p.2, by rw [e]; exact List.mem_cons_self, ?_⟩
      show (x ||| p.2).testBit r = true
      rw [Nat.testBit_or, hx, Bool.true_or]
    | false =>
      obtain ⟨y, y1, y2⟩ := ih
      exact ⟨y, List.mem_cons_of_mem _ y1, y2⟩
theorem insO_old {k v h r : Nat} : ∀ {l : BS}, hasO l h r → hasO (insO k v l) h r := by
  intro l
  induction l with
  | nil => rintro ⟨x, h1, _⟩; exact absurd h1 List.not_mem_nil
  | cons p l ih =>
    rintro ⟨x, h1, h2⟩
    show hasO (bif Nat.beq k p.1 then (p.1, Nat.lor v p.2) :: l else p :: insO k v l) h r
    cases hb : Nat.beq k p.1 with
    | true =>
      rcases List.mem_cons.mp h1 with e | e
      · refine ⟨Nat.lor v p.2, by rw [← e]; exact List.mem_cons_self, ?_⟩
        show (v ||| p.2).testBit r = true
        rw [Nat.testBit_or, ← e, h2, Bool.or_true]
      · exact ⟨x, List.mem_cons_of_mem _ e, h2⟩
    | false =>
      rcases List.mem_cons.mp h1 with e | e
      · exact ⟨x, by rw [e]; exact List.mem_cons_self, h2⟩
      · obtain ⟨y, y1, y2⟩ := ih ⟨x, e, h2⟩
        exact ⟨y, List.mem_cons_of_mem _ y1, y2⟩
theorem mrgO_r {h r : Nat} : ∀ {S m : BS}, hasO m h r → hasO (mrgO S m) h r := by
  intro S
  induction S with
  | nil => intro m hm; exact hm
  | cons p S ih => intro m hm; exact ih (insO_old hm)
theorem mrgO_l {h r : Nat} : ∀ {S m : BS}, hasO S h r → hasO (mrgO S m) h r := by
  intro S
  induction S with
  | nil => rintro m ⟨x, h1, _⟩; exact absurd h1 List.not_mem_nil
  | cons p S ih =>
    rintro m ⟨x, h1, h2⟩
    show hasO (mrgO S (insO p.1 p.2 m)) h r
    rcases List.mem_cons.mp h1 with e | e
    · refine mrgO_r ?_
      rw [← e]
      exact insO_self h2 m
    · exact ih ⟨x, e, h2⟩
def hasL (l : BL) (D h r : Nat) : Prop := ∃ S, (D, S) ∈ l ∧ hasO S h r
theorem insL_self {D h r : Nat} {S : BS} (hx : hasO S h r) : ∀ l : BL, hasL (insL D S l) D h r := by
  intro l
  induction l with
  | nil => exact ⟨S, List.mem_singleton.mpr rfl, hx⟩
  | cons p l ih =>
    show hasL (bif Nat.beq D p.1 then (p.1, mrgO S p.2) :: l else p :: insL D S l) D h r
    cases hb : Nat.beq D p.1 with
    | true =>
      have e := Nat.eq_of_beq_eq_true hb
      exact ⟨mrgO S p.2, by rw [e]; exact List.mem_cons_self, mrgO_l hx⟩
    | false =>
      obtain ⟨y, y1, y2⟩ := ih
      exact ⟨y, List.mem_cons_of_mem _ y1, y2⟩
theorem insL_old {k D h r : Nat} {v : BS} : ∀ {l : BL}, hasL l D h r → hasL (insL k v l) D h r := by
  intro l
  induction l with
  | nil => rintro ⟨x, h1, _⟩; exact absurd h1 List.not_mem_nil
  | cons p l ih =>
    rintro ⟨x, h1, h2⟩
    show hasL (bif Nat.beq k p.1 then (p.1, mrgO v p.2) :: l else p :: insL k v l) D h r
    cases hb : Nat.beq k p.1 with
    | true =>
      rcases List.mem_cons.mp h1 with e | e
      · refine ⟨mrgO v p.2, by rw [← e]; exact List.mem_cons_self, mrgO_r ?_⟩
        rw [← e]; exact h2
      · exact ⟨x, List.mem_cons_of_mem _ e, h2⟩
    | false =>
      rcases List.mem_cons.mp h1 with e | e
      · exact ⟨x, by rw [e]; exact List.mem_cons_self, h2⟩
      · obtain ⟨y, y1, y2⟩ := ih ⟨x, e, h2⟩
        exact ⟨y, List.mem_cons_of_mem _ y1, y2⟩
theorem rdO_has {w h r : Nat} : ∀ {S : BS}, hasO S h r → hasO (rdO w S) h (r + h * w) := by
  intro S
  induction S with
  | nil => rintro ⟨x, h1, _⟩; exact absurd h1 List.not_mem_nil
  | cons p S ih =>
    rintro ⟨x, h1, h2⟩
    rcases List.mem_cons.mp h1 with e | e
    · refine ⟨Nat.shiftLeft x (h * w), ?_, ?_⟩
      · show _ ∈ (p.1, Nat.shiftLeft p.2 (p.1 * w)) :: rdO w S
        rw [← e]; exact List.mem_cons_self
      · show (x <<< (h * w)).testBit (r + h * w) = true
        rw [Nat.testBit_shiftLeft, decide_eq_true (Nat.le_add_left _ _), Nat.add_sub_cancel, h2]
        rfl
    · obtain ⟨y, y1, y2⟩ := ih ⟨x, e, h2⟩
      exact ⟨y, List.mem_cons_of_mem _ y1, y2⟩
theorem unO_has {h r : Nat} : ∀ {S : BS}, hasO S h r → (unO S).testBit r = true := by
  intro S
  induction S with
  | nil => rintro ⟨x, h1, _⟩; exact absurd h1 List.not_mem_nil
  | cons p S ih =>
    rintro ⟨x, h1, h2⟩
    show (p.2 ||| unO S).testBit r = true
    rw [Nat.testBit_or]
    rcases List.mem_cons.mp h1 with e | e
    · rw [← e, h2, Bool.true_or]
    · rw [ih ⟨x, e, h2⟩, Bool.or_true]
theorem unL_has {D h r : Nat} : ∀ {l : BL}, hasL l D h r → (unL l).testBit r = true := by
  intro l
  induction l with
  | nil => rintro ⟨x, h1, _⟩; exact absurd h1 List.not_mem_nil
  | cons p l ih =>
    rintro ⟨x, h1, h2⟩
    show (unO p.2 ||| unL l).testBit r = true
    rw [Nat.testBit_or]
    rcases List.mem_cons.mp h1 with e | e
    · rw [← e, unO_has h2, Bool.true_or]
    · rw [ih ⟨x, e, h2⟩, Bool.or_true]
theorem stpO_has {W w s h r : Nat} {S : BS} (hS : hasO S h r) : hasO (stpO W w s S) (bif W.testBit s then s + 1 else h) (bif W.testBit s then r else r + h * w) := by
  unfold stpO
  rw [btN_eq]
  cases W.testBit s with
  | true => exact ⟨unO S, List.mem_singleton.mpr rfl, unO_has hS⟩
  | false => exact rdO_has hS
theorem sts_old {G W D D' h r : Nat} {S : BS} : ∀ {ws : List Nat} {s : Nat} {m : BL}, hasL m D' h r → hasL (stsL G W D S s ws m) D' h r := by
  intro ws
  induction ws with
  | nil => intro s m hm; exact hm
  | cons w ws ih =>
    intro s m hm
    refine ih ?_
    cases (!btN D s && (!btN G s || btN D (Nat.sub s 1))) with
    | true => exact insL_old hm
    | false => exact hm
theorem sts_hit {G W D h r : Nat} {S : BS} (hS : hasO S h r) {w : Nat} : ∀ {ws : List Nat} {s i : Nat} {m : BL}, ws[i]? = some w → D.testBit (s + i) = false → (G.testBit (s + i) = true → D.testBit (s + i - 1) = true) → hasL (stsL G W D S s ws m) (D ||| 2 ^ (s + i)) (bif W.testBit (s + i) then s + i + 1 else h) (bif W.testBit (s + i) then r else r + h * w) := by
  intro ws
  induction ws with
  | nil => intro s i m h1; cases h1
  | cons v ws ih =>
    intro s i m h1 h2 h3
    cases i with
    | zero =>
      have ev : v = w := Option.some.inj h1
      subst ev
      rw [Nat.add_zero] at h2 h3 ⊢
      have en : (!btN D s && (!btN G s || btN D (Nat.sub s 1))) = true := by
        rw [btN_eq, btN_eq, btN_eq, h2]
        cases hg : G.testBit s with
        | false => rfl
        | true => rw [show Nat.sub s 1 = s - 1 from rfl, h3 hg]; rfl
      show hasL (stsL G W D S (s + 1) ws (bif _ then _ else m)) _ _ _
      rw [en]
      refine sts_old ?_
      show hasL (insL (Nat.lor D (Nat.shiftLeft 1 s)) (stpO W v s S) m) _ _ _
      have ed : Nat.lor D (Nat.shiftLeft 1 s) = D ||| 2 ^ s := by
        show D ||| (1 <<< s) = _
        rw [Nat.shiftLeft_eq, Nat.one_mul]
      rw [ed]
      exact insL_self (stpO_has hS) m
    | succ i =>
      have e : s + (i + 1) = s + 1 + i := by omega
      rw [e] at h2 h3 ⊢
      exact ih (s := s + 1) h1 h2 h3
theorem nxt_old {G W D h r : Nat} {ws : List Nat} : ∀ {l m : BL}, hasL m D h r → hasL (nxtL G W ws l m) D h r := by
  intro l
  induction l with
  | nil => intro m hm; exact hm
  | cons p l ih => intro m hm; exact ih (sts_old hm)
theorem nxt_hit {G W D h r s w : Nat} {ws : List Nat} (h1 : ws[s]? = some w) (h2 : D.testBit s = false) (h3 : G.testBit s = true → D.testBit (s - 1) = true) : ∀ {l m : BL}, hasL l D h r → hasL (nxtL G W ws l m) (D ||| 2 ^ s) (bif W.testBit s then s + 1 else h) (bif W.testBit s then r else r + h * w) := by
  intro l
  induction l with
  | nil => rintro m ⟨x, q, _⟩; exact absurd q List.not_mem_nil
  | cons p l ih =>
    rintro m ⟨S, q1, q2⟩
    show hasL (nxtL G W ws l (stsL G W p.1 p.2 0 ws m)) _ _ _
    rcases List.mem_cons.mp q1 with e | e
    · refine nxt_old ?_
      rw [← e]
      have := sts_hit (G := G) (W := W) (s := 0) (i := s) (m := m) q2 h1 (by rw [Nat.zero_add]; exact h2) (by rw [Nat.zero_add]; exact h3)
      rw [Nat.zero_add] at this
      exact this
    · exact ih ⟨S, e, q2⟩
theorem layB_s {G W : Nat} {ws : List Nat} : ∀ {k : Nat} {l : BL}, layB G W ws (k + 1) l = nxtL G W ws (layB G W ws k l) [] := by
  intro k
  induction k with
  | zero => intro l; rfl
  | succ k ih =>
    intro l
    show layB G W ws (k + 1) (nxtL G W ws l []) = _
    rw [ih]
    rfl
theorem wsF_at {W : Nat} : ∀ {d s i : Nat}, i < d → (wsF W s d)[i]? = some (wgN (fun u => Nat.testBit W u) 8 (s + i)) := by
  intro d
  induction d with
  | zero => intro s i h; exact absurd h (Nat.not_lt_zero i)
  | succ d ih =>
    intro s i h
    cases i with
    | zero => rfl
    | succ i =>
      show (wsF W (s + 1) d)[i]? = _
      rw [ih (by omega), show s + 1 + i = s + (i + 1) by omega]
theorem wgF_cong {wr wr' : Nat → Bool} : ∀ {d k : Nat}, (∀ u, k ≤ u → u < k + d → wr u = wr' u) → wgF wr k d = wgF wr' k d := by
  intro d
  induction d with
  | zero => intro k _; rfl
  | succ d ih =>
    intro k h
    show (bif wr k then 1 else 9) * wgF wr (k + 1) d = (bif wr' k then 1 else 9) * wgF wr' (k + 1) d
    rw [h k (Nat.le_refl k) (by omega), ih (fun u u1 u2 => h u (by omega) (by omega))]
section CL8
variable {th ce : Nat → Nat} {wr : Nat → Bool} {c W : Nat}
theorem crc_lay (hce : ∀ s, s < 8 → ce s = c) (hW : ∀ s, s < 8 → W.testBit s = wr s) : ∀ {k : Nat} {t : CS}, crc th ce wr 8 c k t → hasL (layB (gpS th 8) W (wsF W 0 8) k [(0, [(0, 1)])]) t.1 t.2.1 t.2.2 := by
  intro k
  induction k with
  | zero =>
    intro t h
    rw [show t = cs0 from h]
    exact ⟨[(0, 1)], List.mem_singleton.mpr rfl, 1, List.mem_singleton.mpr rfl, rfl⟩
  | succ k ih =>
    rintro t ⟨t', s, h1, ⟨h2, h3, h4, h5⟩, rfl⟩
    rw [layB_s]
    have ew : (wsF W 0 8)[s]? = some (wgN wr 8 s) := by
      rw [wsF_at h2, Nat.zero_add]
      congr 1
      exact wgF_cong (fun u u1 u2 => hW u (by omega))
    have := nxt_hit (G := gpS th 8) (W := W) (m := []) ew h4 (fun hg => by
      obtain ⟨g1, g2⟩ := (gpS_bit s).mp hg
      unfold gpB at g2
      rw [Bool.and_eq_true] at g2
      have p0 : 0 < s := of_decide_eq_true g2.1
      have p1 : th s = th (s - 1) := of_decide_eq_true g2.2
      exact h5 (s - 1) (by omega) p1.symm (hce (s - 1) (by omega))) (ih h1)
    rw [hW s h2] at this
    exact this
theorem clr1 : ∀ x : Nat, x ≠ 0 → ∃ r0, ∀ r, x.testBit r = true → r ≠ r0 → (x &&& (x - 1)).testBit r = true := by
  intro x
  induction x using Nat.strongRecOn with
  | _ x ih =>
    intro hx
    by_cases he : x % 2 = 1
    · refine ⟨0, fun r h1 h2 => ?_⟩
      obtain ⟨r', rfl⟩ : ∃ r', r = r' + 1 := ⟨r - 1, by omega⟩
      rw [Nat.testBit_and, h1, Bool.true_and, Nat.testBit_succ, show (x - 1) / 2 = x / 2 by omega]
      rw [Nat.testBit_succ] at h1
      exact h1
    · obtain ⟨r0, h0⟩ := ih (x / 2) (by omega) (by omega)
      refine ⟨r0 + 1, fun r h1 h2 => ?_⟩
      cases r with
      | zero =>
        rw [Nat.testBit_zero] at h1
        exact absurd (of_decide_eq_true h1) he
      | succ r =>
        have h1' := h1
        rw [Nat.testBit_succ] at h1'
        have := h0 r h1' (by omega)
        rw [Nat.testBit_and, h1, Bool.true_and, Nat.testBit_succ, show (x - 1) / 2 = x / 2 - 1 by omega]
        rw [Nat.testBit_and, Bool.and_eq_true] at this
        exact this.2
theorem cbN_ok : ∀ f x, cbN f x < 1000000 → ∃ L : List Nat, L.length ≤ cbN f x ∧ ∀ r, x.testBit r = true → r ∈ L := by
  have z : ∀ x : Nat, Nat.beq x 0 = true → ∀ r, x.testBit r = true → r ∈ ([] : List Nat) := by
    intro x hb r hr
    rw [Nat.eq_of_beq_eq_true hb, Nat.zero_testBit] at hr
    exact Bool.noConfusion hr
  intro f
  induction f with
  | zero =>
    intro x h
    have h' : (bif Nat.beq x 0 then 0 else 1000000) < 1000000 := h
    show ∃ L : List Nat, L.length ≤ (bif Nat.beq x 0 then 0 else 1000000) ∧ _
    cases hb : Nat.beq x 0 with
    | true => exact ⟨[], Nat.zero_le _, z x hb⟩
    | false => rw [hb] at h'; exact absurd h' (by decide)
  | succ f ih =>
    intro x h
    have h' : (bif Nat.beq x 0 then 0 else cbN f (Nat.land x (Nat.sub x 1)) + 1) < 1000000 := h
    show ∃ L : List Nat, L.length ≤ (bif Nat.beq x 0 then 0 else cbN f (Nat.land x (Nat.sub x 1)) + 1) ∧ _
    cases hb : Nat.beq x 0 with
    | true => exact ⟨[], Nat.zero_le _, z x hb⟩
    | false =>
      rw [hb] at h'
      have h'' : cbN f (Nat.land x (Nat.sub x 1)) + 1 < 1000000 := h'
      obtain ⟨L, l1, l2⟩ := ih (Nat.land x (Nat.sub x 1)) (by omega)
      obtain ⟨r0, k0⟩ := clr1 x (beq_f hb)
      refine ⟨r0 :: L, ?_, fun r hr => ?_⟩
      · show L.length + 1 ≤ cbN f (Nat.land x (Nat.sub x 1)) + 1
        omega
      · by_cases e : r = r0
        · rw [e]; exact List.mem_cons_self
        · exact List.mem_cons_of_mem _ (l2 r (k0 r hr e))
theorem cbO_ok {f : Nat} : ∀ S : BS, cbO f S < 1000000 → ∃ L : List (Nat × Nat), L.length ≤ cbO f S ∧ ∀ h r, hasO S h r → (h, r) ∈ L := by
  intro S
  induction S with
  | nil => intro _; exact ⟨[], Nat.zero_le _, fun h r ⟨x, q, _⟩ => absurd q List.not_mem_nil⟩
  | cons p S ih =>
    intro h
    have h' : cbN f p.2 + cbO f S < 1000000 := h
    obtain ⟨L1, a1, a2⟩ := cbN_ok f p.2 (by omega)
    obtain ⟨L2, b1, b2⟩ := ih (by omega)
    refine ⟨L1.map (fun r => (p.1, r)) ++ L2, ?_, ?_⟩
    · rw [List.length_append, List.length_map]
      show _ ≤ cbN f p.2 + cbO f S
      omega
    · rintro h r ⟨x, q1, q2⟩
      rw [List.mem_append]
      rcases List.mem_cons.mp q1 with e | e
      · left
        rw [← e] at a2 ⊢
        exact List.mem_map.mpr ⟨r, a2 r q2, rfl⟩
      · exact Or.inr (b2 h r ⟨x, e, q2⟩)
def mkC (D h r : Nat) : CS := (D, h, r)
theorem cbL_ok {f : Nat} : ∀ l : BL, cbL f l < 1000000 → ∃ L : List CS, L.length ≤ cbL f l ∧ ∀ D h r, hasL l D h r → mkC D h r ∈ L := by
  intro l
  induction l with
  | nil => intro _; exact ⟨[], Nat.zero_le _, fun D h r ⟨x, q, _⟩ => absurd q List.not_mem_nil⟩
  | cons p l ih =>
    intro h
    have h' : cbO f p.2 + cbL f l < 1000000 := h
    obtain ⟨L1, a1, a2⟩ := cbO_ok (f := f) p.2 (by omega)
    obtain ⟨L2, b1, b2⟩ := ih (by omega)
    refine ⟨L1.map (fun q => mkC p.1 q.1 q.2) ++ L2, ?_, ?_⟩
    · rw [List.length_append, List.length_map]
      show _ ≤ cbO f p.2 + cbL f l
      omega
    · rintro D h r ⟨x, q1, q2⟩
      refine List.mem_append.mpr ?_
      rcases List.mem_cons.mp q1 with e | e
      · left
        rw [← e] at a2 ⊢
        exact List.mem_map.mpr ⟨(h, r), a2 h r q2, rfl⟩
      · exact Or.inr (b2 D h r ⟨x, e, q2⟩)
theorem bchk_ok (hce : ∀ s, s < 8 → ce s = c) (hW : ∀ s, s < 8 → W.testBit s = wr s) (h : bchk (gpS th 8) W = true) : (∀ j, j = 7 ∨ j = 8 → ∃ L : List CS, L.length ≤ 512 ∧ ∀ t, crc th ce wr 8 c j t → t ∈ L) ∧ ∃ L : List Nat, L.length ≤ 256 ∧ ∀ t : CS, crc th ce wr 8 c 8 t → t.2.2 ∈ L := by
  have h' : (Nat.ble (cbL 520 (layB (gpS th 8) W (wsF W 0 8) 7 [(0, [(0, 1)])])) 512 && Nat.ble (cbL 520 (nxtL (gpS th 8) W (wsF W 0 8) (layB (gpS th 8) W (wsF W 0 8) 7 [(0, [(0, 1)])]) [])) 512 && Nat.ble (cbN 260 (unL (nxtL (gpS th 8) W (wsF W 0 8) (layB (gpS th 8) W (wsF W 0 8) 7 [(0, [(0, 1)])]) []))) 256) = true := h
  rw [← layB_s, Bool.and_eq_true, Bool.and_eq_true] at h'
  obtain ⟨⟨k7, k8⟩, kr⟩ := h'
  have k7' := Nat.le_of_ble_eq_true k7
  have k8' : cbL 520 (layB (gpS th 8) W (wsF W 0 8) 8 [(0, [(0, 1)])]) ≤ 512 := Nat.le_of_ble_eq_true k8
  have kr' : cbN 260 (unL (layB (gpS th 8) W (wsF W 0 8) 8 [(0, [(0, 1)])])) ≤ 256 := Nat.le_of_ble_eq_true kr
  refine ⟨fun j hj => ?_, ?_⟩
  · rcases hj with rfl | rfl
    · obtain ⟨L, l1, l2⟩ := cbL_ok (f := 520) (layB (gpS th 8) W (wsF W 0 8) 7 [(0, [(0, 1)])]) (by omega)
      exact ⟨L, by omega, fun t ht => l2 _ _ _ (crc_lay hce hW ht)⟩
    · obtain ⟨L, l1, l2⟩ := cbL_ok (f := 520) (layB (gpS th 8) W (wsF W 0 8) 8 [(0, [(0, 1)])]) (by omega)
      exact ⟨L, by omega, fun t ht => l2 _ _ _ (crc_lay hce hW ht)⟩
  · obtain ⟨L, l1, l2⟩ := cbN_ok 260 (unL (layB (gpS th 8) W (wsF W 0 8) 8 [(0, [(0, 1)])])) (by omega)
    exact ⟨L, by omega, fun t ht => l2 _ (unL_has (crc_lay hce hW ht))⟩
theorem bchR_ok (hce : ∀ s, s < 8 → ce s = c) (hW : ∀ s, s < 8 → W.testBit s = wr s) (h : bchR (gpS th 8) W = true) : ∃ L : List Nat, L.length ≤ 256 ∧ ∀ t : CS, crc th ce wr 8 c 8 t → t.2.2 ∈ L := by
  have kr' : cbN 260 (unL (layB (gpS th 8) W (wsF W 0 8) 8 [(0, [(0, 1)])])) ≤ 256 := Nat.le_of_ble_eq_true h
  obtain ⟨L, l1, l2⟩ := cbN_ok 260 (unL (layB (gpS th 8) W (wsF W 0 8) 8 [(0, [(0, 1)])])) (by omega)
  exact ⟨L, by omega, fun t ht => l2 _ (unL_has (crc_lay hce hW ht))⟩
end CL8
