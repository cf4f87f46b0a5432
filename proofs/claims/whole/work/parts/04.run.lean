/-! the small machine's runs: a step by what comes behind it; a run is one step and the rest; stretches -/
theorem setK_eq {ρ : Type} : ∀ (ls : List Value) (i : Nat) (v : Value) (κ : List Value → Option ρ), setK ls i v κ = κ (ls.set i v) := by
  intro ls
  induction ls with
  | nil => intro i v κ; rfl
  | cons a r ih =>
    intro i v κ
    cases i with
    | zero => rfl
    | succ n => exact ih n v (fun r' => κ (a :: r'))
theorem killK_eq {ρ : Type} (ls : List Value) (i : Nat) (κ : List Value → Option ρ) : killK ls i κ = κ (kill ls i) := by
  cases i with
  | zero => rfl
  | succ j =>
    show killKv ls j κ ls[j]? = κ (killv ls j ls[j]?)
    generalize ls[j]? = o
    cases o with
    | none => rfl
    | some v =>
      show (bif Nat.beq v.category 2 then setK ls j .null κ else κ ls) = κ (bif Nat.beq v.category 2 then ls.set j .null else ls)
      cases Nat.beq v.category 2
      · rfl
      · exact setK_eq ls j .null κ
theorem stK_eq {ρ : Type} (ls : List Value) (i : Nat) (v : Value) (κ : List Value → Option ρ) : stK ls i v κ = κ ((kill ls i).set i v) := by
  unfold stK
  rw [killK_eq, setK_eq]
theorem mskK_eq {ρ : Type} : ∀ (ks : List Nat) (ls : List Value) (κ : List Value → Option ρ), mskK ks ls κ = κ (msk ks ls) := by
  intro ks
  induction ks with
  | nil => intro ls κ; rfl
  | cons k r ih =>
    intro ls κ
    show setK ls k .null (fun l => mskK r l κ) = κ (msk r (ls.set k .null))
    rw [setK_eq, ih]
theorem mkoK_eq {ρ : Type} (o : Option (List Nat)) (ls : List Value) (κ : List Value → Option ρ) : mkoK o ls κ = κ (mko o ls) := by
  cases o with
  | none => rfl
  | some ks => exact mskK_eq ks ls κ
theorem hIK_eq {ρ : Type} (h : HP) (p k : Nat) (x : Int32) (κ : HP → Option ρ) : hIK h p k x κ = κ (hI h p k x) := rfl
theorem hJK_eq {ρ : Type} (h : HP) (p k : Nat) (x : Int64) (κ : HP → Option ρ) : hJK h p k x κ = κ (hJ h p k x) := rfl
theorem hRK_eq {ρ : Type} (h : HP) (p k : Nat) (x : Nat) (κ : HP → Option ρ) : hRK h p k x κ = κ (hR h p k x) := rfl
theorem alcK_eq {ρ : Type} (h : HP) (kd m : Nat) (κ : Nat → HP → Option ρ) : alcK h kd m κ = κ h.1 (alc h kd m) := rfl
theorem swk_nf {ρ τ : Type} {d : Nat} {x : Int32} {k : Nat → Option ρ} {g : Nat → Option τ} {f : τ → Option ρ} (h : ∀ t, k t = (g t).bind f) : ∀ (r : List Nat) (lo : Int), swk k d x lo r = (swk g d x lo r).bind f := by
  intro r
  induction r with
  | nil => intro lo; exact h _
  | cons t r ih =>
    intro lo
    unfold swk
    split
    · exact h _
    · exact ih _
set_option maxHeartbeats 4000000 in
theorem stpI_nf {ρ : Type} (M : MI) (k : MS → Option ρ) (e : MR → Option ρ) (nx : Nat) (tg : List Nat) (c s : Nat) (ls st : List Value) (h : HP) (i : Instr) :
    stpI M k e nx tg c s ls st h i = (stpI M (fun σ => some (Sum.inl σ)) (fun r => some (Sum.inr r)) nx tg c s ls st h i).bind (fun x => Sum.elim k e x) := by
  cases i <;> first
    | rfl
    | (simp only [stpI, stK_eq, setK_eq, hIK_eq, hJK_eq, hRK_eq, alcK_eq]; (repeat' split) <;> first | rfl | (refine swk_nf ?_ _ _; intro off; rfl) | (cases hq : inb _ _ <;> rfl) | (cases hq : isB _ <;> rfl) | (cases hq : Nat.blt _ _ <;> rfl) | (cases hq : inb _ _ <;> cases hq2 : isB _ <;> rfl))
theorem stp_nf {ρ : Type} (M : MI) (k : MS → Option ρ) (e : MR → Option ρ) (σ : MS) :
    stp M k e σ = (stp M (fun σ => some (Sum.inl σ)) (fun r => some (Sum.inr r)) σ).bind (fun x => Sum.elim k e x) := by
  obtain ⟨pc, c, s, ls, st, h⟩ := σ
  unfold stp
  simp only [mkoK_eq]
  split
  · exact stpI_nf ..
  · rfl
theorem stp_some {ρ : Type} {M : MI} {k : MS → Option ρ} {e : MR → Option ρ} {σ : MS} {r : ρ} (h : stp M k e σ = some r) : (∃ σ', stp M (fun σ => some (Sum.inl σ)) (fun r => some (Sum.inr r)) σ = some (Sum.inl σ') ∧ k σ' = some r) ∨ ∃ x : MR, stp M (fun σ => some (Sum.inl σ)) (fun r => some (Sum.inr r)) σ = some (Sum.inr x) ∧ e x = some r := by
  rw [stp_nf] at h
  cases hq : stp M (fun σ => some (Sum.inl σ)) (fun r => some (Sum.inr r)) σ with
  | none => rw [hq] at h; cases h
  | some x =>
    rw [hq] at h
    cases x with
    | inl σ' => exact Or.inl ⟨σ', rfl, h⟩
    | inr x => exact Or.inr ⟨x, rfl, h⟩
theorem stp_mono {ρ : Type} {M : MI} {k k' : MS → Option ρ} {e : MR → Option ρ} (hk : ∀ σ r, k σ = some r → k' σ = some r) {σ : MS} {r : ρ} (h : stp M k e σ = some r) : stp M k' e σ = some r := by
  rw [stp_nf]
  rcases stp_some h with ⟨σ', h1, h2⟩ | ⟨x, h1, h2⟩
  · rw [h1]; exact hk _ _ h2
  · rw [h1]; exact h2
theorem runN_mono1 (M : MI) : ∀ (n : Nat) (σ : MS) (r : MR), runN M n σ = some r → runN M (n + 1) σ = some r := by
  intro n
  induction n with
  | zero => intro σ r h; cases h
  | succ n ih => intro σ r h; exact stp_mono (k := runN M n) (k' := runN M (n + 1)) (fun σ r => ih σ r) h
theorem runN_mono (M : MI) {n m : Nat} (hnm : n ≤ m) {σ : MS} {r : MR} (h : runN M n σ = some r) : runN M m σ = some r := by
  induction hnm with
  | refl => exact h
  | step _ ih => exact runN_mono1 M _ _ _ ih
noncomputable def run (M : MI) (σ : MS) : Option MR := @dite _ (∃ r, ∃ n, runN M n σ = some r) (Classical.propDecidable _) (fun h => some (Classical.choose h)) (fun _ => none)
theorem run_of {M : MI} {n : Nat} {σ : MS} {r : MR} (h : runN M n σ = some r) : run M σ = some r := by
  have hx : ∃ r, ∃ n, runN M n σ = some r := ⟨r, n, h⟩
  unfold run
  rw [dif_pos hx]
  obtain ⟨m, hm⟩ := Classical.choose_spec hx
  have h1 := runN_mono M (Nat.le_max_left n m) h
  have h2 := runN_mono M (Nat.le_max_right n m) hm
  rw [h1] at h2
  exact h2.symm
theorem run_ex {M : MI} {σ : MS} {r : MR} (h : run M σ = some r) : ∃ n, runN M n σ = some r := by
  unfold run at h
  by_cases hx : ∃ r, ∃ n, runN M n σ = some r
  · rw [dif_pos hx] at h
    have := Classical.choose_spec hx
    rw [Option.some.inj h] at this
    exact this
  · rw [dif_neg hx] at h
    cases h
theorem run_eq (M : MI) (σ : MS) : run M σ = stp M (run M) some σ := by
  cases hq : stp M (run M) some σ with
  | some r =>
    rcases stp_some hq with ⟨σ', h1, h2⟩ | ⟨x, h1, h2⟩
    · obtain ⟨n, hn⟩ := run_ex h2
      refine run_of (n := n + 1) ?_
      show stp M (runN M n) some σ = some r
      rw [stp_nf, h1]
      exact hn
    · refine run_of (n := 1) ?_
      show stp M (runN M 0) some σ = some r
      rw [stp_nf, h1]
      exact h2
  | none =>
    cases hr : run M σ with
    | none => rfl
    | some r =>
      obtain ⟨n, hn⟩ := run_ex hr
      cases n with
      | zero => cases hn
      | succ n =>
        have h1 := stp_mono (k := runN M n) (k' := run M) (fun σ r h => run_of h) hn
        rw [h1] at hq
        cases hq
/-- a stretch of at most n steps, up to the places where it stops -/
noncomputable def exK (M : MI) (stop : List Nat) : Nat → MS → Option MR
  | 0, σ => run M σ
  | n + 1, σ => stp M (fun σ' => bif stop.elem σ'.1 then run M σ' else exK M stop n σ') some σ
theorem exK_eq (M : MI) (stop : List Nat) : ∀ (n : Nat) (σ : MS), exK M stop n σ = run M σ := by
  intro n
  induction n with
  | zero => intro σ; rfl
  | succ n ih =>
    intro σ
    rw [run_eq]
    show stp M (fun σ' => bif stop.elem σ'.1 then run M σ' else exK M stop n σ') some σ = _
    have : (fun σ' : MS => bif stop.elem σ'.1 then run M σ' else exK M stop n σ') = run M := by
      funext σ'
      cases stop.elem σ'.1
      · exact ih σ'
      · rfl
    rw [this]
/-- a method's meaning: its run from its entry, with n locals -/
def mLoc : Nat → List Value → List Value
  | n, [] => List.replicate n .null
  | n, v :: r => bif Nat.beq v.category 2 then v :: .null :: mLoc (n - 2) r else v :: mLoc (n - 1) r
def catS (as : List Value) : Nat := (as.map (fun v => v.category)).sum
noncomputable def mth (M : MI) (n : Nat) : CF := fun as h => bif Nat.ble (catS as) n then run M (0, 0, 0, mLoc n as, [], h) else none
