/-! ===== the class's search without its memory: a fold over a tree ===== -/
abbrev KY : Type := Int64 × Int64 × Int64
def ky_ac (K : Nat → Nat → Int32) (x : KY) (t s : Int32) : KY := (m_aT K x.1 x.2.1 t s, m_aC K x.1 x.2.1 t, m_aE K x.1 x.2.2 t s)
def ky_em (K : Nat → Nat → Int32) (x : KY) (t : Int32) : KY := (m_eT x.1 (m_eq (m_qu K x.1 t) 8 0), m_eC K x.2.1 (m_eq (m_qu K x.1 t) 8 0), x.2.2)
def ky_al (K : Nat → Nat → Int32) (x : KY) (t : Nat) (si : Int32) : Nat → Nat → List (Nat × KY)
  | 0, _ => []
  | n + 1, s => (if ((si >>> (nI s &&& 31)) &&& (1 : Int32)) = 0 then [] else [(t, ky_ac K x (nI t) (nI s))]) ++ ky_al K x t si n (s + 1)
def ky_as (K : Nat → Nat → Int32) (x : KY) (t : Nat) : List (Nat × KY) := if m_can K x.1 (nI t) = 0 then [] else ky_al K x t (m_si K x.1 x.2.1 x.2.2 (nI t)) 9 0
def ky_es (K : Nat → Nat → Int32) (x : KY) (t : Nat) : List (Nat × KY) := if m_hq K x.1 (nI t) = 0 then [] else [(9, ky_em K x (nI t))]
def ky_th (K : Nat → Nat → Int32) (x : KY) : Nat → Nat → List (Nat × KY)
  | 0, _ => []
  | n + 1, t => ky_es K x t ++ (ky_as K x t ++ ky_th K x n (t + 1))
def ky_hu (K : Nat → Nat → Int32) (x : KY) : Nat → Nat → Option Nat
  | 0, _ => none
  | n + 1, t => if m_hu K x.1 (nI t) = 0 then ky_hu K x n (t + 1) else some t
def ky_mv (K : Nat → Nat → Int32) (x : KY) : Nat → Nat → Bool
  | 0, _ => false
  | n + 1, t => (!decide (m_hq K x.1 (nI t) = 0)) || (!decide (m_can K x.1 (nI t) = 0)) || ky_mv K x n (t + 1)
def pth (p : Nat → Int32) (d t : Nat) : Nat → Int32 := if t < 4 then up_1 p d (nI t) else p
def cT {α : Type} (K : Nat → Nat → Int32) (nt goal : Nat) (fin : α → KY → Nat → (Nat → Int32) → α) (st : α → Bool) : Nat → KY → Nat → (Nat → Int32) → α → α
  | 0, _, _, _, a => a
  | f + 1, x, d, p, a => if st a = true then a else
    match (if goal = 2 then none else ky_hu K x nt 0) with
    | some t => (ky_as K x t).foldl (fun a c => cT K nt goal fin st f c.2 (d + 1) (pth p d c.1) a) a
    | none => if ky_mv K x nt 0 = true then (ky_th K x nt 0).foldl (fun a c => cT K nt goal fin st f c.2 (d + 1) (pth p d c.1) a) a else fin a x d p
/-- an order on what has been gathered -/
def OA {α : Type} (fin : α → KY → Nat → (Nat → Int32) → α) (st : α → Bool) (le : α → α → Prop) : Prop :=
  (∀ a, le a a) ∧ (∀ a b c, le a b → le b c → le a c) ∧ (∀ a x d p, le a (fin a x d p)) ∧ (∀ a a' x d p p', le (fin a x d p) a' → fin a' x d p' = a') ∧ (∀ a a', st a = true → le a a' → st a' = true)
theorem fl_le {α β : Type} {le : α → α → Prop} {g : α → β → α} (h1 : ∀ a, le a a) (h2 : ∀ a b c, le a b → le b c → le a c) (h3 : ∀ a c, le a (g a c)) : ∀ (l : List β) (a : α), le a (l.foldl g a) := by
  intro l
  induction l with
  | nil => intro a; exact h1 a
  | cons c l ih => intro a; exact h2 _ _ _ (h3 a c) (ih (g a c))
theorem cT_le {α : Type} {K : Nat → Nat → Int32} {nt goal : Nat} {fin : α → KY → Nat → (Nat → Int32) → α} {st : α → Bool} {le : α → α → Prop} (O : OA fin st le) : ∀ (f : Nat) (x : KY) (d : Nat) (p : Nat → Int32) (a : α), le a (cT K nt goal fin st f x d p a) := by
  intro f
  induction f with
  | zero => intro x d p a; exact O.1 a
  | succ f ih =>
    intro x d p a
    unfold cT
    split
    · exact O.1 a
    · split
      · exact fl_le O.1 O.2.1 (fun a (c : Nat × KY) => ih c.2 (d + 1) (pth p d c.1) a) _ a
      · split
        · exact fl_le O.1 O.2.1 (fun a (c : Nat × KY) => ih c.2 (d + 1) (pth p d c.1) a) _ a
        · exact O.2.2.1 a x d p
theorem fl_ab {α β : Type} {le : α → α → Prop} {g g' : α → β → α} (h1 : ∀ a, le a a) (h2 : ∀ a b c, le a b → le b c → le a c) (h3 : ∀ a c, le a (g a c)) (h4 : ∀ a a' c, le (g a c) a' → g' a' c = a') : ∀ (l : List β) (a a' : α), le (l.foldl g a) a' → l.foldl g' a' = a' := by
  intro l
  induction l with
  | nil => intro a a' _; rfl
  | cons c l ih =>
    intro a a' h
    have e : g' a' c = a' := h4 a a' c (h2 _ _ _ (fl_le h1 h2 h3 l (g a c)) h)
    show l.foldl g' (g' a' c) = a'
    rw [e]
    exact ih (g a c) a' h
/-- what a visit has gathered, it gathers no second time -/
theorem cT_ab {α : Type} {K : Nat → Nat → Int32} {nt goal : Nat} {fin : α → KY → Nat → (Nat → Int32) → α} {st : α → Bool} {le : α → α → Prop} (O : OA fin st le) : ∀ (f : Nat) (x : KY) (d : Nat) (p p' : Nat → Int32) (a a' : α), le (cT K nt goal fin st f x d p a) a' → cT K nt goal fin st f x d p' a' = a' := by
  intro f
  induction f with
  | zero => intro x d p p' a a' _; rfl
  | succ f ih =>
    intro x d p p' a a' h
    have hle := O.2.1 _ _ _ (cT_le (K := K) (nt := nt) (goal := goal) O (f + 1) x d p a) h
    unfold cT
    by_cases hs' : st a' = true
    · rw [if_pos hs']
    · rw [if_neg hs']
      have hs : ¬ st a = true := fun hs => hs' (O.2.2.2.2 a a' hs hle)
      unfold cT at h
      rw [if_neg hs] at h
      split
      · rename_i t ht
        rw [ht] at h
        exact fl_ab (g := fun a c => cT K nt goal fin st f c.2 (d + 1) (pth p d c.1) a) O.1 O.2.1 (fun a c => cT_le O f c.2 (d + 1) (pth p d c.1) a) (fun a a' c => ih c.2 (d + 1) (pth p d c.1) (pth p' d c.1) a a') _ a a' h
      · rename_i ht
        rw [ht] at h
        split
        · rename_i hm
          simp only [hm, if_true] at h
          exact fl_ab (g := fun a c => cT K nt goal fin st f c.2 (d + 1) (pth p d c.1) a) O.1 O.2.1 (fun a c => cT_le O f c.2 (d + 1) (pth p d c.1) a) (fun a a' c => ih c.2 (d + 1) (pth p d c.1) (pth p' d c.1) a a') _ a a' h
        · rename_i hm
          simp only [hm] at h
          exact O.2.2.2.1 a a' x d p p' h
