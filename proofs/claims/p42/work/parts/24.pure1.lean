-- 24.pinv.lean.txt
/-! THE RELATION between the class's cells and the reference's -/
def xf (S : HC) (b k j : Nat) : Int32 := hI S (b + 1 + k) j
def mf (S : HC) (a k j : Nat) : Int32 := hI S a (5 + 6 * j + k)
/-- people that can be: kind, father, mother, sex, first, barred -/
def VA (k j : Nat) (v : Int32) : Prop := (k = 0 → ∃ c, c < 6 ∧ v = nI c) ∧ (k = 1 ∨ k = 2 → v = -1 ∨ ∃ p, p < j ∧ v = nI p) ∧ (k = 3 → v = 0 ∨ v = 1) ∧ (k = 4 → ∃ c, c < 8 ∧ v = nI c) ∧ (k = 5 → ∃ c, c < 256 ∧ v = nI c)
def VP (n : Nat) (f : Nat → Nat → Int32) : Prop := ∀ k j, k < 6 → j < n → VA k j (f k j)
theorem VP.kind {n : Nat} {f : Nat → Nat → Int32} (h : VP n f) {j : Nat} (hj : j < n) : ∃ c, c < 6 ∧ f 0 j = nI c := (h 0 j (by decide) hj).1 rfl
theorem VP.fat {n : Nat} {f : Nat → Nat → Int32} (h : VP n f) {j : Nat} (hj : j < n) : f 1 j = -1 ∨ ∃ p, p < j ∧ f 1 j = nI p := (h 1 j (by decide) hj).2.1 (Or.inl rfl)
theorem VP.mot {n : Nat} {f : Nat → Nat → Int32} (h : VP n f) {j : Nat} (hj : j < n) : f 2 j = -1 ∨ ∃ p, p < j ∧ f 2 j = nI p := (h 2 j (by decide) hj).2.1 (Or.inr rfl)
theorem VP.sex {n : Nat} {f : Nat → Nat → Int32} (h : VP n f) {j : Nat} (hj : j < n) : f 3 j = 0 ∨ f 3 j = 1 := (h 3 j (by decide) hj).2.2.1 rfl
theorem VP.fst {n : Nat} {f : Nat → Nat → Int32} (h : VP n f) {j : Nat} (hj : j < n) : ∃ c, c < 8 ∧ f 4 j = nI c := (h 4 j (by decide) hj).2.2.2.1 rfl
theorem VP.bar {n : Nat} {f : Nat → Nat → Int32} (h : VP n f) {j : Nat} (hj : j < n) : ∃ c, c < 256 ∧ f 5 j = nI c := (h 5 j (by decide) hj).2.2.2.2 rfl
def AG (n : Nat) (f g : Nat → Nat → Int32) : Prop := ∀ k, k < 6 → ∀ j, j < n → f k j = g k j
/-- a sign of the class's code as the reference has it -/
def trS (c : Int32) : Int32 := if c = 20124 then -1 else if c = 20038 then -2 else if c = 20060 then -3 else if c = 20061 then -4 else if c = 20062 then -5 else if c = 20043 then -6 else if c = 20045 then -7 else if c = 20042 then -8 else if c = 20047 then -9 else if c = 20033 then -10 else c
/-- a code that leaves one number behind: d how deep the stack is -/
def wfS (d : Nat) (c : Int32) : Option Nat := if 0 ≤ c then (if c ≤ 10002 then some (d + 1) else none) else if c = -10 then (if 1 ≤ d then some d else none) else if -9 ≤ c then (if 2 ≤ d then some (d - 1) else none) else none
def wfC (f : Nat → Int32) : Nat → Nat → Nat → Option Nat
  | 0, _, d => some d
  | n + 1, i, d => match wfS d (f i) with
    | none => none
    | some d2 => wfC f n (i + 1) d2
/-- the t-th text: the class's Law at cell q, the reference's in the row a; its key and length -/
def LAW (ln : Nat → Nat) (N : Nat) (S : HC) (q a t key c : Nat) : Prop := (92 ≤ q ∧ q < N) ∧ hR S q 2 = some (q - 1) ∧ (ln (q - 1) = c ∧ 1 ≤ c ∧ c ≤ 96) ∧ (key < 3 ∧ hI S q 0 = nI key) ∧ hI S a (89 + 2 * t) = nI (1000 * key + c) ∧ hI S a (90 + 2 * t) = hI S q 1 ∧ (∀ i, i < c → hI S a (117 + 96 * t + i) = trS (hI S (q - 1) i)) ∧ wfC (fun i => hI S a (117 + 96 * t + i)) c 0 0 = some 1 ∧ ∀ i, i < c → 0 ≤ hI S (q - 1) i ∧ (1 ≤ key → hI S a (117 + 96 * t + i) ≤ 10001)
def LWR (ln : Nat → Nat) (N : Nat) (S : HC) (b a : Nat) : Prop := ∃ m, m ≤ 14 ∧ hI S b 11 = nI m ∧ hI S a 4 = nI m ∧ ∀ t, t < m → ∃ q key c, hR S (b + 7) t = some q ∧ LAW ln N S q a t key c
def LR (S : HC) (b a n : Nat) : Prop := n ≤ 14 ∧ hI S b 6 = nI n ∧ hI S a 1 = nI n ∧ AG n (xf S b) (mf S a) ∧ VP n (mf S a) ∧ (hI S b 7 = hI S a 3 ∧ ∃ c, c ≤ 100 ∧ hI S a 3 = nI c) ∧ (hI S b 8 = hI S a 2 ∧ ∃ y, y ≤ 9999 ∧ hI S a 2 = nI y) ∧ hI S b 9 = hI S a 0
def pNow (ln : Nat → Nat) (N : Nat) (S : HC) : Prop := (∃ n, LR S 1 69 n) ∧ LWR ln N S 1 69
def pImg (ln : Nat → Nat) (N : Nat) (S : HC) : Prop := hI S 0 2 = hI S 68 3 ∧ ((hI S 68 3 = 0) ∨ (hI S 68 3 = 1 ∧ (∃ n, LR S 9 70 n) ∧ LWR ln N S 9 70))
def pTap (S : HC) : Prop := ∃ k, k ≤ 96 ∧ hI S 38 1 = nI k ∧ hI S 68 7 = nI k ∧ ∀ j, j < k → hI S 39 j = hI S 74 j ∧ ∃ c, c < 256 ∧ hI S 74 j = nI c
/-- one row: object r (sort, length), places p; the reference's s (sorts), z (sizes), d (cells) from o on -/
def isNum (v : Int32) : Prop := v = -1000000005 ∨ (-99999 ≤ v ∧ v ≤ 99999)
def pRow (S : HC) : Prop := ∀ i, i < 4 → (hI S (45 + 2 * i) 0 = hI S 82 i ∧ (hI S 82 i = -1 ∨ hI S 82 i = 0 ∨ hI S 82 i = 1)) ∧ (∃ l, l ≤ 24 ∧ hI S (45 + 2 * i) 1 = nI l ∧ hI S 83 i = nI l) ∧ ∀ j, j < 24 → hI S (46 + 2 * i) j = hI S 84 (24 * i + j) ∧ isNum (hI S 84 (24 * i + j))
def wrth (k f : Int32) : Int32 := if k = 1 then 10 * f + 6 else if k = 2 then 99 - 10 * f else if k = 3 then 2 * (10 * f + 6) else if k = 4 then 99 - 10 * f - 8 else if k = 5 then 5 else 10 * f
def pSlt (S : HC) : Prop := ∀ i, i < 5 → hI S (53 + 3 * i) 0 = hI S 85 i ∧ ((hI S 85 i = 0) ∨ (hI S 85 i = 1 ∧ hI S (53 + 3 * i) 1 = hI S 86 i ∧ (∃ c, c < 6 ∧ hI S 86 i = nI c) ∧ hI S 87 i = wrth (hI S 86 i) (hI S (53 + 3 * i) 2)) ∨ (hI S 85 i = 2 ∧ (∃ l, l ≤ 24 ∧ hI S (54 + 3 * i) 1 = nI l ∧ hI S 86 i = nI l) ∧ ∀ j, j < 24 → hI S (55 + 3 * i) j = hI S 88 (24 * i + j)) ∨ (hI S 85 i = 3 ∧ hI S (53 + 3 * i) 3 = hI S 86 i))
def pWai (S : HC) : Prop := ∃ w, w ≤ 60 ∧ hI S 0 9 = nI w ∧ hI S 68 33 = nI w ∧ ∀ j, j < w → hI S 43 j = hI S 90 j
def pKey (S : HC) : Prop := (∀ j, j < 11 → hI S 75 j = ([106, 111, 105, 110, 102, 101, 101, 102, 105, 110, 101] : List Int32).getD j 0) ∧ ∀ j, j < 4 → hI S 76 j = ([0, 4, 7, 11] : List Int32).getD j 0
def PI (N : Nat) (ln : Nat → Nat) (S : HC) : Prop := (SH S ∧ LN ln ∧ 91 ≤ N ∧ N % 2 = 1) ∧ pNow ln N S ∧ pImg ln N S ∧ pTap S ∧ pRow S ∧ pSlt S ∧ pWai S ∧ pKey S
/-- the cells that matter between calls: all but what is only scratch -/
def sc (r k : Nat) : Prop := (17 ≤ r ∧ r ≤ 37) ∨ r = 40 ∨ r = 44 ∨ (71 ≤ r ∧ r ≤ 73) ∨ (77 ≤ r ∧ r ≤ 81) ∨ r = 89 ∨ (r = 68 ∧ 8 ≤ k ∧ k ≤ 20)
def Sm (S S' : HC) : Prop := (∀ r k, ¬ sc r k → hI S' r k = hI S r k) ∧ (∀ r k, ¬ (r = 25 ∧ (k = 3 ∨ k = 4)) → r ≠ 24 → r ≠ 36 → hR S' r k = hR S r k)
theorem Sm.rf (S : HC) : Sm S S := ⟨fun _ _ _ => rfl, fun _ _ _ _ _ => rfl⟩
theorem Sm.tr {S S' S'' : HC} (h : Sm S S') (h2 : Sm S' S'') : Sm S S'' := ⟨fun r k hs => (h2.1 r k hs).trans (h.1 r k hs), fun r k h1 h3 h4 => (h2.2 r k h1 h3 h4).trans (h.2 r k h1 h3 h4)⟩
theorem Sm.sI {S S' : HC} (h : Sm S S') {r k : Nat} {v : Int32} (hs : sc r k) : Sm S (sI S' r k v) := ⟨fun a b ha => by rw [hI_ne (fun q => ha (by rw [q.1, q.2]; exact hs))]; exact h.1 a b ha, h.2⟩
theorem Sm.sJ {S S' : HC} (h : Sm S S') {r k : Nat} {v : Int64} : Sm S (sJ S' r k v) := h
theorem Sm.sR {S S' : HC} (h : Sm S S') {r k : Nat} {v : Option Nat} (hs : (r = 25 ∧ (k = 3 ∨ k = 4)) ∨ r = 24 ∨ r = 36) : Sm S (sR S' r k v) := ⟨h.1, fun a b h1 h2 h3 => by
  rw [hR_sR, if_neg]
  · exact h.2 a b h1 h2 h3
  · intro q
    rcases hs with ⟨e1, e2⟩ | e | e
    · exact h1 ⟨by omega, by omega⟩
    · omega
    · omega⟩
theorem RT_ok : RT.all (fun q => !(q.1 == 25 && (q.2.1 == 3 || q.2.1 == 4)) && !(q.1 == 24) && !(q.1 == 36)) = true := by decide
theorem SH.sm {S S' : HC} (h : SH S) (hs : Sm S S') : SH S' := h.of (fun q hq => by
  have := List.all_eq_true.mp RT_ok q hq
  simp at this
  refine hs.2 _ _ ?_ this.1.2 this.2
  omega)
/-- a part of the relation stays where its cells stay -/
theorem LAW.ag {ln : Nat → Nat} {N : Nat} {S S' : HC} {q a t key c : Nat} (h : LAW ln N S q a t key c) (h1 : ∀ r k, 91 ≤ r → hI S' r k = hI S r k) (h2 : ∀ r k, 91 ≤ r → hR S' r k = hR S r k) (h3 : ∀ k, 89 ≤ k → hI S' a k = hI S a k) : LAW ln N S' q a t key c := by
  obtain ⟨⟨a1, a2⟩, a3, a4, ⟨a5, a6⟩, a7, a8, a9, a10, a11⟩ := h
  refine ⟨⟨a1, a2⟩, by rw [h2 _ _ (by omega)]; exact a3, a4, ⟨a5, by rw [h1 _ _ (by omega)]; exact a6⟩, by rw [h3 _ (by omega)]; exact a7, by rw [h3 _ (by omega), h1 _ _ (by omega)]; exact a8, fun i hi => by rw [h3 _ (by omega), h1 _ _ (by omega)]; exact a9 i hi, ?_, fun i hi => by rw [h3 _ (by omega), h1 _ _ (by omega)]; exact a11 i hi⟩
  have e : (fun i => hI S' a (117 + 96 * t + i)) = fun i => hI S a (117 + 96 * t + i) := by funext i; exact h3 _ (by omega)
  rw [e]; exact a10
theorem LWR.ag {ln : Nat → Nat} {N : Nat} {S S' : HC} {b a : Nat} (h : LWR ln N S b a) (h1 : ∀ r k, 91 ≤ r → hI S' r k = hI S r k) (h2 : ∀ r k, 91 ≤ r → hR S' r k = hR S r k) (h3 : ∀ k, 89 ≤ k → hI S' a k = hI S a k) (h4 : hI S' b 11 = hI S b 11) (h5 : hI S' a 4 = hI S a 4) (h6 : ∀ k, hR S' (b + 7) k = hR S (b + 7) k) : LWR ln N S' b a := by
  obtain ⟨m, m1, m2, m3, m4⟩ := h
  refine ⟨m, m1, by rw [h4]; exact m2, by rw [h5]; exact m3, fun t ht => ?_⟩
  obtain ⟨q, key, c, q1, q2⟩ := m4 t ht
  exact ⟨q, key, c, by rw [h6]; exact q1, q2.ag h1 h2 h3⟩
theorem LR.ag {S S' : HC} {b a n : Nat} (h : LR S b a n) (h1 : ∀ r k, b ≤ r → r ≤ b + 6 → hI S' r k = hI S r k) (h2 : ∀ k, hI S' a k = hI S a k) : LR S' b a n := by
  obtain ⟨a1, a2, a3, a4, a5, a6, a7, a8⟩ := h
  have e : mf S' a = mf S a := by funext k j; exact h2 _
  refine ⟨a1, by rw [h1 _ _ (by omega) (by omega)]; exact a2, by rw [h2]; exact a3, fun k hk j hj => ?_, by rw [e]; exact a5, by rw [h1 _ _ (by omega) (by omega), h2]; exact a6, by rw [h1 _ _ (by omega) (by omega), h2]; exact a7, by rw [h1 _ _ (by omega) (by omega), h2]; exact a8⟩
  rw [e, ← a4 k hk j hj]
  exact h1 _ _ (by omega) (by omega)
theorem pNow.ag {ln : Nat → Nat} {N : Nat} {S S' : HC} (h : pNow ln N S) (h1 : ∀ r k, (1 ≤ r ∧ r ≤ 8) ∨ r = 69 ∨ 91 ≤ r → hI S' r k = hI S r k) (h2 : ∀ r k, r = 8 ∨ 91 ≤ r → hR S' r k = hR S r k) : pNow ln N S' := by
  obtain ⟨⟨n, hn⟩, hw⟩ := h
  exact ⟨⟨n, hn.ag (fun r k q1 q2 => h1 r k (by omega)) (fun k => h1 _ _ (by omega))⟩, hw.ag (fun r k q => h1 r k (by omega)) (fun r k q => h2 r k (by omega)) (fun k _ => h1 _ _ (by omega)) (h1 _ _ (by omega)) (h1 _ _ (by omega)) (fun k => h2 _ _ (by omega))⟩
theorem pImg.ag {ln : Nat → Nat} {N : Nat} {S S' : HC} (h : pImg ln N S) (h1 : ∀ r k, (r = 0 ∧ k = 2) ∨ (9 ≤ r ∧ r ≤ 16) ∨ (r = 68 ∧ k = 3) ∨ r = 70 ∨ 91 ≤ r → hI S' r k = hI S r k) (h2 : ∀ r k, r = 16 ∨ 91 ≤ r → hR S' r k = hR S r k) : pImg ln N S' := by
  obtain ⟨e1, e2⟩ := h
  refine ⟨by rw [h1 0 2 (by omega), h1 68 3 (by omega)]; exact e1, ?_⟩
  rw [h1 68 3 (by omega)]
  rcases e2 with e2 | ⟨e2, ⟨n, hn⟩, hw⟩
  · exact Or.inl e2
  · exact Or.inr ⟨e2, ⟨n, hn.ag (fun r k q1 q2 => h1 r k (by omega)) (fun k => h1 _ _ (by omega))⟩, hw.ag (fun r k q => h1 r k (by omega)) (fun r k q => h2 r k (by omega)) (fun k _ => h1 _ _ (by omega)) (h1 _ _ (by omega)) (h1 _ _ (by omega)) (fun k => h2 _ _ (by omega))⟩
theorem pTap.ag {S S' : HC} (h : pTap S) (h1 : ∀ r k, (r = 38 ∧ k = 1) ∨ r = 39 ∨ (r = 68 ∧ k = 7) ∨ r = 74 → hI S' r k = hI S r k) : pTap S' := by
  obtain ⟨k, k1, k2, k3, k4⟩ := h
  refine ⟨k, k1, by rw [h1 _ _ (by omega)]; exact k2, by rw [h1 _ _ (by omega)]; exact k3, fun j hj => ?_⟩
  rw [h1 39 j (by omega), h1 74 j (by omega)]
  exact k4 j hj
theorem pRow.ag {S S' : HC} (h : pRow S) (h1 : ∀ r k, (45 ≤ r ∧ r ≤ 52) ∨ (82 ≤ r ∧ r ≤ 84) → hI S' r k = hI S r k) : pRow S' := by
  intro i hi
  obtain ⟨a1, a2, a3⟩ := h i hi
  rw [h1 (45 + 2 * i) 0 (by omega), h1 (45 + 2 * i) 1 (by omega), h1 82 i (by omega), h1 83 i (by omega)]
  refine ⟨a1, a2, fun j hj => ?_⟩
  rw [h1 (46 + 2 * i) j (by omega), h1 84 _ (by omega)]
  exact a3 j hj
theorem pSlt.ag {S S' : HC} (h : pSlt S) (h1 : ∀ r k, (53 ≤ r ∧ r ≤ 67) ∨ (85 ≤ r ∧ r ≤ 88) → hI S' r k = hI S r k) : pSlt S' := by
  intro i hi
  have a := h i hi
  have e : ∀ j, hI S' (55 + 3 * i) j = hI S (55 + 3 * i) j := fun j => h1 _ _ (by omega)
  have e2 : ∀ j, hI S' 88 (24 * i + j) = hI S 88 (24 * i + j) := fun j => h1 _ _ (by omega)
  simp only [h1 (53 + 3 * i) 0 (by omega), h1 (53 + 3 * i) 1 (by omega), h1 (53 + 3 * i) 2 (by omega), h1 (53 + 3 * i) 3 (by omega), h1 (54 + 3 * i) 1 (by omega), h1 85 i (by omega), h1 86 i (by omega), h1 87 i (by omega), e, e2]
  exact a
theorem pWai.ag {S S' : HC} (h : pWai S) (h1 : ∀ r k, (r = 0 ∧ k = 9) ∨ (r = 68 ∧ k = 33) ∨ r = 43 ∨ r = 90 → hI S' r k = hI S r k) : pWai S' := by
  obtain ⟨w, w1, w2, w3, w4⟩ := h
  refine ⟨w, w1, by rw [h1 _ _ (by omega)]; exact w2, by rw [h1 _ _ (by omega)]; exact w3, fun j hj => ?_⟩
  rw [h1 43 j (by omega), h1 90 j (by omega)]
  exact w4 j hj
theorem pKey.ag {S S' : HC} (h : pKey S) (h1 : ∀ r k, r = 75 ∨ r = 76 → hI S' r k = hI S r k) : pKey S' :=
  ⟨fun j hj => by rw [h1 75 j (by omega)]; exact h.1 j hj, fun j hj => by rw [h1 76 j (by omega)]; exact h.2 j hj⟩
/-- only scratch was written -/
theorem PI.sm {N : Nat} {ln : Nat → Nat} {S S' : HC} (h : PI N ln S) (hs : Sm S S') : PI N ln S' := by
  obtain ⟨⟨a1, a2, a3, a4⟩, b1, b2, b3, b4, b5, b6, b7⟩ := h
  refine ⟨⟨a1.sm hs, a2, a3, a4⟩, b1.ag (fun r k q => hs.1 r k (by unfold sc; omega)) (fun r k q => hs.2 r k (by omega) (by omega) (by omega)), b2.ag (fun r k q => hs.1 r k (by unfold sc; omega)) (fun r k q => hs.2 r k (by omega) (by omega) (by omega)), b3.ag (fun r k q => hs.1 r k (by unfold sc; omega)), b4.ag (fun r k q => hs.1 r k (by unfold sc; omega)), b5.ag (fun r k q => hs.1 r k (by unfold sc; omega)), b6.ag (fun r k q => hs.1 r k (by unfold sc; omega)), b7.ag (fun r k q => hs.1 r k (by unfold sc; omega))⟩
/-- only the cells of one part were written (and scratch) -/
theorem PI.now {N : Nat} {ln : Nat → Nat} {S S' : HC} (h : PI N ln S) (hR' : ∀ r k, hR S' r k = hR S r k) (hs : ∀ r k, ¬ ((1 ≤ r ∧ r ≤ 7) ∨ r = 69) → hI S' r k = hI S r k) (hn : pNow ln N S') : PI N ln S' := by
  obtain ⟨⟨a1, a2, a3, a4⟩, b1, b2, b3, b4, b5, b6, b7⟩ := h
  exact ⟨⟨a1.of (fun q _ => hR' _ _), a2, a3, a4⟩, hn, b2.ag (fun r k q => hs r k (by omega)) (fun r k _ => hR' r k), b3.ag (fun r k q => hs r k (by omega)), b4.ag (fun r k q => hs r k (by omega)), b5.ag (fun r k q => hs r k (by omega)), b6.ag (fun r k q => hs r k (by omega)), b7.ag (fun r k q => hs r k (by omega))⟩
theorem PI.tap {N : Nat} {ln : Nat → Nat} {S S' : HC} (h : PI N ln S) (hR' : ∀ r k, hR S' r k = hR S r k) (hs : ∀ r k, ¬ (r = 38 ∨ r = 39 ∨ (r = 68 ∧ k = 7) ∨ r = 74) → hI S' r k = hI S r k) (hn : pTap S') : PI N ln S' := by
  obtain ⟨⟨a1, a2, a3, a4⟩, b1, b2, b3, b4, b5, b6, b7⟩ := h
  exact ⟨⟨a1.of (fun q _ => hR' _ _), a2, a3, a4⟩, b1.ag (fun r k q => hs r k (by omega)) (fun r k _ => hR' r k), b2.ag (fun r k q => hs r k (by omega)) (fun r k _ => hR' r k), hn, b4.ag (fun r k q => hs r k (by omega)), b5.ag (fun r k q => hs r k (by omega)), b6.ag (fun r k q => hs r k (by omega)), b7.ag (fun r k q => hs r k (by omega))⟩
theorem PI.row {N : Nat} {ln : Nat → Nat} {S S' : HC} (h : PI N ln S) (hR' : ∀ r k, hR S' r k = hR S r k) (hs : ∀ r k, ¬ ((45 ≤ r ∧ r ≤ 52) ∨ (82 ≤ r ∧ r ≤ 84) ∨ r = 89) → hI S' r k = hI S r k) (hn : pRow S') : PI N ln S' := by
  obtain ⟨⟨a1, a2, a3, a4⟩, b1, b2, b3, b4, b5, b6, b7⟩ := h
  exact ⟨⟨a1.of (fun q _ => hR' _ _), a2, a3, a4⟩, b1.ag (fun r k q => hs r k (by omega)) (fun r k _ => hR' r k), b2.ag (fun r k q => hs r k (by omega)) (fun r k _ => hR' r k), b3.ag (fun r k q => hs r k (by omega)), hn, b5.ag (fun r k q => hs r k (by omega)), b6.ag (fun r k q => hs r k (by omega)), b7.ag (fun r k q => hs r k (by omega))⟩
theorem PI.slt {N : Nat} {ln : Nat → Nat} {S S' : HC} (h : PI N ln S) (hR' : ∀ r k, hR S' r k = hR S r k) (hs : ∀ r k, ¬ ((53 ≤ r ∧ r ≤ 67) ∨ (85 ≤ r ∧ r ≤ 88)) → hI S' r k = hI S r k) (hn : pSlt S') : PI N ln S' := by
  obtain ⟨⟨a1, a2, a3, a4⟩, b1, b2, b3, b4, b5, b6, b7⟩ := h
  exact ⟨⟨a1.of (fun q _ => hR' _ _), a2, a3, a4⟩, b1.ag (fun r k q => hs r k (by omega)) (fun r k _ => hR' r k), b2.ag (fun r k q => hs r k (by omega)) (fun r k _ => hR' r k), b3.ag (fun r k q => hs r k (by omega)), b4.ag (fun r k q => hs r k (by omega)), hn, b6.ag (fun r k q => hs r k (by omega)), b7.ag (fun r k q => hs r k (by omega))⟩
theorem PI.wai {N : Nat} {ln : Nat → Nat} {S S' : HC} (h : PI N ln S) (hR' : ∀ r k, hR S' r k = hR S r k) (hs : ∀ r k, ¬ ((r = 0 ∧ k = 9) ∨ (r = 68 ∧ k = 33) ∨ r = 43 ∨ r = 90) → hI S' r k = hI S r k) (hn : pWai S') : PI N ln S' := by
  obtain ⟨⟨a1, a2, a3, a4⟩, b1, b2, b3, b4, b5, b6, b7⟩ := h
  exact ⟨⟨a1.of (fun q _ => hR' _ _), a2, a3, a4⟩, b1.ag (fun r k q => hs r k (by omega)) (fun r k _ => hR' r k), b2.ag (fun r k q => hs r k (by omega)) (fun r k _ => hR' r k), b3.ag (fun r k q => hs r k (by omega)), b4.ag (fun r k q => hs r k (by omega)), b5.ag (fun r k q => hs r k (by omega)), hn, b7.ag (fun r k q => hs r k (by omega))⟩
theorem PI.img {N : Nat} {ln : Nat → Nat} {S S' : HC} (h : PI N ln S) (hS : SH S') (hs : ∀ r k, ¬ ((r = 0 ∧ k = 2) ∨ (9 ≤ r ∧ r ≤ 16) ∨ (r = 68 ∧ k = 3) ∨ r = 70) → hI S' r k = hI S r k) (hr : ∀ r k, r ≠ 16 → hR S' r k = hR S r k) (hn : pImg ln N S') : PI N ln S' := by
  obtain ⟨⟨a1, a2, a3, a4⟩, b1, b2, b3, b4, b5, b6, b7⟩ := h
  exact ⟨⟨hS, a2, a3, a4⟩, b1.ag (fun r k q => hs r k (by omega)) (fun r k q => hr r k (by omega)), hn, b3.ag (fun r k q => hs r k (by omega)), b4.ag (fun r k q => hs r k (by omega)), b5.ag (fun r k q => hs r k (by omega)), b6.ag (fun r k q => hs r k (by omega)), b7.ag (fun r k q => hs r k (by omega))⟩
/-- changes of a land on both sides -/
theorem LR.scal {S S' : HC} {b a n : Nat} (h : LR S b a n) (h1 : ∀ r k, b + 1 ≤ r → r ≤ b + 6 → hI S' r k = hI S r k) (h2 : hI S' b 6 = hI S b 6) (h3 : hI S' a 1 = hI S a 1) (h4 : ∀ k, 5 ≤ k → hI S' a k = hI S a k) (h5 : hI S' b 7 = hI S' a 3 ∧ ∃ c, c ≤ 100 ∧ hI S' a 3 = nI c) (h6 : hI S' b 8 = hI S' a 2 ∧ ∃ y, y ≤ 9999 ∧ hI S' a 2 = nI y) (h7 : hI S' b 9 = hI S' a 0) : LR S' b a n := by
  obtain ⟨a1, a2, a3, a4, a5, a6, a7, a8⟩ := h
  have e : mf S' a = mf S a := by funext k j; exact h4 _ (by omega)
  refine ⟨a1, by rw [h2]; exact a2, by rw [h3]; exact a3, fun k hk j hj => ?_, by rw [e]; exact a5, h5, h6, h7⟩
  rw [e, ← a4 k hk j hj]
  exact h1 _ _ (by omega) (by omega)
theorem LR.pers {S : HC} {b a n : Nat} (h : LR S b a n) (hab : a < b ∨ b + 6 < a) {k j : Nat} {v : Int32} (hk : k < 6) (hj : j < n) (hv : VA k j v) : LR (sI (sI S (b + 1 + k) j v) a (5 + 6 * j + k) v) b a n := by
  obtain ⟨a1, a2, a3, a4, a5, a6, a7, a8⟩ := h
  have e1 : ∀ r i, ¬ (r = a ∧ i = 5 + 6 * j + k) → ¬ (r = b + 1 + k ∧ i = j) → hI (sI (sI S (b + 1 + k) j v) a (5 + 6 * j + k) v) r i = hI S r i := fun r i q1 q2 => by rw [hI_ne q1, hI_ne q2]
  have ex : ∀ k2 j2, k2 < 6 → j2 < n → xf (sI (sI S (b + 1 + k) j v) a (5 + 6 * j + k) v) b k2 j2 = if k2 = k ∧ j2 = j then v else xf S b k2 j2 := by
    intro k2 j2 q1 q2
    by_cases e : k2 = k ∧ j2 = j
    · rw [if_pos e, xf, hI_row (by omega), e.1, e.2, hI_self]
    · rw [if_neg e]; exact e1 _ _ (by omega) (by omega)
  have em : ∀ k2 j2, k2 < 6 → j2 < n → mf (sI (sI S (b + 1 + k) j v) a (5 + 6 * j + k) v) a k2 j2 = if k2 = k ∧ j2 = j then v else mf S a k2 j2 := by
    intro k2 j2 q1 q2
    by_cases e : k2 = k ∧ j2 = j
    · rw [if_pos e, mf, e.1, e.2, hI_self]
    · rw [if_neg e]; exact e1 _ _ (by omega) (by omega)
  refine ⟨a1, by rw [e1 _ _ (by omega) (by omega)]; exact a2, by rw [e1 _ _ (by omega) (by omega)]; exact a3, fun k2 q1 j2 q2 => ?_, fun k2 j2 q1 q2 => ?_, ?_, ?_, ?_⟩
  · rw [ex k2 j2 q1 q2, em k2 j2 q1 q2, a4 k2 q1 j2 q2]
  · rw [em k2 j2 q1 q2]
    by_cases e : k2 = k ∧ j2 = j
    · rw [if_pos e, e.1, e.2]; exact hv
    · rw [if_neg e]; exact a5 k2 j2 q1 q2
  · rw [e1 _ _ (by omega) (by omega), e1 _ _ (by omega) (by omega)]; exact a6
  · rw [e1 _ _ (by omega) (by omega), e1 _ _ (by omega) (by omega)]; exact a7
  · rw [e1 _ _ (by omega) (by omega), e1 _ _ (by omega) (by omega)]; exact a8
-- 25.phelp.lean.txt
/-! helpers of both sides, as equations -/
theorem rb_b (p : Prop) [Decidable p] (K : Prop) : rb_ .boolean (bI p) K = K := by by_cases h : p <;> simp [bI, h, rb_e0, rb_e1]
theorem p_isKind {ln : Nat → Nat} {S : HC} {x : Int32} {post : Int32 → HC → Prop} : wpX7_isKind ln S x post = post (bI (0 ≤ x ∧ x < 6)) S := by
  unfold wpX7_isKind BX7_isKind_14
  rw [rb_e0, rb_e1]
  by_cases h1 : x < 0
  · rw [if_pos h1, bI_f (fun q => absurd h1 (Int32.not_lt.mpr q.1))]
  · rw [if_neg h1]
    by_cases h2 : (6 : Int32) ≤ x
    · rw [if_pos h2, bI_f (fun q => absurd h2 (Int32.not_le.mpr q.2))]
    · rw [if_neg h2, bI_t ⟨Int32.not_lt.mp h1, Int32.not_le.mp h2⟩]
theorem p_isCharge {ln : Nat → Nat} {S : HC} {x : Int32} {post : Int32 → HC → Prop} : wpX7_isCharge ln S x post = post (bI (0 ≤ x ∧ x < 8)) S := by
  unfold wpX7_isCharge BX7_isCharge_14
  rw [rb_e0, rb_e1]
  by_cases h1 : x < 0
  · rw [if_pos h1, bI_f (fun q => absurd h1 (Int32.not_lt.mpr q.1))]
  · rw [if_neg h1]
    by_cases h2 : (8 : Int32) ≤ x
    · rw [if_pos h2, bI_f (fun q => absurd h2 (Int32.not_le.mpr q.2))]
    · rw [if_neg h2, bI_t ⟨Int32.not_lt.mp h1, Int32.not_le.mp h2⟩]
theorem p_isSheet {ln : Nat → Nat} {S : HC} {x : Int32} {post : Int32 → HC → Prop} : wpX7_isSheet ln S x post = post (bI (0 ≤ x ∧ x < 4)) S := by
  unfold wpX7_isSheet BX7_isSheet_13
  rw [rb_e0, rb_e1]
  by_cases h1 : x < 0
  · rw [if_pos h1, bI_f (fun q => absurd h1 (Int32.not_lt.mpr q.1))]
  · rw [if_neg h1]
    by_cases h2 : (4 : Int32) ≤ x
    · rw [if_pos h2, bI_f (fun q => absurd h2 (Int32.not_le.mpr q.2))]
    · rw [if_neg h2, bI_t ⟨Int32.not_lt.mp h1, Int32.not_le.mp h2⟩]
theorem p_isSlot {ln : Nat → Nat} {S : HC} {x : Int32} {post : Int32 → HC → Prop} : wpX7_isSlot ln S x post = post (bI (0 ≤ x ∧ x < 5)) S := by
  unfold wpX7_isSlot BX7_isSlot_13
  rw [rb_e0, rb_e1]
  by_cases h1 : x < 0
  · rw [if_pos h1, bI_f (fun q => absurd h1 (Int32.not_lt.mpr q.1))]
  · rw [if_neg h1]
    by_cases h2 : (5 : Int32) ≤ x
    · rw [if_pos h2, bI_f (fun q => absurd h2 (Int32.not_le.mpr q.2))]
    · rw [if_neg h2, bI_t ⟨Int32.not_lt.mp h1, Int32.not_le.mp h2⟩]
theorem p_has {ln : Nat → Nat} {S : HC} {b : Nat} {x : Int32} {post : Int32 → HC → Prop} : wpX0_has ln S b x post = post (bI (0 ≤ x ∧ x < hI S b 6 ∧ x < 14)) S := by
  unfold wpX0_has BX0_has_22
  rw [rb_e0, rb_e1, lt_e]
  by_cases h1 : x < 0
  · rw [if_pos h1, bI_f (fun q => absurd h1 (Int32.not_lt.mpr q.1))]
  · rw [if_neg h1]
    by_cases h2 : hI S b 6 ≤ x
    · rw [if_pos h2, bI_f (fun q => absurd h2 (Int32.not_le.mpr q.2.1))]
    · rw [if_neg h2]
      by_cases h3 : (14 : Int32) ≤ x
      · rw [if_pos h3, bI_f (fun q => absurd h3 (Int32.not_le.mpr q.2.2))]
      · rw [if_neg h3, bI_t ⟨Int32.not_lt.mp h1, Int32.not_le.mp h2, Int32.not_le.mp h3⟩]
theorem hasT {S : HC} {b n j : Nat} (hn : hI S b 6 = nI n) (h14 : n ≤ 14) (hj : j < n) : bI (0 ≤ nI j ∧ nI j < hI S b 6 ∧ nI j < 14) = 1 := bI_t ⟨nI_pos' (by omega), by rw [hn]; exact nI_lt hj (by omega), nI_lt (b := 14) (by omega) (by decide)⟩
theorem hasF {S : HC} {b n : Nat} {x : Int32} (hn : hI S b 6 = nI n) (hx : x < 0 ∨ nI n ≤ x) : bI (0 ≤ x ∧ x < hI S b 6 ∧ x < 14) = 0 := bI_f (fun q => by
  rcases hx with h | h
  · exact absurd h (Int32.not_lt.mpr q.1)
  · rw [hn] at q
    exact absurd h (Int32.not_le.mpr q.2.1))
theorem p_hasRoom {ln : Nat → Nat} {S : HC} {b n : Nat} {post : Int32 → HC → Prop} (hn : hI S b 6 = nI n) (h14 : n ≤ 14) : wpX0_hasRoom ln S b post = post (bI (n < 14)) S := by
  unfold wpX0_hasRoom BX0_hasRoom_20
  simp only [rb_e0, rb_e1, lt_e, hn]
  rw [if_neg (nI_pos (by omega))]
  by_cases h : n < 14
  · rw [if_neg (show ¬ (14 : Int32) ≤ nI n from nI_ge (a := n) (b := 14) h (by decide)), bI_t h]
  · rw [if_pos (show (14 : Int32) ≤ nI n from nI_le (a := 14) (b := n) (by omega) (by omega)), bI_f h]
theorem p_in {ln : Nat → Nat} {S : HC} {x a c : Int32} {post : Int32 → HC → Prop} : wpX8_in ln S x a c post = post (bI (a ≤ x ∧ x ≤ c)) S := by
  unfold wpX8_in BX8_in_14
  rw [rb_e0, rb_e1]
  by_cases h1 : x < a
  · rw [if_pos h1, bI_f (fun q => absurd h1 (Int32.not_lt.mpr q.1))]
  · rw [if_neg h1]
    by_cases h2 : c < x
    · rw [if_pos h2, bI_f (fun q => absurd h2 (Int32.not_lt.mpr q.2))]
    · rw [if_neg h2, bI_t ⟨Int32.not_lt.mp h1, Int32.not_lt.mp h2⟩]
theorem p_mCharge {ln : Nat → Nat} {S : HC} {x : Int32} {post : Int32 → HC → Prop} : wpX8_isCharge ln S x post = post (bI (0 ≤ x ∧ x ≤ 7)) S := by
  unfold wpX8_isCharge
  rw [p_in, rb_b]
theorem p_mSheet {ln : Nat → Nat} {S : HC} {x : Int32} {post : Int32 → HC → Prop} : wpX8_isSheet ln S x post = post (bI (0 ≤ x ∧ x ≤ 3)) S := by
  unfold wpX8_isSheet
  rw [p_in, rb_b]
theorem p_mSlot {ln : Nat → Nat} {S : HC} {x : Int32} {post : Int32 → HC → Prop} : wpX8_isSlot ln S x post = post (bI (0 ≤ x ∧ x ≤ 4)) S := by
  unfold wpX8_isSlot
  rw [p_in, rb_b]
theorem p_isOne {ln : Nat → Nat} {S : HC} {x : Int32} {post : Int32 → HC → Prop} (hs : SH S) (hl : LN ln) : wpX8_isOne ln S 68 x post = post (bI (0 ≤ x ∧ x ≤ hI S 69 1 - 1)) S := by
  unfold wpX8_isOne
  rw [sh68_0 hs, dn_e, ln69 hl, show (1 : Int32) = nI 1 from rfl, al_e (by decide) (by decide)]
  simp only [lt_e]
  rw [p_in, rb_b]
theorem oneT {S : HC} {n j : Nat} (hn : hI S 69 1 = nI n) (h14 : n ≤ 14) (hj : j < n) : bI (0 ≤ nI j ∧ nI j ≤ hI S 69 1 - 1) = 1 := bI_t ⟨nI_pos' (by omega), by rw [hn, show (1 : Int32) = nI 1 from rfl, pk_sub (by omega)]; exact nI_le (by omega) (by omega)⟩
theorem oneF {S : HC} {n : Nat} {x : Int32} (hn : hI S 69 1 = nI n) (h14 : n ≤ 14) (hx : x < 0 ∨ nI n ≤ x) : bI (0 ≤ x ∧ x ≤ hI S 69 1 - 1) = 0 := bI_f (fun q => by
  rcases hx with h | h
  · exact absurd h (Int32.not_lt.mpr q.1)
  · rw [hn] at q
    have q2 := q.2
    rw [i_le] at q2 h
    rw [nI_toInt (by omega)] at h
    have e : (nI n - 1).toInt = (n : Int) - 1 := pk_sub_toInt (a := n) (b := 1) (by omega) (by decide)
    omega)
/-- the same numbers below n on both sides -/
theorem rngE {x : Int32} {a : Int32} {n : Nat} (ha : a.toInt + 1 = n) (b : Int32) (hb : b.toInt = n) : bI (0 ≤ x ∧ x ≤ a) = bI (0 ≤ x ∧ x < b) := by
  have : (0 ≤ x ∧ x ≤ a) ↔ (0 ≤ x ∧ x < b) := by
    simp only [i_le, i_lt]
    omega
  simp only [bI, this]
theorem p_of {ln : Nat → Nat} {S : HC} {j k : Nat} {post : Int32 → HC → Prop} (hs : SH S) (hl : LN ln) (hj : j < 200) (hk : k < 6) : wpX8_of ln S 68 (nI j) (nI k) post = post (mf S 69 k j) S := by
  unfold wpX8_of
  rw [sh68_0 hs, dn_e]
  simp only [lt_e]
  rw [show (6 : Int32) * nI j = nI (6 * j) from pk_mul 6 j, show (5 : Int32) + nI (6 * j) = nI (5 + 6 * j) from nI_add 5 (6 * j), nI_add, ln69 hl, al_e (by omega) (by decide)]
  rfl
theorem p_of0 {ln : Nat → Nat} {S : HC} {j : Nat} {post : Int32 → HC → Prop} (hs : SH S) (hl : LN ln) (hj : j < 200) : wpX8_of ln S 68 (nI j) 0 post = post (mf S 69 0 j) S := p_of (k := 0) hs hl hj (by decide)
theorem p_of1 {ln : Nat → Nat} {S : HC} {j : Nat} {post : Int32 → HC → Prop} (hs : SH S) (hl : LN ln) (hj : j < 200) : wpX8_of ln S 68 (nI j) 1 post = post (mf S 69 1 j) S := p_of (k := 1) hs hl hj (by decide)
theorem p_of2 {ln : Nat → Nat} {S : HC} {j : Nat} {post : Int32 → HC → Prop} (hs : SH S) (hl : LN ln) (hj : j < 200) : wpX8_of ln S 68 (nI j) 2 post = post (mf S 69 2 j) S := p_of (k := 2) hs hl hj (by decide)
theorem p_of3 {ln : Nat → Nat} {S : HC} {j : Nat} {post : Int32 → HC → Prop} (hs : SH S) (hl : LN ln) (hj : j < 200) : wpX8_of ln S 68 (nI j) 3 post = post (mf S 69 3 j) S := p_of (k := 3) hs hl hj (by decide)
theorem p_of4 {ln : Nat → Nat} {S : HC} {j : Nat} {post : Int32 → HC → Prop} (hs : SH S) (hl : LN ln) (hj : j < 200) : wpX8_of ln S 68 (nI j) 4 post = post (mf S 69 4 j) S := p_of (k := 4) hs hl hj (by decide)
theorem p_of5 {ln : Nat → Nat} {S : HC} {j : Nat} {post : Int32 → HC → Prop} (hs : SH S) (hl : LN ln) (hj : j < 200) : wpX8_of ln S 68 (nI j) 5 post = post (mf S 69 5 j) S := p_of (k := 5) hs hl hj (by decide)
theorem p_becomes {ln : Nat → Nat} {S : HC} {i : Nat} {v : Int32} {post : Int32 → HC → Prop} (hs : SH S) (hl : LN ln) (hi : i < 1461) : wpX8_becomes ln S 68 (nI i) v post = post (hI S 69 i) (sI S 69 i v) := by
  unfold wpX8_becomes
  rw [sh68_0 hs]
  simp only [dn_e]
  rw [ln69 hl, al_e hi (by decide), as_e hi (by decide)]
theorem p_xwithin {ln : Nat → Nat} {S : HC} {x a c : Int32} {post : Int32 → HC → Prop} (hac : a ≤ c) : wpX7_within ln S x a c post = post (if x < a then a else if c < x then c else x) S := by
  unfold wpX7_within
  simp only [lt_e]
  congr 1
  simp only [i_lt, i_le] at *
  by_cases h1 : x.toInt < c.toInt
  · rw [if_pos h1]
    by_cases h2 : a.toInt < x.toInt
    · rw [if_pos h2, if_neg (by omega), if_neg (by omega)]
    · rw [if_neg h2]
      by_cases h3 : x.toInt < a.toInt
      · rw [if_pos h3]
      · rw [if_neg h3, if_neg (by omega)]
        exact i_eq.mpr (by omega)
  · rw [if_neg h1]
    by_cases h2 : a.toInt < c.toInt
    · rw [if_pos h2, if_neg (by omega)]
      by_cases h3 : c.toInt < x.toInt
      · rw [if_pos h3]
      · rw [if_neg h3]; exact i_eq.mpr (by omega)
    · rw [if_neg h2, if_neg (by omega)]
      by_cases h3 : c.toInt < x.toInt
      · rw [if_pos h3]; exact i_eq.mpr (by omega)
      · rw [if_neg h3]; exact i_eq.mpr (by omega)
theorem p_mwithin {ln : Nat → Nat} {S : HC} {x a c : Int32} {post : Int32 → HC → Prop} : wpX8_within ln S x a c post = post (if x < a then a else if c < x then c else x) S := by
  unfold wpX8_within
  by_cases h1 : a ≤ x
  · rw [if_pos h1, if_neg (Int32.not_lt.mpr h1)]
    by_cases h2 : x ≤ c
    · rw [if_pos h2, if_neg (Int32.not_lt.mpr h2)]
    · rw [if_neg h2, if_pos (Int32.not_le.mp h2)]
  · rw [if_neg h1, if_pos (Int32.not_le.mp h1)]
theorem p_worth {ln : Nat → Nat} {S : HC} {k f : Int32} {post : Int32 → HC → Prop} : wpX7_worthOf ln S k f post = post (wrth k f) S := by
  unfold wpX7_worthOf wrth
  simp only [lt_e]
  repeat' split
  all_goals rfl
theorem i91 (x : Int32) : (91 : Int32) - x = 99 - x - 8 := by
  apply Int32.toBitVec_inj.mp
  simp only [Int32.toBitVec_sub]
  rw [show (91 : Int32).toBitVec = (99 : Int32).toBitVec - (8 : Int32).toBitVec by decide]
  generalize x.toBitVec = a
  generalize (99 : Int32).toBitVec = c
  generalize (8 : Int32).toBitVec = d
  apply BitVec.eq_of_toInt_eq
  simp only [BitVec.toInt_sub, Int.bmod_sub_bmod, Int.sub_bmod_bmod]
  congr 1
  omega
theorem p_mworth {ln : Nat → Nat} {S : HC} {j : Nat} {post : Int32 → HC → Prop} (hs : SH S) (hl : LN ln) (hj : j < 200) : wpX8_worthOf ln S 68 (nI j) post = post (wrth (mf S 69 0 j) (mf S 69 4 j)) S := by
  unfold wpX8_worthOf wrth
  simp only [lt_e, p_of4 hs hl hj, p_of0 hs hl hj]
  repeat' split
  all_goals first | rfl | rw [i91]
theorem p_told0 {ln : Nat → Nat} {S : HC} {x : Int32} {post : Int32 → HC → Prop} : wpX8_told0 ln S x post = post (if 0 ≤ x then x else -1000000005) S := by
  unfold wpX8_told0
  split <;> rfl
def isU (k w : Int32) : Prop := w = 0 ∨ k = w ∨ (w = 1 ∧ k = 3) ∨ (w = 2 ∧ k = 4)
theorem p_isUnder {ln : Nat → Nat} {S : HC} {k w : Int32} {post : Int32 → HC → Prop} (h : isU k w → post 1 S) (h2 : ¬ isU k w → post 0 S) : wpX8_isUnder ln S k w post := by
  unfold wpX8_isUnder BX8_isUnder_19 BX8_isUnder_29 BX8_isUnder_33
  simp only [rb_e0, rb_e1]
  unfold isU at h h2
  repeat' split
  all_goals first | (apply h; simp_all; done) | (apply h2; simp_all; done) | (apply h2; omega) | skip
theorem kaLe : kaL.getD 0 0 = -1 ∧ kaL.getD 1 0 = 0 ∧ kaL.getD 2 0 = 0 ∧ kaL.getD 3 0 = 1 ∧ kaL.getD 4 0 = 2 ∧ kaL.getD 5 0 = 0 := by decide
theorem p_isOfKind0 {ln : Nat → Nat} {S : HC} {post : Int32 → HC → Prop} {w : Int32} {i n : Nat} : ∀ (m k : Nat), k < 6 → m ≤ 4 → i + 2 ≤ 6 → True → True := fun _ _ _ _ _ _ => trivial
-- 26.psimple.lean.txt
/-! steps: calls that only look at numbers and set one -/
/-- the two answers are one, and the relation holds on -/
def OK (N : Nat) (ln : Nat → Nat) (v w : Int32) (S : HC) : Prop := v = w ∧ PI N ln S
theorem nr {α : Type} {p : Prop} {a b : α} (h : ¬ p) (e : p) : a = b := absurd e h
theorem ge_of {x : Int32} {n : Nat} (hn : n < 2 ^ 31) (h : 0 ≤ x ∧ x < nI n) : ∃ j, j < n ∧ x = nI j := by
  rcases i_in x n hn with h2 | h2 | h2
  · exact h2
  · exact absurd h2 (Int32.not_lt.mpr h.1)
  · exact absurd h2 (Int32.not_le.mpr h.2)
theorem s_seed {N : Nat} {ln : Nat → Nat} {S : HC} (h : PI N ln S) (a1 : Int32) : wpX7_seed ln S 0 a1 fun v S => wpX8_seed ln S 68 a1 fun w S => OK N ln v w S := by
  obtain ⟨⟨hs, hl, -, -⟩, ⟨⟨n, hn⟩, hw⟩, -⟩ := id h
  unfold wpX7_seed wpX8_seed
  simp only [sh0_0 hs, dn_e, lt_e]
  rw [show (0 : Int32) = nI 0 from rfl, p_becomes (hs.sI _ _ _) hl (by decide)]
  refine ⟨by rw [hI_row (by decide)]; exact hn.2.2.2.2.2.2.2, h.now (fun _ _ => rfl) (fun r k q => by rw [hI_row (by omega), hI_row (by omega)]) ⟨⟨n, hn.scal (fun r k q1 q2 => by rw [hI_row (by omega), hI_row (by omega)]) (by rw [hI_row (by decide), hI_ne (by decide)]) (by rw [hI_ne (by decide), hI_row (by decide)]) (fun k q => by rw [hI_ne (by omega), hI_row (by decide)]) ?_ ?_ ?_⟩, hw.ag (fun r k q => by rw [hI_row (by omega), hI_row (by omega)]) (fun _ _ _ => rfl) (fun k q => by rw [hI_ne (by omega), hI_row (by omega)]) (by rw [hI_row (by decide), hI_ne (by decide)]) (by rw [hI_ne (by decide), hI_row (by decide)]) (fun _ => rfl)⟩⟩
  · rw [hI_row (by decide), hI_ne (by decide), hI_ne (by decide), hI_row (by decide)]; exact hn.2.2.2.2.2.1
  · rw [hI_row (by decide), hI_ne (by decide), hI_ne (by decide), hI_row (by decide)]; exact hn.2.2.2.2.2.2.1
  · rw [hI_row (by decide), hI_self, hI_self]
theorem s_fertile {N : Nat} {ln : Nat → Nat} {S : HC} (h : PI N ln S) (a1 : Int32) : wpX7_fertile ln S 0 a1 fun v S => wpX8_fertile ln S 68 a1 fun w S => OK N ln v w S := by
  obtain ⟨⟨hs, hl, -, -⟩, ⟨⟨n, hn⟩, hw⟩, -⟩ := id h
  unfold wpX7_fertile wpX8_fertile BX7_fertile_10
  simp only [sh0_0 hs, dn_e, lt_e, p_in]
  by_cases h1 : a1 < 0
  · rw [if_pos h1, bI_f (fun q => absurd h1 (Int32.not_lt.mpr q.1)), if_pos rfl]
    exact ⟨rfl, h⟩
  rw [if_neg h1]
  by_cases h2 : a1 ≤ 100
  · rw [if_pos h2, bI_t ⟨Int32.not_lt.mp h1, h2⟩, if_neg (by decide), show (3 : Int32) = nI 3 from rfl, p_becomes (hs.sI _ _ _) hl (by decide)]
    obtain ⟨c, hc, rfl⟩ := nI_of2 (n := 100) (M := 100) rfl h1 h2
    refine ⟨by rw [hI_row (by decide)]; exact hn.2.2.2.2.2.1.1, h.now (fun _ _ => rfl) (fun r k q => by rw [hI_row (by omega), hI_row (by omega)]) ⟨⟨n, hn.scal (fun r k q1 q2 => by rw [hI_row (by omega), hI_row (by omega)]) (by rw [hI_row (by decide), hI_ne (by decide)]) (by rw [hI_ne (by decide), hI_row (by decide)]) (fun k q => by rw [hI_ne (by omega), hI_row (by decide)]) ?_ ?_ ?_⟩, hw.ag (fun r k q => by rw [hI_row (by omega), hI_row (by omega)]) (fun _ _ _ => rfl) (fun k q => by rw [hI_ne (by omega), hI_row (by omega)]) (by rw [hI_row (by decide), hI_ne (by decide)]) (by rw [hI_ne (by decide), hI_row (by decide)]) (fun _ => rfl)⟩⟩
    · rw [hI_row (by decide), hI_self, hI_self]; exact ⟨rfl, c, hc, rfl⟩
    · rw [hI_row (by decide), hI_ne (by decide), hI_ne (by decide), hI_row (by decide)]; exact hn.2.2.2.2.2.2.1
    · rw [hI_row (by decide), hI_ne (by decide), hI_ne (by decide), hI_row (by decide)]; exact hn.2.2.2.2.2.2.2
  · rw [if_neg h2, bI_f (fun q => h2 q.2), if_pos rfl]
    exact ⟨rfl, h⟩
theorem s_tell {N : Nat} {ln : Nat → Nat} {S : HC} (h : PI N ln S) (a1 : Int32) : wpX7_tell ln S 0 a1 fun v S => wpX8_tell ln S 68 a1 fun w S => OK N ln v w S := by
  obtain ⟨⟨hs, hl, -, -⟩, -, -, -, -, -, ⟨w, w1, w2, w3, w4⟩, -⟩ := id h
  unfold wpX7_tell wpX8_tell BX7_tell_16
  simp only [sh0_8 hs, dn_e, lt_e, w2]
  rw [if_neg (nI_pos (by omega))]
  by_cases hw : w < 60
  · rw [if_pos (show nI w < 60 from nI_lt (b := 60) hw (by decide)), ln43 hl, as_e hw (by decide)]
    have e3 : hI (sI (sI S 43 w a1) 0 9 (hI (sI S 43 w a1) 0 9 + 1)) 68 33 = nI w := by rw [hI_row (by decide), hI_row (by decide)]; exact w3
    simp only [sh68_32 ((hs.sI 43 w a1).sI 0 9 _), dn_e, e3]
    rw [if_neg (show ¬ nI w = 60 from fun q => by have := (nI_eq (b := 60) (by omega) (by decide)).mp q; omega), ln90 hl, as_e hw (by decide)]
    have e4 : hI (sI S 43 w a1) 0 9 = nI w := by rw [hI_row (by decide)]; exact w2
    rw [e4]
    have e5 : hI (sI (sI (sI S 43 w a1) 0 9 (nI w + 1)) 90 w a1) 68 33 = nI w := by rw [hI_row (by decide), hI_row (by decide), hI_row (by decide)]; exact w3
    rw [e5, hI_self, hI_self]
    refine ⟨rfl, h.wai (fun _ _ => rfl) (fun r k q => by rw [hI_ne (by omega), hI_row (by omega), hI_ne (by omega), hI_row (by omega)]) ⟨w + 1, by omega, ?_, ?_, fun j hj => ?_⟩⟩
    · rw [hI_row (by decide), hI_row (by decide), hI_self]; exact nI_1 w
    · rw [hI_self]; exact nI_1 w
    · by_cases e : j = w
      · subst e; simp [hI_sI]
      · simp [hI_sI, e]
        exact w4 j (by omega)
  · have hw2 : w = 60 := by omega
    subst hw2
    rw [if_neg (by decide), w3, if_pos (show nI 60 = 60 from rfl)]
    exact ⟨rfl, h⟩
theorem s_trim {N : Nat} {ln : Nat → Nat} {S : HC} (h : PI N ln S) (a1 : Int32) : wpX7_trim ln S 0 a1 fun v S => wpX8_trim ln S 68 a1 fun w S => OK N ln v w S := by
  obtain ⟨⟨hs, hl, -, -⟩, -, -, ⟨k, k1, k2, k3, k4⟩, -⟩ := id h
  unfold wpX7_trim wpX8_trim BX7_trim_18
  simp only [sh0_5 hs, sh37_0 hs, dn_e, lt_e, p_in, k2]
  by_cases h1 : a1 < 0
  · rw [if_pos h1, bI_f (fun q => absurd h1 (Int32.not_lt.mpr q.1)), if_pos rfl]
    exact ⟨rfl, h⟩
  rw [if_neg h1]
  by_cases h2 : a1 ≤ nI k
  · rw [if_pos h2, hI_row (by decide), k3, bI_t ⟨Int32.not_lt.mp h1, h2⟩, if_neg (by decide)]
    obtain ⟨c, hc, rfl⟩ := nI_of2 (n := k) (M := nI k) (nI_toInt (by omega)) h1 h2
    refine ⟨rfl, h.tap (fun _ _ => rfl) (fun r q1 q => by rw [hI_ne (by omega), hI_ne (by omega)]) ⟨c, by omega, ?_, ?_, fun j hj => ?_⟩⟩
    · rw [hI_row (by decide), hI_self]
    · rw [hI_self]
    · rw [hI_row (by decide), hI_row (by decide), hI_row (by decide), hI_row (by decide)]
      exact k4 j (by omega)
  · rw [if_neg h2, k3, bI_f (fun q => h2 q.2), if_pos rfl]
    exact ⟨rfl, h⟩
/-- a change of one thing of one of the people, on both sides -/
theorem PI.pers {N : Nat} {ln : Nat → Nat} {S : HC} (h : PI N ln S) {n : Nat} (hn : LR S 1 69 n) {k j : Nat} {v : Int32} (hk : k < 6) (hj : j < n) (hv : VA k j v) : PI N ln (sI (sI S (2 + k) j v) 69 (5 + 6 * j + k) v) := by
  have hn14 := hn.1
  have e : (1 + 1 + k) = 2 + k := by omega
  have hp := hn.pers (by omega) hk hj hv
  rw [e] at hp
  refine h.now (fun _ _ => rfl) (fun r i q => by rw [hI_row (by omega), hI_row (by omega)]) ⟨⟨n, hp⟩, h.2.1.2.ag (fun r i q => by rw [hI_row (by omega), hI_row (by omega)]) (fun _ _ _ => rfl) (fun i q => by rw [hI_ne (by omega), hI_row (by omega)]) (by rw [hI_row (by decide), hI_row (by omega)]) (by rw [hI_ne (by omega), hI_row (by omega)]) (fun _ => rfl)⟩
theorem s_turns {N : Nat} {ln : Nat → Nat} {S : HC} (h : PI N ln S) (a1 a2 : Int32) : wpX7_turns ln S 0 a1 a2 fun v S => wpX8_turns ln S 68 a1 a2 fun w S => OK N ln v w S := by
  obtain ⟨⟨hs, hl, -, -⟩, ⟨⟨n, hn⟩, hw⟩, -⟩ := id h
  unfold wpX7_turns wpX8_turns BX7_turns_18 BX8_turns_31
  simp only [sh0_0 hs, sh1_0 hs, dn_e, lt_e, p_in, p_has, p_isKind]
  rcases i_in a1 n (by have := hn.1; omega) with ⟨j, hj, rfl⟩ | hx
  · rw [hasT hn.2.1 hn.1 hj, if_neg (by decide)]
    by_cases h2 : 0 ≤ a2 ∧ a2 < 6
    · rw [bI_t h2, if_neg (by decide), ln2 hl, al_e (by have := hn.1; omega) (by decide), as_e (by have := hn.1; omega) (by decide)]
      simp only [p_isOne (hs.sI 2 j a2) hl]
      rw [oneT (n := n) (by rw [hI_row (by decide)]; exact hn.2.2.1) hn.1 hj, if_neg (by decide)]
      obtain ⟨c, hc, rfl⟩ := ge_of (n := 6) (by decide) h2
      rw [bI_t ⟨h2.1, (show nI c ≤ 5 from nI_le (b := 5) (by omega) (by decide))⟩, if_neg (by decide), show (6 : Int32) * nI j = nI (6 * j) from pk_mul 6 j, show (5 : Int32) + nI (6 * j) = nI (5 + 6 * j) from nI_add 5 (6 * j), p_becomes (hs.sI _ _ _) hl (by have := hn.1; omega)]
      refine ⟨?_, h.pers (k := 0) hn (by decide) hj ⟨fun _ => ⟨c, hc, rfl⟩, by omega, by omega, by omega, by omega⟩⟩
      rw [hI_row (by decide)]
      exact hn.2.2.2.1 0 (by decide) j hj
    · rw [bI_f h2, if_pos rfl]
      simp only [p_isOne hs hl]
      rw [oneT hn.2.2.1 hn.1 hj, if_neg (by decide), bI_f (fun q => h2 ⟨q.1, Int32.lt_of_le_of_lt q.2 (by decide)⟩), if_pos rfl]
      exact ⟨rfl, h⟩
  · rw [hasF hn.2.1 hx, if_pos rfl]
    simp only [p_isOne hs hl]
    rw [oneF hn.2.2.1 hn.1 hx, if_pos rfl]
    exact ⟨rfl, h⟩
-- 27.psimple2.lean.txt
/-! steps: kinds, people that come -/
theorem iok_s {ln : Nat → Nat} {S : HC} {post : Int32 → HC → Prop} {w : Int32} {n i c : Nat} (hi : i < 6) (hc : c < 6) : LX7_isOfKind_4 ln post (n + 1) S w (nI c) (nI i) = if nI c = w then post 1 S else LX7_isOfKind_4 ln post n S w (kaL.getD c 0) (nI (i + 1)) := by
  rw [LX7_isOfKind_4]
  dsimp only
  rw [if_neg (show ¬ (6 : Int32) ≤ nI i from nI_ge (b := 6) hi (by decide)), p_isKind, bI_t ⟨nI_pos' (by omega), show nI c < 6 from nI_lt (b := 6) hc (by decide)⟩, if_neg (by decide), rb_e1, al_e hc (by decide), lt_e, show (1 : Int32) = nI 1 from rfl, nI_add]
theorem iok_e {ln : Nat → Nat} {S : HC} {post : Int32 → HC → Prop} {w : Int32} {n i : Nat} (hi : i < 6) : LX7_isOfKind_4 ln post (n + 1) S w (-1) (nI i) = post 0 S := by
  rw [LX7_isOfKind_4]
  dsimp only
  rw [if_neg (show ¬ (6 : Int32) ≤ nI i from nI_ge (b := 6) hi (by decide)), p_isKind, bI_f (fun q => absurd q.1 (by decide)), if_pos rfl]
  unfold BX7_isOfKind_36
  rw [rb_e0]
theorem p_isOfKind {ln : Nat → Nat} {S : HC} {post : Int32 → HC → Prop} {w : Int32} {c : Nat} (hc : c < 6) (h : isU (nI c) w → post 1 S) (h2 : ¬ isU (nI c) w → post 0 S) : wpX7_isOfKind ln S (nI c) w post := by
  obtain ⟨k0, k1, k2, k3, k4, k5⟩ := kaLe
  refine ⟨5, ?_⟩
  rw [show (0 : Int32) = nI 0 from rfl, iok_s (by decide) hc]
  unfold isU at h h2
  rcases (show c = 0 ∨ c = 1 ∨ c = 2 ∨ c = 3 ∨ c = 4 ∨ c = 5 by omega) with rfl | rfl | rfl | rfl | rfl | rfl
  · rw [k0, iok_e (by decide)]
    split
    · rename_i e; exact h (Or.inr (Or.inl e))
    · rename_i e
      refine h2 (fun q => ?_)
      rcases q with q | q | ⟨q1, q2⟩ | ⟨q1, q2⟩
      · exact e q.symm
      · exact e q
      · exact absurd q2 (by decide)
      · exact absurd q2 (by decide)
  · rw [k1, show (0 : Int32) = nI 0 from rfl, iok_s (by decide) (by decide), k0, iok_e (by decide)]
    split
    · rename_i e; exact h (Or.inr (Or.inl e))
    · rename_i e
      split
      · rename_i e2; exact h (Or.inl e2.symm)
      · rename_i e2
        refine h2 (fun q => ?_)
        rcases q with q | q | ⟨q1, q2⟩ | ⟨q1, q2⟩
        · exact e2 q.symm
        · exact e q
        · exact absurd q2 (by decide)
        · exact absurd q2 (by decide)
  · rw [k2, show (0 : Int32) = nI 0 from rfl, iok_s (by decide) (by decide), k0, iok_e (by decide)]
    split
    · rename_i e; exact h (Or.inr (Or.inl e))
    · rename_i e
      split
      · rename_i e2; exact h (Or.inl e2.symm)
      · rename_i e2
        refine h2 (fun q => ?_)
        rcases q with q | q | ⟨q1, q2⟩ | ⟨q1, q2⟩
        · exact e2 q.symm
        · exact e q
        · exact absurd q2 (by decide)
        · exact absurd q2 (by decide)
  · rw [k3, show (1 : Int32) = nI 1 from rfl, iok_s (by decide) (by decide), k1, show (0 : Int32) = nI 0 from rfl, iok_s (by decide) (by decide), k0, iok_e (by decide)]
    split
    · rename_i e; exact h (Or.inr (Or.inl e))
    · rename_i e
      split
      · rename_i e2; exact h (Or.inr (Or.inr (Or.inl ⟨e2.symm, rfl⟩)))
      · rename_i e2
        split
        · rename_i e3; exact h (Or.inl e3.symm)
        · rename_i e3
          refine h2 (fun q => ?_)
          rcases q with q | q | ⟨q1, q2⟩ | ⟨q1, q2⟩
          · exact e3 q.symm
          · exact e q
          · exact e2 q1.symm
          · exact absurd q2 (by decide)
  · rw [k4, show (2 : Int32) = nI 2 from rfl, iok_s (by decide) (by decide), k2, show (0 : Int32) = nI 0 from rfl, iok_s (by decide) (by decide), k0, iok_e (by decide)]
    split
    · rename_i e; exact h (Or.inr (Or.inl e))
    · rename_i e
      split
      · rename_i e2; exact h (Or.inr (Or.inr (Or.inr ⟨e2.symm, rfl⟩)))
      · rename_i e2
        split
        · rename_i e3; exact h (Or.inl e3.symm)
        · rename_i e3
          refine h2 (fun q => ?_)
          rcases q with q | q | ⟨q1, q2⟩ | ⟨q1, q2⟩
          · exact e3 q.symm
          · exact e q
          · exact absurd q2 (by decide)
          · exact e2 q1.symm
  · rw [k5, show (0 : Int32) = nI 0 from rfl, iok_s (by decide) (by decide), k0, iok_e (by decide)]
    split
    · rename_i e; exact h (Or.inr (Or.inl e))
    · rename_i e
      split
      · rename_i e2; exact h (Or.inl e2.symm)
      · rename_i e2
        refine h2 (fun q => ?_)
        rcases q with q | q | ⟨q1, q2⟩ | ⟨q1, q2⟩
        · exact e2 q.symm
        · exact e q
        · exact absurd q2 (by decide)
        · exact absurd q2 (by decide)
/-- one that may be a parent -/
def mayP (n : Nat) (f : Nat → Nat → Int32) (x sx : Int32) : Prop := x = -1 ∨ ∃ j, j < n ∧ x = nI j ∧ f 3 j = sx
theorem mayP.ag {n : Nat} {f g : Nat → Nat → Int32} (h : AG n f g) {x sx : Int32} : mayP n f x sx ↔ mayP n g x sx := by
  constructor
  · rintro (q | ⟨j, q1, q2, q3⟩)
    · exact Or.inl q
    · exact Or.inr ⟨j, q1, q2, by rw [← h 3 (by decide) j q1]; exact q3⟩
  · rintro (q | ⟨j, q1, q2, q3⟩)
    · exact Or.inl q
    · exact Or.inr ⟨j, q1, q2, by rw [h 3 (by decide) j q1]; exact q3⟩
theorem m1_ne {j : Nat} (h : j < 2 ^ 31) : ¬ nI j = -1 := fun q => by
  have := congrArg Int32.toInt q
  rw [nI_toInt h] at this
  have e : (-1 : Int32).toInt = -1 := by decide
  omega
theorem p_canBe {ln : Nat → Nat} {S : HC} {b n : Nat} {x sx : Int32} {post : Int32 → HC → Prop} (hs : SH S) (hl : LN ln) (hb : LB b) (hn : hI S b 6 = nI n) (h14 : n ≤ 14) (h : mayP n (xf S b) x sx → post 1 S) (h2 : ¬ mayP n (xf S b) x sx → post 0 S) : wpX0_canBeParent ln S b x sx post := by
  unfold wpX0_canBeParent BX0_canBeParent_23 BX0_canBeParent_27
  rw [p_has, lb_r hs hb (i := 3) (by decide)]
  simp only [rb_e0, rb_e1, dn_e]
  by_cases e : x = -1
  · rw [if_pos e]; exact h (Or.inl e)
  · rw [if_neg e]
    rcases i_in x n (by omega) with ⟨j, hj, rfl⟩ | hx
    · rw [hasT hn h14 hj, if_neg (by decide), lb_n hl hb (i := 3) (by decide), al_e (by omega) (by decide)]
      by_cases e2 : hI S (b + 1 + 3) j = sx
      · rw [if_pos e2]; exact h (Or.inr ⟨j, hj, rfl, e2⟩)
      · rw [if_neg e2]
        refine h2 (fun q => ?_)
        rcases q with q | ⟨j2, q1, q2, q3⟩
        · exact e q
        · have := (nI_eq (by omega) (by omega)).mp q2
          subst this
          exact e2 q3
    · rw [hasF hn hx, if_pos rfl]
      refine h2 (fun q => ?_)
      rcases q with q | ⟨j2, q1, q2, q3⟩
      · exact e q
      · rw [q2] at hx
        rcases hx with hx | hx
        · exact absurd hx (nI_pos (by omega))
        · exact absurd hx (nI_ge q1 (by omega))
theorem p_mayBe {ln : Nat → Nat} {S : HC} {n : Nat} {x sx : Int32} {post : Int32 → HC → Prop} (hs : SH S) (hl : LN ln) (hn : hI S 69 1 = nI n) (h14 : n ≤ 14) (h : mayP n (mf S 69) x sx → post 1 S) (h2 : ¬ mayP n (mf S 69) x sx → post 0 S) : wpX8_mayBe ln S 68 x sx post := by
  unfold wpX8_mayBe BX8_mayBe_23 BX8_mayBe_27
  rw [p_isOne hs hl]
  simp only [rb_e0, rb_e1]
  by_cases e : x = -1
  · rw [if_pos e]; exact h (Or.inl e)
  · rw [if_neg e]
    rcases i_in x n (by omega) with ⟨j, hj, rfl⟩ | hx
    · rw [oneT hn h14 hj, if_neg (by decide), p_of3 hs hl (by omega)]
      by_cases e2 : mf S 69 3 j = sx
      · rw [if_pos e2]; exact h (Or.inr ⟨j, hj, rfl, e2⟩)
      · rw [if_neg e2]
        refine h2 (fun q => ?_)
        rcases q with q | ⟨j2, q1, q2, q3⟩
        · exact e q
        · have := (nI_eq (by omega) (by omega)).mp q2
          subst this
          exact e2 q3
    · rw [oneF hn h14 hx, if_pos rfl]
      refine h2 (fun q => ?_)
      rcases q with q | ⟨j2, q1, q2, q3⟩
      · exact e q
      · rw [q2] at hx
        rcases hx with hx | hx
        · exact absurd hx (nI_pos (by omega))
        · exact absurd hx (nI_ge q1 (by omega))
def xadd (S : HC) (b n : Nat) (k fa mo sx fi : Int32) : HC := sI (sI (sI (sI (sI (sI (sI S (b + 1) n k) (b + 2) n fa) (b + 3) n mo) (b + 4) n sx) (b + 5) n fi) (b + 6) n 0) b 6 (nI (n + 1))
def madd (S : HC) (n : Nat) (k fa mo sx fi : Int32) : HC := sI (sI (sI (sI (sI (sI (sI S 69 (5 + 6 * n) k) 69 (5 + 6 * n + 1) fa) 69 (5 + 6 * n + 2) mo) 69 (5 + 6 * n + 3) sx) 69 (5 + 6 * n + 4) fi) 69 (5 + 6 * n + 5) 0) 69 1 (nI (n + 1))
theorem p_add {ln : Nat → Nat} {S : HC} {b n : Nat} {k fa mo sx fi : Int32} {post : Int32 → HC → Prop} (hs : SH S) (hl : LN ln) (hb : LB b) (hn : hI S b 6 = nI n) (h14 : n < 14) : wpX0_add ln S b k fa mo sx fi post = post (nI n) (xadd S b n k fa mo sx fi) := by
  unfold wpX0_add
  rw [p_hasRoom hn (by omega), bI_t h14, if_neg (by decide)]
  simp only [lt_e, hn, hR_sI, lb_r hs hb (i := 0) (by decide), lb_r hs hb (i := 1) (by decide), lb_r hs hb (i := 2) (by decide), lb_r hs hb (i := 3) (by decide), lb_r hs hb (i := 4) (by decide), lb_r hs hb (i := 5) (by decide), dn_e, lb_n hl hb (i := 0) (by decide), lb_n hl hb (i := 1) (by decide), lb_n hl hb (i := 2) (by decide), lb_n hl hb (i := 3) (by decide), lb_n hl hb (i := 4) (by decide), lb_n hl hb (i := 5) (by decide), as_e (i := n) (n := 14) h14 (by decide)]
  rw [show (1 : Int32) = nI 1 from rfl, nI_add]
  rfl
theorem p_comes {ln : Nat → Nat} {S : HC} {n : Nat} {k fa mo sx fi : Int32} {post : Int32 → HC → Prop} (hs : SH S) (hl : LN ln) (hn : hI S 69 1 = nI n) (h14 : n < 14) : wpX8_comes ln S 68 k fa mo sx fi post = post (nI n) (madd S n k fa mo sx fi) := by
  unfold wpX8_comes
  simp only [show (1 : Int32) = nI 1 from rfl, show (2 : Int32) = nI 2 from rfl, show (3 : Int32) = nI 3 from rfl, show (4 : Int32) = nI 4 from rfl, show (5 : Int32) = nI 5 from rfl, show (6 : Int32) = nI 6 from rfl]
  simp only [lt_e, hR_sI, sh68_0 hs, dn_e, ln69 hl, al_e (i := 1) (n := 1461) (by decide) (by decide), as_e (i := 1) (n := 1461) (by decide) (by decide), hn, pk_mul, nI_add, as_e (i := 5 + 6 * n) (n := 1461) (by omega) (by decide), as_e (i := 5 + 6 * n + 1) (n := 1461) (by omega) (by decide), as_e (i := 5 + 6 * n + 2) (n := 1461) (by omega) (by decide), as_e (i := 5 + 6 * n + 3) (n := 1461) (by omega) (by decide), as_e (i := 5 + 6 * n + 4) (n := 1461) (by omega) (by decide), as_e (i := 5 + 6 * n + 5) (n := 1461) (by omega) (by decide)]
  have e : hI (sI (sI (sI (sI (sI (sI S 69 (5 + 6 * n) k) 69 (5 + 6 * n + 1) fa) 69 (5 + 6 * n + 2) mo) 69 (5 + 6 * n + 3) sx) 69 (5 + 6 * n + 4) fi) 69 (5 + 6 * n + 5) 0) 69 1 = nI n := by
    rw [hI_ne (by omega), hI_ne (by omega), hI_ne (by omega), hI_ne (by omega), hI_ne (by omega), hI_ne (by omega)]; exact hn
  rw [e, nI_add]
  rfl
-- 28.psteps.lean.txt
/-! a land told as numbers: n people, f their things, fertile, year, z -/
def XA (S : HC) (b n : Nat) (f : Nat → Nat → Int32) (fe ye z : Int32) : Prop := hI S b 6 = nI n ∧ AG n (xf S b) f ∧ hI S b 7 = fe ∧ hI S b 8 = ye ∧ hI S b 9 = z
def MA (S : HC) (n : Nat) (f : Nat → Nat → Int32) (fe ye z : Int32) : Prop := hI S 69 1 = nI n ∧ AG n (mf S 69) f ∧ hI S 69 3 = fe ∧ hI S 69 2 = ye ∧ hI S 69 0 = z
def upP (f : Nat → Nat → Int32) (n : Nat) (k fa mo sx fi : Int32) : Nat → Nat → Int32 := fun q j => if j = n then (if q = 0 then k else if q = 1 then fa else if q = 2 then mo else if q = 3 then sx else if q = 4 then fi else 0) else f q j
theorem LR.out {S : HC} {b n : Nat} (h : LR S b 69 n) : ∃ f fe ye z, XA S b n f fe ye z ∧ MA S n f fe ye z ∧ VP n f ∧ (∃ c, c ≤ 100 ∧ fe = nI c) ∧ ∃ y, y ≤ 9999 ∧ ye = nI y := by
  obtain ⟨a1, a2, a3, a4, a5, ⟨a6, a6'⟩, ⟨a7, a7'⟩, a8⟩ := h
  exact ⟨mf S 69, hI S 69 3, hI S 69 2, hI S 69 0, ⟨a2, a4, a6, a7, a8⟩, ⟨a3, fun _ _ _ _ => rfl, rfl, rfl, rfl⟩, a5, a6', a7'⟩
theorem AG.sy {n : Nat} {f g : Nat → Nat → Int32} (h : AG n f g) : AG n g f := fun k hk j hj => (h k hk j hj).symm
theorem AG.tr {n : Nat} {f g e : Nat → Nat → Int32} (h : AG n f g) (h2 : AG n g e) : AG n f e := fun k hk j hj => (h k hk j hj).trans (h2 k hk j hj)
theorem VP.ag {n : Nat} {f g : Nat → Nat → Int32} (h : VP n f) (e : AG n g f) : VP n g := fun k j hk hj => by rw [e k hk j hj]; exact h k j hk hj
theorem LR.of {S : HC} {b n : Nat} {f : Nat → Nat → Int32} {fe ye z : Int32} (h14 : n ≤ 14) (hx : XA S b n f fe ye z) (hm : MA S n f fe ye z) (hv : VP n f) (hfe : ∃ c, c ≤ 100 ∧ fe = nI c) (hye : ∃ y, y ≤ 9999 ∧ ye = nI y) : LR S b 69 n := by
  obtain ⟨x1, x2, x3, x4, x5⟩ := hx
  obtain ⟨m1, m2, m3, m4, m5⟩ := hm
  exact ⟨h14, x1, m1, x2.tr m2.sy, hv.ag m2, ⟨x3.trans m3.symm, by rw [m3]; exact hfe⟩, ⟨x4.trans m4.symm, by rw [m4]; exact hye⟩, x5.trans m5.symm⟩
theorem VP.add {n : Nat} {f : Nat → Nat → Int32} {k fa mo sx fi : Int32} (h : VP n f) (h0 : ∃ c, c < 6 ∧ k = nI c) (h1 : fa = -1 ∨ ∃ p, p < n ∧ fa = nI p) (h2 : mo = -1 ∨ ∃ p, p < n ∧ mo = nI p) (h3 : sx = 0 ∨ sx = 1) (h4 : ∃ c, c < 8 ∧ fi = nI c) : VP (n + 1) (upP f n k fa mo sx fi) := by
  intro q j hq hj
  by_cases e : j = n
  · subst e
    rcases (show q = 0 ∨ q = 1 ∨ q = 2 ∨ q = 3 ∨ q = 4 ∨ q = 5 by omega) with rfl | rfl | rfl | rfl | rfl | rfl
    · simp only [upP, if_true]; exact ⟨fun _ => h0, by omega, by omega, by omega, by omega⟩
    · simp [upP]; exact ⟨by omega, fun _ => h1, by omega, by omega, by omega⟩
    · simp [upP]; exact ⟨by omega, fun _ => h2, by omega, by omega, by omega⟩
    · simp [upP]; exact ⟨by omega, by omega, fun _ => h3, by omega, by omega⟩
    · simp [upP]; exact ⟨by omega, by omega, by omega, fun _ => h4, by omega⟩
    · simp [upP]; exact ⟨by omega, by omega, by omega, by omega, fun _ => ⟨0, by decide, rfl⟩⟩
  · simp only [upP, if_neg e]; exact h q j hq (by omega)
theorem xadd_o {S : HC} {b n : Nat} {k fa mo sx fi : Int32} {r i : Nat} (h : ¬ (b ≤ r ∧ r ≤ b + 6)) : hI (xadd S b n k fa mo sx fi) r i = hI S r i := by
  unfold xadd
  rw [hI_row (by omega), hI_row (by omega), hI_row (by omega), hI_row (by omega), hI_row (by omega), hI_row (by omega), hI_row (by omega)]
theorem xadd_s {S : HC} {b n : Nat} {k fa mo sx fi : Int32} {i : Nat} (h : i ≠ 6) : hI (xadd S b n k fa mo sx fi) b i = hI S b i := by
  unfold xadd
  rw [hI_ne (by omega), hI_row (by omega), hI_row (by omega), hI_row (by omega), hI_row (by omega), hI_row (by omega), hI_row (by omega)]
theorem madd_o {S : HC} {n : Nat} {k fa mo sx fi : Int32} {r i : Nat} (h : ¬ (r = 69 ∧ (i = 1 ∨ (5 + 6 * n ≤ i ∧ i < 11 + 6 * n)))) : hI (madd S n k fa mo sx fi) r i = hI S r i := by
  unfold madd
  rw [hI_ne (by omega), hI_ne (by omega), hI_ne (by omega), hI_ne (by omega), hI_ne (by omega), hI_ne (by omega), hI_ne (by omega)]
theorem XA.add {S : HC} {b n : Nat} {f : Nat → Nat → Int32} {fe ye z k fa mo sx fi : Int32} (h : XA S b n f fe ye z) : XA (xadd S b n k fa mo sx fi) b (n + 1) (upP f n k fa mo sx fi) fe ye z := by
  obtain ⟨x1, x2, x3, x4, x5⟩ := h
  refine ⟨hI_self _ _ _ _, fun q hq j hj => ?_, by rw [xadd_s (by decide)]; exact x3, by rw [xadd_s (by decide)]; exact x4, by rw [xadd_s (by decide)]; exact x5⟩
  by_cases e : j = n
  · subst e
    rcases (show q = 0 ∨ q = 1 ∨ q = 2 ∨ q = 3 ∨ q = 4 ∨ q = 5 by omega) with rfl | rfl | rfl | rfl | rfl | rfl <;> simp [xf, xadd, upP, hI_sI] <;> (intros; omega)
  · have e2 : xf (xadd S b n k fa mo sx fi) b q j = xf S b q j := by
      unfold xf xadd
      rw [hI_row (by omega), hI_ne (by omega), hI_ne (by omega), hI_ne (by omega), hI_ne (by omega), hI_ne (by omega), hI_ne (by omega)]
    rw [e2, x2 q hq j (by omega)]
    simp only [upP, if_neg e]
theorem MA.add {S : HC} {n : Nat} {f : Nat → Nat → Int32} {fe ye z k fa mo sx fi : Int32} (h : MA S n f fe ye z) : MA (madd S n k fa mo sx fi) (n + 1) (upP f n k fa mo sx fi) fe ye z := by
  obtain ⟨x1, x2, x3, x4, x5⟩ := h
  refine ⟨hI_self _ _ _ _, fun q hq j hj => ?_, by rw [madd_o (by omega)]; exact x3, by rw [madd_o (by omega)]; exact x4, by rw [madd_o (by omega)]; exact x5⟩
  by_cases e : j = n
  · subst e
    rcases (show q = 0 ∨ q = 1 ∨ q = 2 ∨ q = 3 ∨ q = 4 ∨ q = 5 by omega) with rfl | rfl | rfl | rfl | rfl | rfl <;> simp [mf, madd, upP, hI_sI] <;> (intros; omega)
  · have e2 : mf (madd S n k fa mo sx fi) 69 q j = mf S 69 q j := by
      unfold mf
      rw [madd_o (by omega)]
    rw [e2, x2 q hq j (by omega)]
    simp only [upP, if_neg e]
theorem XA.ag {S S' : HC} {b n : Nat} {f : Nat → Nat → Int32} {fe ye z : Int32} (h : XA S b n f fe ye z) (hs : ∀ r k, b ≤ r → r ≤ b + 6 → hI S' r k = hI S r k) : XA S' b n f fe ye z := by
  obtain ⟨x1, x2, x3, x4, x5⟩ := h
  exact ⟨by rw [hs _ _ (by omega) (by omega)]; exact x1, fun q hq j hj => by rw [← x2 q hq j hj]; exact hs _ _ (by omega) (by omega), by rw [hs _ _ (by omega) (by omega)]; exact x3, by rw [hs _ _ (by omega) (by omega)]; exact x4, by rw [hs _ _ (by omega) (by omega)]; exact x5⟩
theorem MA.ag {S S' : HC} {n : Nat} {f : Nat → Nat → Int32} {fe ye z : Int32} (h : MA S n f fe ye z) (h14 : n ≤ 14) (hs : ∀ k, k < 89 → hI S' 69 k = hI S 69 k) : MA S' n f fe ye z := by
  obtain ⟨x1, x2, x3, x4, x5⟩ := h
  exact ⟨by rw [hs _ (by omega)]; exact x1, fun q hq j hj => by rw [← x2 q hq j hj]; exact hs _ (by omega), by rw [hs _ (by omega)]; exact x3, by rw [hs _ (by omega)]; exact x4, by rw [hs _ (by omega)]; exact x5⟩
theorem s_person {N : Nat} {ln : Nat → Nat} {S : HC} (h : PI N ln S) (a1 a2 a3 a4 a5 : Int32) : wpX7_person ln S 0 a1 a2 a3 a4 a5 fun v S => wpX8_person ln S 68 a1 a2 a3 a4 a5 fun w S => OK N ln v w S := by
  obtain ⟨⟨hs, hl, -, -⟩, ⟨⟨n, hn⟩, hw⟩, -⟩ := id h
  have h14 := hn.1
  unfold wpX7_person wpX8_person BX7_person_31 BX7_person_53 BX8_person_45
  simp only [sh0_0 hs, dn_e, p_in, p_isKind, p_isCharge, p_mCharge]
  have e6 : bI (0 ≤ a1 ∧ a1 ≤ 5) = bI (0 ≤ a1 ∧ a1 < 6) := rngE (n := 6) (by decide) 6 (by decide)
  have e8 : bI (0 ≤ a5 ∧ a5 ≤ 7) = bI (0 ≤ a5 ∧ a5 < 8) := rngE (n := 8) (by decide) 8 (by decide)
  simp only [e6, e8]
  by_cases c1 : 0 ≤ a1 ∧ a1 < 6
  · rw [bI_t c1]
    simp only [if_neg (show ¬ (1 : Int32) = 0 by decide)]
    refine p_canBe hs hl (Or.inl rfl) hn.2.1 h14 (fun c2 => ?_) (fun c2 => ?_)
    · rw [if_neg (by decide)]
      simp only [sh0_0 hs, dn_e]
      refine p_canBe hs hl (Or.inl rfl) hn.2.1 h14 (fun c3 => ?_) (fun c3 => ?_)
      · rw [if_neg (by decide)]
        have m2 := (mayP.ag hn.2.2.2.1).mp c2
        have m3 := (mayP.ag hn.2.2.2.1).mp c3
        by_cases c4 : a4 < 0
        · rw [if_pos c4]
          refine p_mayBe hs hl hn.2.2.1 h14 (fun _ => ?_) (fun q => absurd m2 q)
          rw [if_neg (by decide)]
          refine p_mayBe hs hl hn.2.2.1 h14 (fun _ => ?_) (fun q => absurd m3 q)
          rw [if_neg (by decide), bI_f (fun q => absurd c4 (Int32.not_lt.mpr q.1)), if_pos rfl]
          exact ⟨rfl, h⟩
        rw [if_neg c4]
        by_cases c5 : 1 < a4
        · rw [if_pos c5]
          refine p_mayBe hs hl hn.2.2.1 h14 (fun _ => ?_) (fun q => absurd m2 q)
          rw [if_neg (by decide)]
          refine p_mayBe hs hl hn.2.2.1 h14 (fun _ => ?_) (fun q => absurd m3 q)
          rw [if_neg (by decide), bI_f (fun q => absurd c5 (Int32.not_lt.mpr q.2)), if_pos rfl]
          exact ⟨rfl, h⟩
        rw [if_neg c5]
        have b4 : 0 ≤ a4 ∧ a4 ≤ 1 := ⟨Int32.not_lt.mp c4, Int32.not_lt.mp c5⟩
        by_cases c6 : 0 ≤ a5 ∧ a5 < 8
        · simp only [bI_t c6, if_neg (show ¬ (1 : Int32) = 0 by decide), sh0_0 hs, dn_e]
          rw [p_hasRoom hn.2.1 h14]
          by_cases c7 : n < 14
          · rw [bI_t c7, if_neg (by decide), sh0_0 hs, dn_e, p_add hs hl (Or.inl rfl) hn.2.1 c7]
            generalize hS1 : xadd S 1 n a1 a2 a3 a4 a5 = S1
            have hs1 : SH S1 := by rw [← hS1]; exact hs
            have e1 : ∀ k, hI S1 69 k = hI S 69 k := fun k => by rw [← hS1]; exact xadd_o (by omega)
            have ef : mf S1 69 = mf S 69 := by funext k j; exact e1 _
            have en : hI S1 69 1 = nI n := by rw [e1]; exact hn.2.2.1
            refine p_mayBe hs1 hl en h14 (fun _ => ?_) (fun q => absurd (by rw [ef]; exact m2) q)
            rw [if_neg (by decide)]
            refine p_mayBe hs1 hl en h14 (fun _ => ?_) (fun q => absurd (by rw [ef]; exact m3) q)
            rw [if_neg (by decide), bI_t b4, if_neg (by decide), sh68_0 hs1, dn_e, ln69 hl, show (1 : Int32) = nI 1 from rfl, al_e (by decide) (by decide), en, if_neg (show ¬ nI n = 14 from fun q => by have := (nI_eq (b := 14) (by omega) (by decide)).mp q; omega), p_comes hs1 hl en c7]
            obtain ⟨f, fe, ye, z, x1, x2, x3, x4, x5⟩ := hn.out
            have y1 : XA S1 1 (n + 1) (upP f n a1 a2 a3 a4 a5) fe ye z := by rw [← hS1]; exact x1.add
            have y2 : MA S1 n f fe ye z := x2.ag h14 (fun k _ => e1 k)
            obtain ⟨d1, hd1, rfl⟩ := ge_of (n := 6) (by decide) c1
            obtain ⟨d5, hd5, rfl⟩ := ge_of (n := 8) (by decide) c6
            have par : ∀ {x sx : Int32}, mayP n (mf S 69) x sx → x = -1 ∨ ∃ p, p < n ∧ x = nI p := fun q => by
              rcases q with q | ⟨j, q1, q2, -⟩
              · exact Or.inl q
              · exact Or.inr ⟨j, q1, q2⟩
            have hsx : a4 = 0 ∨ a4 = 1 := by
              obtain ⟨u1, u2⟩ := b4
              simp only [i_le, i_eq] at *
              have : (0 : Int32).toInt = 0 := rfl
              have : (1 : Int32).toInt = 1 := rfl
              omega
            have hv := x3.add (k := nI d1) (fa := a2) (mo := a3) (sx := a4) (fi := nI d5) ⟨d1, hd1, rfl⟩ (par m2) (par m3) hsx ⟨d5, hd5, rfl⟩
            refine ⟨rfl, h.now (fun r k => by rw [← hS1]; rfl) (fun r k q => by rw [madd_o (by omega), ← hS1, xadd_o (by omega)]) ⟨⟨n + 1, LR.of c7 (y1.ag (fun r k q1 q2 => madd_o (by omega))) y2.add hv x4 x5⟩, hw.ag (fun r k q => by rw [madd_o (by omega), ← hS1, xadd_o (by omega)]) (fun r k _ => by rw [← hS1]; rfl) (fun k q => by rw [madd_o (by omega), e1]) (by rw [madd_o (by omega), ← hS1, xadd_s (by decide)]) (by rw [madd_o (by omega), e1]) (fun k => by rw [← hS1]; rfl)⟩⟩
          · have c8 : n = 14 := by omega
            subst c8
            rw [bI_f c7, if_pos rfl]
            refine p_mayBe hs hl hn.2.2.1 h14 (fun _ => ?_) (fun q => absurd m2 q)
            rw [if_neg (by decide)]
            refine p_mayBe hs hl hn.2.2.1 h14 (fun _ => ?_) (fun q => absurd m3 q)
            rw [if_neg (by decide), bI_t b4, if_neg (by decide), sh68_0 hs, dn_e, ln69 hl, show (1 : Int32) = nI 1 from rfl, al_e (by decide) (by decide), hn.2.2.1, if_pos (show nI 14 = 14 from rfl)]
            exact ⟨rfl, h⟩
        · simp only [bI_f c6, if_true]
          refine p_mayBe hs hl hn.2.2.1 h14 (fun _ => ?_) (fun q => absurd m2 q)
          rw [if_neg (by decide)]
          refine p_mayBe hs hl hn.2.2.1 h14 (fun _ => ?_) (fun q => absurd m3 q)
          rw [if_neg (by decide), bI_t b4, if_neg (by decide)]
          exact ⟨rfl, h⟩
      · rw [if_pos rfl]
        refine p_mayBe hs hl hn.2.2.1 h14 (fun _ => ?_) (fun q => absurd ((mayP.ag hn.2.2.2.1).mp c2) q)
        rw [if_neg (by decide)]
        refine p_mayBe hs hl hn.2.2.1 h14 (fun q => absurd ((mayP.ag hn.2.2.2.1).mpr q) c3) (fun _ => ?_)
        rw [if_pos rfl]
        exact ⟨rfl, h⟩
    · rw [if_pos rfl]
      refine p_mayBe hs hl hn.2.2.1 h14 (fun q => absurd ((mayP.ag hn.2.2.2.1).mpr q) c2) (fun _ => ?_)
      rw [if_pos rfl]
      exact ⟨rfl, h⟩
  · rw [bI_f c1]
    simp only [if_true]
    exact ⟨rfl, h⟩
-- 29.pyear.lean.txt
/-! draws, counts, years -/
def dz (z : Int32) : Int32 := z * 1103515245 + 12345
def dv (z : Int32) : Int32 := (z.toUInt32 >>> ((8 : Int32).toUInt32 &&& Int32.toUInt32 31)).toInt32
def dN (z : Int32) : Nat := z.toBitVec.toNat / 256
theorem dN_lt (z : Int32) : dN z < 16777216 := by
  have := z.toBitVec.isLt
  unfold dN
  omega
theorem dv_e (z : Int32) : dv z = nI (dN z) := by
  have h := pk_ushr z 8 8 (by decide)
  have h2 := dN_lt z
  apply Int32.toBitVec_inj.mp
  apply BitVec.eq_of_toNat_eq
  rw [pk_tn (by omega)]
  exact h
theorem rem_e {a c : Nat} (ha : a < 2 ^ 31) (h0 : 0 < c) (hc : c < 2 ^ 31) : nI a - nI a / nI c * nI c = nI (a % c) := pk_rem ha h0 hc
theorem drem (z : Int32) {c : Nat} (h0 : 0 < c) (hc : c < 2 ^ 31) : dv z - dv z / nI c * nI c = nI (dN z % c) := by
  rw [dv_e]; exact rem_e (by have := dN_lt z; omega) h0 hc
theorem p_draw {ln : Nat → Nat} {S : HC} {b : Nat} {post : Int32 → HC → Prop} : wpX0_draw ln S b post = post (dv (dz (hI S b 9))) (sI S b 9 (dz (hI S b 9))) := by
  unfold wpX0_draw
  simp only [lt_e, hI_self]
  rfl
theorem p_mdraw {ln : Nat → Nat} {S : HC} {post : Int32 → HC → Prop} (hs : SH S) (hl : LN ln) : wpX8_draw ln S 68 post = post (dv (dz (hI S 69 0))) (sI S 69 0 (dz (hI S 69 0))) := by
  unfold wpX8_draw
  simp only [show (0 : Int32) = nI 0 from rfl, lt_e, hR_sI, sh68_0 hs, dn_e, ln69 hl, al_e (i := 0) (n := 1461) (by decide) (by decide), as_e (i := 0) (n := 1461) (by decide) (by decide), hI_self]
  rfl
def cnt (g : Nat → Int32) (sx : Int32) : Nat → Nat
  | 0 => 0
  | n + 1 => cnt g sx n + (if g n = sx then 1 else 0)
theorem cnt_le (g : Nat → Int32) (sx : Int32) (n : Nat) : cnt g sx n ≤ n := by
  induction n with
  | zero => exact Nat.le_refl 0
  | succ n ih => simp only [cnt]; split <;> omega
theorem cnt_mono (g : Nat → Int32) (sx : Int32) {i n : Nat} (h : i ≤ n) : cnt g sx i ≤ cnt g sx n := by
  induction n with
  | zero => rw [show i = 0 by omega]; exact Nat.le_refl _
  | succ n ih =>
    by_cases e : i = n + 1
    · rw [e]; exact Nat.le_refl _
    · have := ih (by omega)
      simp only [cnt]; omega
theorem cnt_ag {g e : Nat → Int32} {sx : Int32} {n : Nat} (h : ∀ j, j < n → g j = e j) : cnt g sx n = cnt e sx n := by
  induction n with
  | zero => rfl
  | succ n ih => simp only [cnt]; rw [ih (fun j hj => h j (by omega)), h n (by omega)]
def nth (g : Nat → Int32) (sx : Int32) (k : Nat) : Nat → Nat
  | 0 => 0
  | n + 1 => if g n = sx ∧ cnt g sx n = k then n else nth g sx k n
theorem nth_ok {g : Nat → Int32} {sx : Int32} {k n : Nat} (h : k < cnt g sx n) : nth g sx k n < n ∧ g (nth g sx k n) = sx ∧ cnt g sx (nth g sx k n) = k := by
  induction n with
  | zero => simp [cnt] at h
  | succ n ih =>
    simp only [nth]
    by_cases e : g n = sx ∧ cnt g sx n = k
    · rw [if_pos e]; exact ⟨by omega, e.1, e.2⟩
    · rw [if_neg e]
      simp only [cnt] at h
      have h2 : k < cnt g sx n := by
        by_cases e1 : g n = sx
        · rw [if_pos e1] at h
          have : cnt g sx n ≠ k := fun q => e ⟨e1, q⟩
          omega
        · rw [if_neg e1] at h; omega
      obtain ⟨q1, q2, q3⟩ := ih h2
      exact ⟨by omega, q2, q3⟩
theorem nth_ag {g e : Nat → Int32} {sx : Int32} {k n : Nat} (h : ∀ j, j < n → g j = e j) : nth g sx k n = nth e sx k n := by
  induction n with
  | zero => rfl
  | succ n ih => simp only [nth]; rw [ih (fun j hj => h j (by omega)), h n (by omega), cnt_ag (fun j hj => h j (by omega))]
theorem p_howMany {ln : Nat → Nat} {S : HC} {b n : Nat} {g : Nat → Int32} {sx : Int32} {post : Int32 → HC → Prop} (hs : SH S) (hl : LN ln) (hb : LB b) (hn : hI S b 6 = nI n) (h14 : n ≤ 14) (hg : ∀ j, j < n → xf S b 3 j = g j) (h : post (nI (cnt g sx n)) S) : wpX0_howMany ln S b sx post := by
  have key : ∀ m i, i + m = n → LX0_howMany_4 ln post (m + 1) S b sx (nI (cnt g sx i)) (nI i) := by
    intro m
    induction m with
    | zero =>
      intro i hi
      rw [LX0_howMany_4]
      dsimp only
      rw [lt_e, hn, if_pos (nI_le (by omega) (by omega)), show i = n by omega]
      exact h
    | succ m ih =>
      intro i hi
      rw [LX0_howMany_4]
      dsimp only
      rw [lt_e, hn, if_neg (nI_ge (by omega) (by omega)), lb_r hs hb (i := 3) (by decide), dn_e, lb_n hl hb (i := 3) (by decide), al_e (by omega) (by decide)]
      have hi2 := ih (i + 1) (by omega)
      simp only [cnt] at hi2
      unfold BX0_howMany_25
      simp only [lt_e]
      have hgi : hI S (b + 1 + 3) i = g i := hg i (by omega)
      by_cases e : g i = sx
      · rw [if_pos e] at hi2
        rw [if_pos (hgi.trans e), show (1 : Int32) = nI 1 from rfl, nI_add, nI_add]; exact hi2
      · rw [if_neg e, Nat.add_zero] at hi2
        rw [if_neg (fun q => e (hgi.symm.trans q)), show (1 : Int32) = nI 1 from rfl, nI_add]; exact hi2
  exact ⟨n + 1, key n 0 (by omega)⟩
theorem p_manyOf {ln : Nat → Nat} {S : HC} {n : Nat} {g : Nat → Int32} {sx : Int32} {post : Int32 → HC → Prop} (hs : SH S) (hl : LN ln) (hn : hI S 69 1 = nI n) (h14 : n ≤ 14) (hg : ∀ j, j < n → mf S 69 3 j = g j) (h : post (nI (cnt g sx n)) S) : wpX8_manyOf ln S 68 sx post := by
  have key : ∀ m i, i + m = n → LX8_manyOf_4 ln post (m + 1) S 68 sx (nI (cnt g sx i)) (nI i) := by
    intro m
    induction m with
    | zero =>
      intro i hi
      rw [LX8_manyOf_4]
      dsimp only
      rw [sh68_0 hs, dn_e, ln69 hl, show (1 : Int32) = nI 1 from rfl, al_e (by decide) (by decide), hn, if_pos (nI_le (by omega) (by omega)), show i = n by omega]
      exact h
    | succ m ih =>
      intro i hi
      rw [LX8_manyOf_4]
      dsimp only
      have hi2 := ih (i + 1) (by omega)
      simp only [cnt] at hi2
      rw [sh68_0 hs, dn_e, ln69 hl, show (1 : Int32) = nI 1 from rfl, al_e (by decide) (by decide), hn, if_neg (nI_ge (by omega) (by omega)), p_of3 hs hl (by omega), hg i (by omega)]
      unfold BX8_manyOf_30
      simp only [lt_e]
      by_cases e : g i = sx
      · rw [if_pos e] at hi2 ⊢
        rw [nI_add, show (1 : Int32) = nI 1 from rfl, nI_add]; exact hi2
      · rw [if_neg e] at hi2 ⊢
        rw [show (0 : Int32) = nI 0 from rfl, nI_add, show (1 : Int32) = nI 1 from rfl, nI_add]; exact hi2
  exact ⟨n + 1, key n 0 (by omega)⟩
theorem p_nthOf {ln : Nat → Nat} {S : HC} {b n k : Nat} {g : Nat → Int32} {sx : Int32} {post : Int32 → HC → Prop} (hs : SH S) (hl : LN ln) (hb : LB b) (hn : hI S b 6 = nI n) (h14 : n ≤ 14) (hg : ∀ j, j < n → xf S b 3 j = g j) (hk : k < cnt g sx n) (h : post (nI (nth g sx k n)) S) : wpX0_nthOf ln S b sx (nI k) post := by
  obtain ⟨o1, o2, o3⟩ := nth_ok hk
  generalize nth g sx k n = q at h o1 o2 o3
  have key : ∀ m i, i + m = q → LX0_nthOf_5 ln post (m + 1) S b sx (nI (k - cnt g sx i)) (nI i) := by
    intro m
    induction m with
    | zero =>
      intro i hi
      have hiq : i = q := by omega
      subst hiq
      have hgi : hI S (b + 1 + 3) i = g i := hg i (by omega)
      rw [LX0_nthOf_5]
      dsimp only
      rw [lt_e, hn, if_neg (nI_ge (by omega) (by omega)), lb_r hs hb (i := 3) (by decide), dn_e, lb_n hl hb (i := 3) (by decide), al_e (by omega) (by decide), hgi, if_pos o2, o3, if_pos (show nI (k - k) = 0 by rw [Nat.sub_self]; rfl)]
      exact h
    | succ m ih =>
      intro i hi
      have c1 : cnt g sx (i + 1) ≤ k := by rw [← o3]; exact cnt_mono g sx (by omega)
      have hi2 := ih (i + 1) (by omega)
      simp only [cnt] at hi2 c1
      have hgi : hI S (b + 1 + 3) i = g i := hg i (by omega)
      rw [LX0_nthOf_5]
      dsimp only
      rw [lt_e, hn, if_neg (nI_ge (by omega) (by omega)), lb_r hs hb (i := 3) (by decide), dn_e, lb_n hl hb (i := 3) (by decide), al_e (by omega) (by decide), hgi]
      unfold BX0_nthOf_35
      simp only [lt_e]
      have hkn : k < n := by have := cnt_le g sx n; omega
      by_cases e : g i = sx
      · rw [if_pos e] at hi2 c1 ⊢
        rw [if_neg (show ¬ nI (k - cnt g sx i) = 0 from nI_ne0 (by omega) (by omega))]
        have e2 : nI (k - cnt g sx i) + -1 = nI (k - (cnt g sx i + 1)) := by
          rw [show k - cnt g sx i = (k - (cnt g sx i + 1)) + 1 by omega, pk_m1]
        rw [e2, show (1 : Int32) = nI 1 from rfl, nI_add]; exact hi2
      · rw [if_neg e, Nat.add_zero] at hi2
        rw [if_neg e, show (1 : Int32) = nI 1 from rfl, nI_add]; exact hi2
  exact ⟨q + 1, key q 0 (by omega)⟩
theorem p_numberOf {ln : Nat → Nat} {S : HC} {n k : Nat} {g : Nat → Int32} {sx : Int32} {post : Int32 → HC → Prop} (hs : SH S) (hl : LN ln) (h14 : n ≤ 14) (hg : ∀ j, j < n → mf S 69 3 j = g j) (hk : k < cnt g sx n) (h : post (nI (nth g sx k n)) S) : wpX8_numberOf ln S 68 sx (nI k) post := by
  obtain ⟨o1, o2, o3⟩ := nth_ok hk
  generalize nth g sx k n = q at h o1 o2 o3
  have key : ∀ m i, i + m = q → LX8_numberOf_5 ln post (m + 1) S 68 sx (nI (k - cnt g sx i)) (nI i) := by
    intro m
    induction m with
    | zero =>
      intro i hi
      have hiq : i = q := by omega
      subst hiq
      rw [LX8_numberOf_5]
      dsimp only
      rw [o3, Nat.sub_self, if_neg (by decide), p_of3 hs hl (by omega), hg i (by omega), if_pos o2]
      exact h
    | succ m ih =>
      intro i hi
      have c1 : cnt g sx (i + 1) ≤ k := by rw [← o3]; exact cnt_mono g sx (by omega)
      have hi2 := ih (i + 1) (by omega)
      simp only [cnt] at hi2 c1
      have hkn : k < n := by have := cnt_le g sx n; omega
      have body : BX8_numberOf_20 ln post (LX8_numberOf_5 ln post (m + 1)) S 68 sx (nI (k - cnt g sx i)) (nI i) := by
        unfold BX8_numberOf_20 BX8_numberOf_37
        simp only [lt_e, p_of3 hs hl (show i < 200 by omega), hg i (by omega)]
        by_cases e : g i = sx
        · rw [if_pos e] at hi2 c1 ⊢
          rw [show (1 : Int32) = nI 1 from rfl, pk_sub (by omega), nI_add, show k - cnt g sx i - 1 = k - (cnt g sx i + 1) by omega]; exact hi2
        · rw [if_neg e, Nat.add_zero] at hi2
          rw [if_neg e, show (0 : Int32) = nI 0 from rfl, pk_sub (by omega), show (1 : Int32) = nI 1 from rfl, nI_add, Nat.sub_zero]; exact hi2
      rw [LX8_numberOf_5]
      dsimp only
      by_cases e0 : k - cnt g sx i = 0
      · rw [e0, if_neg (by decide), p_of3 hs hl (by omega), hg i (by omega)]
        rw [e0] at body
        have e1 : ¬ g i = sx := fun q => by rw [if_pos q] at c1; omega
        rw [if_neg e1]; exact body
      · rw [if_pos (show 0 < nI (k - cnt g sx i) from nI_lt (a := 0) (by omega) (by omega))]; exact body
  exact ⟨q + 1, key q 0 (by omega)⟩
-- 30.pyear2.lean.txt
/-! a year, on both sides -/
theorem al_l0 {α : Type} {n : Nat} {f : Nat → α} {K : α → Prop} (hi : 0 < n) (hn : n < 2 ^ 31) : al_ n (0 : Int32) f K = K (f 0) := al_e (i := 0) hi hn
theorem as_l0 {n : Nat} {f : Nat → HC} {K : HC → Prop} (hi : 0 < n) (hn : n < 2 ^ 31) : as_ n (0 : Int32) f K = K (f 0) := as_e (i := 0) hi hn
theorem al_l1 {α : Type} {n : Nat} {f : Nat → α} {K : α → Prop} (hi : 1 < n) (hn : n < 2 ^ 31) : al_ n (1 : Int32) f K = K (f 1) := al_e (i := 1) hi hn
theorem as_l1 {n : Nat} {f : Nat → HC} {K : HC → Prop} (hi : 1 < n) (hn : n < 2 ^ 31) : as_ n (1 : Int32) f K = K (f 1) := as_e (i := 1) hi hn
theorem al_l2 {α : Type} {n : Nat} {f : Nat → α} {K : α → Prop} (hi : 2 < n) (hn : n < 2 ^ 31) : al_ n (2 : Int32) f K = K (f 2) := al_e (i := 2) hi hn
theorem as_l2 {n : Nat} {f : Nat → HC} {K : HC → Prop} (hi : 2 < n) (hn : n < 2 ^ 31) : as_ n (2 : Int32) f K = K (f 2) := as_e (i := 2) hi hn
theorem al_l3 {α : Type} {n : Nat} {f : Nat → α} {K : α → Prop} (hi : 3 < n) (hn : n < 2 ^ 31) : al_ n (3 : Int32) f K = K (f 3) := al_e (i := 3) hi hn
theorem as_l3 {n : Nat} {f : Nat → HC} {K : HC → Prop} (hi : 3 < n) (hn : n < 2 ^ 31) : as_ n (3 : Int32) f K = K (f 3) := as_e (i := 3) hi hn
theorem al_l4 {α : Type} {n : Nat} {f : Nat → α} {K : α → Prop} (hi : 4 < n) (hn : n < 2 ^ 31) : al_ n (4 : Int32) f K = K (f 4) := al_e (i := 4) hi hn
theorem as_l4 {n : Nat} {f : Nat → HC} {K : HC → Prop} (hi : 4 < n) (hn : n < 2 ^ 31) : as_ n (4 : Int32) f K = K (f 4) := as_e (i := 4) hi hn
theorem al_l5 {α : Type} {n : Nat} {f : Nat → α} {K : α → Prop} (hi : 5 < n) (hn : n < 2 ^ 31) : al_ n (5 : Int32) f K = K (f 5) := al_e (i := 5) hi hn
theorem as_l5 {n : Nat} {f : Nat → HC} {K : HC → Prop} (hi : 5 < n) (hn : n < 2 ^ 31) : as_ n (5 : Int32) f K = K (f 5) := as_e (i := 5) hi hn
def XS (b : Nat) (S S' : HC) : Prop := (∀ r k, ¬ (b ≤ r ∧ r ≤ b + 6) → hI S' r k = hI S r k) ∧ hI S' b 11 = hI S b 11 ∧ ∀ r k, hR S' r k = hR S r k
def MS (S S' : HC) : Prop := (∀ r k, r ≠ 69 → hI S' r k = hI S r k) ∧ (∀ k, 89 ≤ k ∨ k = 4 → hI S' 69 k = hI S 69 k) ∧ ∀ r k, hR S' r k = hR S r k
theorem XS.rf (b : Nat) (S : HC) : XS b S S := ⟨fun _ _ _ => rfl, rfl, fun _ _ => rfl⟩
theorem MS.rf (S : HC) : MS S S := ⟨fun _ _ _ => rfl, fun _ _ => rfl, fun _ _ => rfl⟩
theorem XS.tr {b : Nat} {S S' S'' : HC} (h : XS b S S') (h2 : XS b S' S'') : XS b S S'' := ⟨fun r k q => (h2.1 r k q).trans (h.1 r k q), h2.2.1.trans h.2.1, fun r k => (h2.2.2 r k).trans (h.2.2 r k)⟩
theorem MS.tr {S S' S'' : HC} (h : MS S S') (h2 : MS S' S'') : MS S S'' := ⟨fun r k q => (h2.1 r k q).trans (h.1 r k q), fun k q => (h2.2.1 k q).trans (h.2.1 k q), fun r k => (h2.2.2 r k).trans (h.2.2 r k)⟩
theorem XS.sh {b : Nat} {S S' : HC} (h : XS b S S') (hs : SH S) : SH S' := hs.of (fun _ _ => h.2.2 _ _)
theorem MS.sh {S S' : HC} (h : MS S S') (hs : SH S) : SH S' := hs.of (fun _ _ => h.2.2 _ _)
theorem XS.fld {b : Nat} {S : HC} {k : Nat} {v : Int32} (h : k ≠ 11) : XS b S (sI S b k v) := ⟨fun r i q => hI_row (by omega), hI_ne (by omega), fun _ _ => rfl⟩
theorem MS.fld {S : HC} {k : Nat} {v : Int32} (h : k < 89 ∧ k ≠ 4) : MS S (sI S 69 k v) := ⟨fun r i q => hI_row q, fun i q => hI_ne (by omega), fun _ _ => rfl⟩
theorem XA.z {S : HC} {b n : Nat} {f : Nat → Nat → Int32} {fe ye z w : Int32} (h : XA S b n f fe ye z) : XA (sI S b 9 w) b n f fe ye w := by
  obtain ⟨x1, x2, x3, x4, x5⟩ := h
  exact ⟨by rw [hI_ne (by omega)]; exact x1, fun q hq j hj => by rw [← x2 q hq j hj]; exact hI_row (by omega), by rw [hI_ne (by omega)]; exact x3, by rw [hI_ne (by omega)]; exact x4, hI_self _ _ _ _⟩
theorem XA.y {S : HC} {b n : Nat} {f : Nat → Nat → Int32} {fe ye z w : Int32} (h : XA S b n f fe ye z) : XA (sI S b 8 w) b n f fe w z := by
  obtain ⟨x1, x2, x3, x4, x5⟩ := h
  exact ⟨by rw [hI_ne (by omega)]; exact x1, fun q hq j hj => by rw [← x2 q hq j hj]; exact hI_row (by omega), by rw [hI_ne (by omega)]; exact x3, hI_self _ _ _ _, by rw [hI_ne (by omega)]; exact x5⟩
theorem MA.z {S : HC} {n : Nat} {f : Nat → Nat → Int32} {fe ye z w : Int32} (h : MA S n f fe ye z) : MA (sI S 69 0 w) n f fe ye w := by
  obtain ⟨x1, x2, x3, x4, x5⟩ := h
  exact ⟨by rw [hI_ne (by omega)]; exact x1, fun q hq j hj => by rw [← x2 q hq j hj]; exact hI_ne (by omega), by rw [hI_ne (by omega)]; exact x3, by rw [hI_ne (by omega)]; exact x4, hI_self _ _ _ _⟩
theorem MA.y {S : HC} {n : Nat} {f : Nat → Nat → Int32} {fe ye z w : Int32} (h : MA S n f fe ye z) : MA (sI S 69 2 w) n f fe w z := by
  obtain ⟨x1, x2, x3, x4, x5⟩ := h
  exact ⟨by rw [hI_ne (by omega)]; exact x1, fun q hq j hj => by rw [← x2 q hq j hj]; exact hI_ne (by omega), by rw [hI_ne (by omega)]; exact x3, hI_self _ _ _ _, by rw [hI_ne (by omega)]; exact x5⟩
theorem d_X {ln : Nat → Nat} {S : HC} {b n : Nat} {f : Nat → Nat → Int32} {fe ye z : Int32} {post : Int32 → HC → Prop} (hs : SH S) (hx : XA S b n f fe ye z) (h : ∀ S', SH S' → XA S' b n f fe ye (dz z) → XS b S S' → post (dv (dz z)) S') : wpX0_draw ln S b post := by
  rw [p_draw, hx.2.2.2.2]
  exact h _ (hs.sI _ _ _) hx.z (XS.fld (by decide))
theorem d_M {ln : Nat → Nat} {S : HC} {n : Nat} {f : Nat → Nat → Int32} {fe ye z : Int32} {post : Int32 → HC → Prop} (hs : SH S) (hl : LN ln) (hx : MA S n f fe ye z) (h : ∀ S', SH S' → MA S' n f fe ye (dz z) → MS S S' → post (dv (dz z)) S') : wpX8_draw ln S 68 post := by
  rw [p_mdraw hs hl, hx.2.2.2.2]
  exact h _ (hs.sI _ _ _) hx.z (MS.fld (by decide))
theorem XA.g {S : HC} {b n : Nat} {f : Nat → Nat → Int32} {fe ye z : Int32} (h : XA S b n f fe ye z) : ∀ j, j < n → xf S b 3 j = f 3 j := fun j hj => h.2.1 3 (by decide) j hj
theorem MA.g {S : HC} {n : Nat} {f : Nat → Nat → Int32} {fe ye z : Int32} (h : MA S n f fe ye z) : ∀ j, j < n → mf S 69 3 j = f 3 j := fun j hj => h.2.1 3 (by decide) j hj
/-- a child, with z as it was behind the first draw of the year -/
def chP (n : Nat) (f : Nat → Nat → Int32) (z : Int32) : Nat → Nat → Int32 := upP f n (nI (dN (dz (dz (dz (dz z)))) % 6)) (nI (nth (f 3) 0 (dN (dz z) % cnt (f 3) 0 n) n)) (nI (nth (f 3) 1 (dN (dz (dz z)) % cnt (f 3) 1 n) n)) (nI (dN (dz (dz (dz z))) % 2)) (nI (dN (dz (dz (dz (dz (dz z))))) % 8))
def chZ (z : Int32) : Int32 := dz (dz (dz (dz (dz z))))
theorem p_bring {ln : Nat → Nat} {S : HC} {b n : Nat} {f : Nat → Nat → Int32} {fe ye z : Int32} {post : Int32 → HC → Prop} (hs : SH S) (hl : LN ln) (hb : LB b) (hx : XA S b n f fe ye z) (h14 : n < 14) (h0 : ¬ (0 < cnt (f 3) 0 n ∧ 0 < cnt (f 3) 1 n) → post 0 S) (h1 : 0 < cnt (f 3) 0 n → 0 < cnt (f 3) 1 n → ∀ S', XA S' b (n + 1) (chP n f z) fe ye (chZ z) → XS b S S' → post 1 S') : wpX0_bringForth ln S b post := by
  unfold wpX0_bringForth BX0_bringForth_22
  refine p_howMany hs hl hb hx.1 (by omega) hx.g (p_howMany hs hl hb hx.1 (by omega) hx.g ?_)
  have l0 := cnt_le (f 3) 0 n
  have l1 := cnt_le (f 3) 1 n
  by_cases c0 : 0 < cnt (f 3) 0 n
  · rw [if_neg (show ¬ nI (cnt (f 3) 0 n) < 1 from nI_nlt (b := 1) (by omega) (by omega))]
    by_cases c1 : 0 < cnt (f 3) 1 n
    · rw [if_pos (show (1 : Int32) ≤ nI (cnt (f 3) 1 n) from nI_le (a := 1) (by omega) (by omega))]
      refine d_X hs hx (fun S1 hs1 hx1 hd1 => ?_)
      rw [ne_e (nI_ne0 c0 (by omega)), lt_e, drem _ c0 (by omega)]
      refine p_nthOf hs1 hl hb hx1.1 (by omega) hx1.g (Nat.mod_lt _ c0) ?_
      refine d_X hs1 hx1 (fun S2 hs2 hx2 hd2 => ?_)
      rw [ne_e (nI_ne0 c1 (by omega)), lt_e, drem _ c1 (by omega)]
      refine p_nthOf hs2 hl hb hx2.1 (by omega) hx2.g (Nat.mod_lt _ c1) ?_
      refine d_X hs2 hx2 (fun S3 hs3 hx3 hd3 => ?_)
      rw [ne_e (by decide), lt_e, show (2 : Int32) = nI 2 from rfl, drem _ (by decide) (by decide)]
      refine d_X hs3 hx3 (fun S4 hs4 hx4 hd4 => ?_)
      rw [ne_e (by decide), lt_e, show (6 : Int32) = nI 6 from rfl, drem _ (by decide) (by decide)]
      refine d_X hs4 hx4 (fun S5 hs5 hx5 hd5 => ?_)
      rw [ne_e (by decide), lt_e, show (8 : Int32) = nI 8 from rfl, drem _ (by decide) (by decide), p_add hs5 hl hb hx5.1 h14, rb_e1]
      refine h1 c0 c1 _ hx5.add ((((hd1.tr hd2).tr hd3).tr hd4).tr (hd5.tr ⟨fun r k q => xadd_o q, xadd_s (by decide), fun _ _ => rfl⟩))
    · rw [if_neg (show ¬ (1 : Int32) ≤ nI (cnt (f 3) 1 n) from nI_ge (b := 1) (by omega) (by decide)), rb_e0]
      exact h0 (fun q => c1 q.2)
  · rw [if_pos (show nI (cnt (f 3) 0 n) < 1 from nI_lt (b := 1) (by omega) (by decide)), rb_e0]
    exact h0 (fun q => c0 q.1)
def yB (n : Nat) (g : Nat → Int32) (fe z : Int32) : Prop := nI (dN (dz z) % 100) < fe ∧ n < 14 ∧ 0 < cnt g 0 n ∧ 0 < cnt g 1 n
def yN (n : Nat) (f : Nat → Nat → Int32) (fe z : Int32) : Nat := if nI (dN (dz z) % 100) < fe ∧ n < 14 ∧ 0 < cnt (f 3) 0 n ∧ 0 < cnt (f 3) 1 n then n + 1 else n
def yF (n : Nat) (f : Nat → Nat → Int32) (fe z : Int32) : Nat → Nat → Int32 := if nI (dN (dz z) % 100) < fe ∧ n < 14 ∧ 0 < cnt (f 3) 0 n ∧ 0 < cnt (f 3) 1 n then chP n f (dz z) else f
def yZ (n : Nat) (f : Nat → Nat → Int32) (fe z : Int32) : Int32 := if nI (dN (dz z) % 100) < fe ∧ n < 14 ∧ 0 < cnt (f 3) 0 n ∧ 0 < cnt (f 3) 1 n then chZ (dz z) else dz z
theorem yN_le {n : Nat} {f : Nat → Nat → Int32} {fe z : Int32} (h : n ≤ 14) : yN n f fe z ≤ 14 ∧ n ≤ yN n f fe z ∧ yN n f fe z ≤ n + 1 := by
  unfold yN
  split <;> omega
theorem chP_ok {n : Nat} {f : Nat → Nat → Int32} {z : Int32} (h : VP n f) (c0 : 0 < cnt (f 3) 0 n) (c1 : 0 < cnt (f 3) 1 n) : VP (n + 1) (chP n f z) := by
  refine h.add ⟨_, Nat.mod_lt _ (by decide), rfl⟩ (Or.inr ⟨_, (nth_ok (Nat.mod_lt _ c0)).1, rfl⟩) (Or.inr ⟨_, (nth_ok (Nat.mod_lt _ c1)).1, rfl⟩) ?_ ⟨_, Nat.mod_lt _ (by decide), rfl⟩
  rcases (show dN (dz (dz (dz z))) % 2 = 0 ∨ dN (dz (dz (dz z))) % 2 = 1 by omega) with e | e <;> rw [e]
  · exact Or.inl rfl
  · exact Or.inr rfl
theorem yF_ok {n : Nat} {f : Nat → Nat → Int32} {fe z : Int32} (h : VP n f) : VP (yN n f fe z) (yF n f fe z) := by
  unfold yN yF
  split
  · rename_i c; exact chP_ok h c.2.2.1 c.2.2.2
  · exact h
theorem p_pass {ln : Nat → Nat} {S : HC} {b n : Nat} {f : Nat → Nat → Int32} {fe ye z : Int32} {post : Int32 → HC → Prop} (hs : SH S) (hl : LN ln) (hb : LB b) (hx : XA S b n f fe ye z) (h14 : n ≤ 14) (h : ∀ S', XA S' b (yN n f fe z) (yF n f fe z) fe (ye + 1) (yZ n f fe z) → XS b S S' → post (if yN n f fe z = n then 0 else 1) S') : wpX0_passYear ln S b post := by
  unfold wpX0_passYear
  refine d_X hs hx (fun S1 hs1 hx1 hd1 => ?_)
  rw [ne_e (by decide), lt_e, show (100 : Int32) = nI 100 from rfl, drem _ (by decide) (by decide), lt_e, hx1.2.2.1]
  have hd2 : XS b S (sI S1 b 8 (ye + 1)) := hd1.tr (XS.fld (by decide))
  have no : ¬ (nI (dN (dz z) % 100) < fe ∧ n < 14 ∧ 0 < cnt (f 3) 0 n ∧ 0 < cnt (f 3) 1 n) → post 0 (sI S1 b 8 (ye + 1)) := by
    intro q
    have := h _ (by unfold yN yF yZ; rw [if_neg q, if_neg q, if_neg q]; exact hx1.y) hd2
    unfold yN at this
    rw [if_neg q, if_pos rfl] at this
    exact this
  unfold BX0_passYear_19 BX0_passYear_52
  simp only [lt_e, hx1.2.2.2.1, rb_e0, rb_e1]
  by_cases c : fe ≤ nI (dN (dz z) % 100)
  · rw [if_pos c, if_pos trivial]
    exact no (fun q => absurd c (Int32.not_le.mpr q.1))
  · rw [if_neg c, if_neg (by decide), p_hasRoom hx1.y.1 h14]
    by_cases c14 : n < 14
    · rw [bI_t c14, if_neg (by decide)]
      refine p_bring (hs1.sI _ _ _) hl hb hx1.y c14 (fun q => ?_) (fun q0 q1 S3 hx3 hd3 => ?_)
      · rw [if_pos rfl]; exact no (fun u => q u.2.2)
      · rw [if_neg (by decide)]
        have cc : nI (dN (dz z) % 100) < fe ∧ n < 14 ∧ 0 < cnt (f 3) 0 n ∧ 0 < cnt (f 3) 1 n := ⟨Int32.not_le.mp c, c14, q0, q1⟩
        have := h S3 (by unfold yN yF yZ; rw [if_pos cc, if_pos cc, if_pos cc]; exact hx3) (hd2.tr hd3)
        unfold yN at this
        rw [if_pos cc, if_neg (by omega)] at this
        exact this
    · rw [bI_f c14, if_pos rfl]
      exact no (fun q => c14 q.2.1)
theorem p_mend {ln : Nat → Nat} {S : HC} {n : Nat} {f : Nat → Nat → Int32} {fe ye z : Int32} {post : HC → Prop} (hs : SH S) (hl : LN ln) (hx : MA S n f fe ye z) (h : post (sI S 69 2 (ye + 1))) : BX8_year_121 ln post S 68 := by
  unfold BX8_year_121
  rw [sh68_0 hs, dn_e, ln69 hl, show (2 : Int32) = nI 2 from rfl, al_e (by decide) (by decide), lt_e, as_e (by decide) (by decide), hx.2.2.2.1]
  exact h
theorem p_year {ln : Nat → Nat} {S : HC} {n : Nat} {f : Nat → Nat → Int32} {fe ye z : Int32} {post : HC → Prop} (hs : SH S) (hl : LN ln) (hx : MA S n f fe ye z) (h14 : n ≤ 14) (h : ∀ S', MA S' (yN n f fe z) (yF n f fe z) fe (ye + 1) (yZ n f fe z) → MS S S' → post S') : wpX8_year ln S 68 post := by
  unfold wpX8_year
  refine d_M hs hl hx (fun S1 hs1 hx1 hd1 => ?_)
  rw [ne_e (by decide), lt_e, show (100 : Int32) = nI 100 from rfl, drem _ (by decide) (by decide), sh68_0 hs1, dn_e, ln69 hl, show (3 : Int32) = nI 3 from rfl, al_e (by decide) (by decide), hx1.2.2.1]
  have l0 := cnt_le (f 3) 0 n
  have l1 := cnt_le (f 3) 1 n
  have no : ¬ (nI (dN (dz z) % 100) < fe ∧ n < 14 ∧ 0 < cnt (f 3) 0 n ∧ 0 < cnt (f 3) 1 n) → BX8_year_121 ln post S1 68 := by
    intro q
    refine p_mend hs1 hl hx1 (h _ ?_ (hd1.tr (MS.fld (by decide))))
    unfold yN yF yZ
    rw [if_neg q, if_neg q, if_neg q]
    exact hx1.y
  unfold BX8_year_21
  by_cases c : fe ≤ nI (dN (dz z) % 100)
  · rw [if_pos c]
    refine p_manyOf hs1 hl hx1.1 h14 hx1.g (p_manyOf hs1 hl hx1.1 h14 hx1.g ?_)
    rw [if_pos rfl]
    exact no (fun q => absurd c (Int32.not_le.mpr q.1))
  · rw [if_neg c]
    refine p_manyOf hs1 hl hx1.1 h14 hx1.g (p_manyOf hs1 hl hx1.1 h14 hx1.g ?_)
    rw [if_neg (by decide), sh68_0 hs1, dn_e, ln69 hl, al_l1 (by decide) (by decide), hx1.1]
    by_cases c14 : n < 14
    · rw [if_neg (show ¬ (14 : Int32) ≤ nI n from nI_ge (b := 14) c14 (by decide))]
      by_cases c0 : 0 < cnt (f 3) 0 n
      · rw [if_neg (show ¬ nI (cnt (f 3) 0 n) ≤ 0 from nI_nle c0 (by omega))]
        by_cases c1 : 0 < cnt (f 3) 1 n
        · rw [if_neg (show ¬ nI (cnt (f 3) 1 n) ≤ 0 from nI_nle c1 (by omega))]
          refine d_M hs1 hl hx1 (fun S2 hs2 hx2 hd2 => ?_)
          rw [ne_e (nI_ne0 c0 (by omega)), lt_e, drem _ c0 (by omega)]
          refine p_numberOf hs2 hl h14 hx2.g (Nat.mod_lt _ c0) ?_
          refine d_M hs2 hl hx2 (fun S3 hs3 hx3 hd3 => ?_)
          rw [ne_e (nI_ne0 c1 (by omega)), lt_e, drem _ c1 (by omega)]
          refine p_numberOf hs3 hl h14 hx3.g (Nat.mod_lt _ c1) ?_
          refine d_M hs3 hl hx3 (fun S4 hs4 hx4 hd4 => ?_)
          rw [ne_e (by decide), lt_e, show (2 : Int32) = nI 2 from rfl, drem _ (by decide) (by decide)]
          refine d_M hs4 hl hx4 (fun S5 hs5 hx5 hd5 => ?_)
          rw [ne_e (by decide), lt_e, show (6 : Int32) = nI 6 from rfl, drem _ (by decide) (by decide)]
          refine d_M hs5 hl hx5 (fun S6 hs6 hx6 hd6 => ?_)
          rw [ne_e (by decide), lt_e, show (8 : Int32) = nI 8 from rfl, drem _ (by decide) (by decide), p_comes hs6 hl hx6.1 c14]
          have cc : nI (dN (dz z) % 100) < fe ∧ n < 14 ∧ 0 < cnt (f 3) 0 n ∧ 0 < cnt (f 3) 1 n := ⟨Int32.not_le.mp c, c14, c0, c1⟩
          refine p_mend hs6 hl hx6.add (h _ ?_ ((((((hd1.tr hd2).tr hd3).tr hd4).tr hd5).tr hd6).tr (MS.tr ⟨fun r k q => madd_o (by omega), fun k q => madd_o (by omega), fun _ _ => rfl⟩ (MS.fld (by decide)))))
          unfold yN yF yZ
          rw [if_pos cc, if_pos cc, if_pos cc]
          exact hx6.add.y
        · rw [if_pos (show nI (cnt (f 3) 1 n) ≤ 0 from nI_le (b := 0) (by omega) (by decide))]
          exact no (fun q => c1 q.2.2.2)
      · rw [if_pos (show nI (cnt (f 3) 0 n) ≤ 0 from nI_le (b := 0) (by omega) (by decide))]
        exact no (fun q => c0 q.2.2.1)
    · rw [if_pos (show (14 : Int32) ≤ nI n from nI_le (a := 14) (by omega) (by omega))]
      exact no (fun q => c14 q.2.1)
-- 31.pyears.lean.txt
/-! years one behind the other; people that are drawn -/
abbrev LA : Type := Nat × (Nat → Nat → Int32) × Int32
def yK (fe : Int32) : Nat → LA → LA
  | 0, A => A
  | k + 1, A => yK fe k (yN A.1 A.2.1 fe A.2.2, yF A.1 A.2.1 fe A.2.2, yZ A.1 A.2.1 fe A.2.2)
theorem yK_le {fe : Int32} : ∀ (k : Nat) (A : LA), A.1 ≤ 14 → (yK fe k A).1 ≤ 14 ∧ A.1 ≤ (yK fe k A).1 := by
  intro k
  induction k with
  | zero => intro A h; exact ⟨h, Nat.le_refl _⟩
  | succ k ih =>
    intro A h
    obtain ⟨h1, h2, -⟩ := yN_le (f := A.2.1) (fe := fe) (z := A.2.2) h
    obtain ⟨i1, i2⟩ := ih (yN A.1 A.2.1 fe A.2.2, yF A.1 A.2.1 fe A.2.2, yZ A.1 A.2.1 fe A.2.2) h1
    exact ⟨i1, Nat.le_trans h2 i2⟩
theorem yK_ok {fe : Int32} : ∀ (k : Nat) (A : LA), VP A.1 A.2.1 → VP (yK fe k A).1 (yK fe k A).2.1 := by
  intro k
  induction k with
  | zero => intro A h; exact h
  | succ k ih => intro A h; exact ih _ (yF_ok h)
theorem p_years0 {ln : Nat → Nat} {fe : Int32} {n0 sp : Nat} {post : Int32 → HC → Prop} (hl : LN ln) (hsp : sp < 1000) : ∀ (m i y : Nat) (A : LA) (S : HC), i + m = sp → SH S → A.1 ≤ 14 → n0 ≤ A.1 → XA S 1 A.1 A.2.1 fe (nI y) A.2.2 → (∀ S', XA S' 1 (yK fe m A).1 (yK fe m A).2.1 fe (nI (y + m)) (yK fe m A).2.2 → XS 1 S S' → post (nI ((yK fe m A).1 - n0)) S') → LX7_years_35 ln post (m + 1) S 0 (nI sp) (nI (A.1 - n0)) (nI i) := by
  intro m
  induction m with
  | zero =>
    intro i y A S hi hs h14 hn0 hx h
    rw [LX7_years_35]
    dsimp only
    rw [if_pos (nI_le (by omega) (by omega))]
    exact h S hx (XS.rf _ _)
  | succ m ih =>
    intro i y A S hi hs h14 hn0 hx h
    rw [LX7_years_35]
    dsimp only
    rw [if_neg (nI_ge (by omega) (by omega)), sh0_0 hs, dn_e]
    refine p_pass hs hl (Or.inl rfl) hx h14 (fun S1 hx1 hd1 => ?_)
    obtain ⟨l1, l2, l3⟩ := yN_le (f := A.2.1) (fe := fe) (z := A.2.2) h14
    rw [show nI y + 1 = nI (y + 1) from nI_1 y] at hx1
    have key := ih (i + 1) (y + 1) (yN A.1 A.2.1 fe A.2.2, yF A.1 A.2.1 fe A.2.2, yZ A.1 A.2.1 fe A.2.2) S1 (by omega) (hd1.sh hs) l1 (by dsimp only; omega) hx1 (fun S2 hx2 hd2 => by
      have q := h S2 (by rw [show y + (m + 1) = y + 1 + m by omega]; exact hx2) (hd1.tr hd2)
      exact q)
    unfold BX7_years_54
    simp only [lt_e]
    rw [show (1 : Int32) = nI 1 from rfl, nI_add]
    by_cases e : yN A.1 A.2.1 fe A.2.2 = A.1
    · rw [if_pos e, if_pos rfl]
      dsimp only at key
      rw [e] at key
      exact key
    · rw [if_neg e, if_neg (by decide), nI_add]
      dsimp only at key
      rw [show A.1 - n0 + 1 = yN A.1 A.2.1 fe A.2.2 - n0 by omega]
      exact key
theorem p_goesOn {ln : Nat → Nat} {fe : Int32} {sp : Nat} {post : HC → Prop} (hl : LN ln) (hsp : sp < 1000) {y : Nat} {A : LA} {S : HC} (hs : SH S) (h14 : A.1 ≤ 14) (hx : MA S A.1 A.2.1 fe (nI y) A.2.2) (h : ∀ S', MA S' (yK fe sp A).1 (yK fe sp A).2.1 fe (nI (y + sp)) (yK fe sp A).2.2 → MS S S' → post S') : wpX8_goesOn ln S 68 (nI sp) post := by
  have key : ∀ (m i y : Nat) (A : LA) (S : HC), i + m = sp → SH S → A.1 ≤ 14 → MA S A.1 A.2.1 fe (nI y) A.2.2 → (∀ S', MA S' (yK fe m A).1 (yK fe m A).2.1 fe (nI (y + m)) (yK fe m A).2.2 → MS S S' → post S') → LX8_goesOn_2 ln post (m + 1) S 68 (nI sp) (nI i) := by
    intro m
    induction m with
    | zero =>
      intro i y A S hi hs h14 hx h
      rw [LX8_goesOn_2]
      dsimp only
      rw [if_pos (nI_le (by omega) (by omega))]
      exact h S hx (MS.rf _)
    | succ m ih =>
      intro i y A S hi hs h14 hx h
      rw [LX8_goesOn_2]
      dsimp only
      rw [if_neg (nI_ge (by omega) (by omega))]
      refine p_year hs hl hx h14 (fun S1 hx1 hd1 => ?_)
      obtain ⟨l1, l2, l3⟩ := yN_le (f := A.2.1) (fe := fe) (z := A.2.2) h14
      rw [show nI y + 1 = nI (y + 1) from nI_1 y] at hx1
      rw [lt_e, show (1 : Int32) = nI 1 from rfl, nI_add]
      exact ih (i + 1) (y + 1) (yN A.1 A.2.1 fe A.2.2, yF A.1 A.2.1 fe A.2.2, yZ A.1 A.2.1 fe A.2.2) S1 (by omega) (hd1.sh hs) l1 hx1 (fun S2 hx2 hd2 => h S2 (by rw [show y + (m + 1) = y + 1 + m by omega]; exact hx2) (hd1.tr hd2))
  exact ⟨sp + 1, key sp 0 y A S (by omega) hs h14 hx h⟩
/-- both lands behind changes of their own: the relation -/
theorem PI.both {N : Nat} {ln : Nat → Nat} {S S1 S2 : HC} (h : PI N ln S) (d1 : XS 1 S S1) (d2 : MS S1 S2) {n : Nat} (hn : LR S2 1 69 n) : PI N ln S2 := by
  have e : ∀ r k, ¬ ((1 ≤ r ∧ r ≤ 7) ∨ r = 69) → hI S2 r k = hI S r k := fun r k q => by rw [d2.1 r k (by omega), d1.1 r k (by omega)]
  have er : ∀ r k, hR S2 r k = hR S r k := fun r k => by rw [d2.2.2, d1.2.2]
  exact h.now er e ⟨⟨n, hn⟩, h.2.1.2.ag (fun r k q => e r k (by omega)) (fun r k _ => er r k) (fun k q => by rw [d2.2.1 k (Or.inl q), d1.1 _ _ (by omega)]) (by rw [d2.1 _ _ (by decide), d1.2.1]) (by rw [d2.2.1 4 (Or.inr rfl), d1.1 _ _ (by omega)]) (fun k => er _ _)⟩
theorem s_years {N : Nat} {ln : Nat → Nat} {S : HC} (h : PI N ln S) (a1 : Int32) : wpX7_years ln S 0 a1 fun v S => wpX8_years ln S 68 a1 fun w S => OK N ln v w S := by
  obtain ⟨⟨hs, hl, -, -⟩, ⟨⟨n, hn⟩, hw⟩, -⟩ := id h
  have h14 := hn.1
  unfold wpX7_years BX7_years_11
  simp only [sh0_0 hs, dn_e, lt_e]
  by_cases h1 : a1 < 1
  · rw [if_pos h1]
    unfold wpX8_years
    rw [p_in, bI_f (fun q => absurd h1 (Int32.not_lt.mpr q.1)), if_pos rfl]
    exact ⟨rfl, h⟩
  rw [if_neg h1]
  by_cases h2 : a1 ≤ 100
  · rw [if_pos h2]
    obtain ⟨c, hc, rfl⟩ := nI_of2 (n := 100) (M := 100) (x := a1) rfl (fun q => h1 (Int32.lt_trans q (by decide))) h2
    have hc1 : 1 ≤ c := by
      rcases Nat.eq_zero_or_pos c with e | e
      · subst e; exact absurd (by decide) h1
      · exact e
    obtain ⟨f, fe, ye, z, x1, x2, x3, x4, y, hy, rfl⟩ := hn.out
    rw [x1.2.2.2.1, show (9999 : Int32) - nI y = nI (9999 - y) from pk_sub (a := 9999) hy]
    obtain ⟨sp, hsp, esp⟩ : ∃ sp, (sp ≤ 100 ∧ y + sp ≤ 9999) ∧ (if nI (9999 - y) < nI c then nI (9999 - y) else nI c) = nI sp ∧ (if nI (9999 - y) < 0 then (0 : Int32) else if nI c < nI (9999 - y) then nI c else nI (9999 - y)) = nI sp := by
      rw [if_neg (nI_pos (n := 9999 - y) (by omega))]
      by_cases e : 9999 - y < c
      · exact ⟨9999 - y, by omega, by rw [if_pos (nI_lt e (by omega))], by rw [if_neg (nI_nlt (by omega) (by omega))]⟩
      · refine ⟨c, by omega, by rw [if_neg (nI_nlt (by omega) (by omega))], ?_⟩
        by_cases e2 : c < 9999 - y
        · rw [if_pos (nI_lt e2 (by omega))]
        · rw [if_neg (nI_nlt (by omega) (by omega)), show 9999 - y = c by omega]
    rw [esp.1]
    refine ⟨sp + 1, ?_⟩
    have key := p_years0 (ln := ln) (fe := fe) (n0 := n) (sp := sp) (post := fun v S => wpX8_years ln S 68 (nI c) fun w S => OK N ln v w S) hl (by omega) sp 0 y (n, f, z) S (by omega) hs h14 (Nat.le_refl _) x1 (fun S1 hx1 hd1 => ?_)
    · dsimp only at key
      rw [Nat.sub_self] at key
      exact key
    have hs1 := hd1.sh hs
    have m1 : MA S1 n f fe (nI y) z := x2.ag h14 (fun k _ => hd1.1 _ _ (by omega))
    unfold wpX8_years
    rw [p_in, bI_t ⟨show (1 : Int32) ≤ nI c from nI_le (a := 1) hc1 (by omega), show nI c ≤ 100 from nI_le (b := 100) hc (by decide)⟩, if_neg (by decide), sh68_0 hs1]
    simp only [dn_e, ln69 hl]
    rw [al_l1 (by decide) (by decide), al_l2 (by decide) (by decide), m1.1, m1.2.2.2.1, lt_e, show (9999 : Int32) - nI y = nI (9999 - y) from pk_sub (a := 9999) hy, p_mwithin, esp.2]
    refine p_goesOn (A := (n, f, z)) hl (by omega) hs1 h14 m1 (fun S2 hx2 hd2 => ?_)
    obtain ⟨l1, l2⟩ := yK_le (fe := fe) sp (n, f, z) h14
    rw [sh68_0 (hd2.sh hs1), dn_e, ln69 hl, al_l1 (by decide) (by decide), lt_e, hx2.1, pk_sub l2]
    exact ⟨rfl, h.both hd1 hd2 (LR.of l1 (hx1.ag (fun r k q1 q2 => hd2.1 r k (by omega))) hx2 (yK_ok sp (n, f, z) x3) x4 ⟨y + sp, by omega, rfl⟩)⟩
  · rw [if_neg h2]
    unfold wpX8_years
    rw [p_in, bI_f (fun q => h2 q.2), if_pos rfl]
    exact ⟨rfl, h⟩
def dF (A : LA) : LA := (A.1 + 1, upP A.2.1 A.1 (nI (dN (dz A.2.2) % 6)) (-1) (-1) (nI (dN (dz (dz A.2.2)) % 2)) (nI (dN (dz (dz (dz A.2.2))) % 8)), dz (dz (dz A.2.2)))
def dK : Nat → LA → LA
  | 0, A => A
  | k + 1, A => dK k (dF A)
theorem dK_n : ∀ (k : Nat) (A : LA), (dK k A).1 = A.1 + k := by
  intro k
  induction k with
  | zero => intro A; rfl
  | succ k ih => intro A; rw [dK, ih]; simp only [dF]; omega
theorem dK_ok : ∀ (k : Nat) (A : LA), VP A.1 A.2.1 → VP (dK k A).1 (dK k A).2.1 := by
  intro k
  induction k with
  | zero => intro A h; exact h
  | succ k ih =>
    intro A h
    refine ih _ (h.add ⟨_, Nat.mod_lt _ (by decide), rfl⟩ (Or.inl rfl) (Or.inl rfl) ?_ ⟨_, Nat.mod_lt _ (by decide), rfl⟩)
    rcases (show dN (dz (dz A.2.2)) % 2 = 0 ∨ dN (dz (dz A.2.2)) % 2 = 1 by omega) with e | e <;> rw [e]
    · exact Or.inl rfl
    · exact Or.inr rfl
theorem p_deal0 {ln : Nat → Nat} {fe : Int32} {c t : Nat} {ye : Int32} {post : Int32 → HC → Prop} (hl : LN ln) (hc : c ≤ 14) : ∀ (m i : Nat) (A : LA) (S : HC), i + m = t → (t = c ∨ (t < c ∧ A.1 + m = 14)) → SH S → A.1 + m ≤ 14 → XA S 1 A.1 A.2.1 fe ye A.2.2 → (∀ S', XA S' 1 (dK m A).1 (dK m A).2.1 fe ye (dK m A).2.2 → XS 1 S S' → post (nI t) S') → LX7_deal_16 ln post (m + 1) S 0 (nI c) (nI i) := by
  intro m
  induction m with
  | zero =>
    intro i A S hi ht hs h14 hx h
    rw [LX7_deal_16]
    dsimp only
    have hit : i = t := by omega
    subst hit
    unfold BX7_deal_44
    have q := h S hx (XS.rf _ _)
    rcases ht with e | ⟨e1, e2⟩
    · rw [if_pos (nI_le (by omega) (by omega))]; exact q
    · rw [if_neg (nI_ge (by omega) (by omega)), sh0_0 hs, dn_e, p_hasRoom hx.1 (by omega), bI_f (by omega), if_pos rfl]; exact q
  | succ m ih =>
    intro i A S hi ht hs h14 hx h
    rw [LX7_deal_16]
    dsimp only
    rw [if_neg (nI_ge (by omega) (by omega)), sh0_0 hs, dn_e, p_hasRoom hx.1 (by omega), bI_t (by omega), if_neg (by decide), sh0_0 hs, dn_e]
    unfold wpX0_drawFounder
    refine d_X hs hx (fun S1 hs1 hx1 hd1 => ?_)
    rw [ne_e (by decide), lt_e, show (6 : Int32) = nI 6 from rfl, drem _ (by decide) (by decide)]
    refine d_X hs1 hx1 (fun S2 hs2 hx2 hd2 => ?_)
    rw [ne_e (by decide), lt_e, show (2 : Int32) = nI 2 from rfl, drem _ (by decide) (by decide)]
    refine d_X hs2 hx2 (fun S3 hs3 hx3 hd3 => ?_)
    rw [ne_e (by decide), lt_e, show (8 : Int32) = nI 8 from rfl, drem _ (by decide) (by decide), p_add hs3 hl (Or.inl rfl) hx3.1 (by omega)]
    try dsimp only
    rw [lt_e, nI_1]
    have hd4 : XS 1 S (xadd S3 1 A.1 (nI (dN (dz A.2.2) % 6)) (-1) (-1) (nI (dN (dz (dz A.2.2)) % 2)) (nI (dN (dz (dz (dz A.2.2))) % 8))) := ((hd1.tr hd2).tr hd3).tr ⟨fun r k q => xadd_o q, xadd_s (by decide), fun _ _ => rfl⟩
    exact ih (i + 1) (dF A) _ (by omega) (by simp only [dF]; omega) (hd4.sh hs) (by simp only [dF]; omega) hx3.add (fun S5 hx5 hd5 => h S5 hx5 (hd4.tr hd5))
theorem p_mdeal0 {ln : Nat → Nat} {fe : Int32} {c t : Nat} {ye : Int32} {post : Int32 → HC → Prop} (hl : LN ln) (hc : c ≤ 14) : ∀ (m i : Nat) (A : LA) (S : HC), i + m = t → (t = c ∨ (t < c ∧ A.1 + m = 14)) → SH S → A.1 + m ≤ 14 → MA S A.1 A.2.1 fe ye A.2.2 → (∀ S', MA S' (dK m A).1 (dK m A).2.1 fe ye (dK m A).2.2 → MS S S' → post (nI t) S') → LX8_deal_15 ln post (m + 1) S 68 (nI c) (nI i) := by
  intro m
  induction m with
  | zero =>
    intro i A S hi ht hs h14 hx h
    rw [LX8_deal_15]
    dsimp only
    have hit : i = t := by omega
    subst hit
    unfold BX8_deal_71
    have q := h S hx (MS.rf _)
    rcases ht with e | ⟨e1, e2⟩
    · rw [if_pos (nI_le (by omega) (by omega))]; exact q
    · rw [if_neg (nI_ge (by omega) (by omega)), sh68_0 hs, dn_e, ln69 hl, al_l1 (by decide) (by decide), hx.1, if_pos (show (14 : Int32) ≤ nI A.1 from nI_le (a := 14) (by omega) (by omega))]; exact q
  | succ m ih =>
    intro i A S hi ht hs h14 hx h
    rw [LX8_deal_15]
    dsimp only
    rw [if_neg (nI_ge (by omega) (by omega)), sh68_0 hs, dn_e, ln69 hl, al_l1 (by decide) (by decide), hx.1, if_neg (show ¬ (14 : Int32) ≤ nI A.1 from nI_ge (b := 14) (by omega) (by decide))]
    refine d_M hs hl hx (fun S1 hs1 hx1 hd1 => ?_)
    rw [ne_e (by decide), lt_e, show (6 : Int32) = nI 6 from rfl, drem _ (by decide) (by decide)]
    refine d_M hs1 hl hx1 (fun S2 hs2 hx2 hd2 => ?_)
    rw [ne_e (by decide), lt_e, show (2 : Int32) = nI 2 from rfl, drem _ (by decide) (by decide)]
    refine d_M hs2 hl hx2 (fun S3 hs3 hx3 hd3 => ?_)
    rw [ne_e (by decide), lt_e, show (8 : Int32) = nI 8 from rfl, drem _ (by decide) (by decide), p_comes hs3 hl hx3.1 (by omega)]
    try dsimp only
    rw [lt_e, nI_1]
    have hd4 : MS S (madd S3 A.1 (nI (dN (dz A.2.2) % 6)) (-1) (-1) (nI (dN (dz (dz A.2.2)) % 2)) (nI (dN (dz (dz (dz A.2.2))) % 8))) := ((hd1.tr hd2).tr hd3).tr ⟨fun r k q => madd_o (by omega), fun k q => madd_o (by omega), fun _ _ => rfl⟩
    exact ih (i + 1) (dF A) _ (by omega) (by simp only [dF]; omega) (hd4.sh hs) (by simp only [dF]; omega) hx3.add (fun S5 hx5 hd5 => h S5 hx5 (hd4.tr hd5))
theorem s_deal {N : Nat} {ln : Nat → Nat} {S : HC} (h : PI N ln S) (a1 : Int32) : wpX7_deal ln S 0 a1 fun v S => wpX8_deal ln S 68 a1 fun w S => OK N ln v w S := by
  obtain ⟨⟨hs, hl, -, -⟩, ⟨⟨n, hn⟩, hw⟩, -⟩ := id h
  have h14 := hn.1
  unfold wpX7_deal BX7_deal_11
  by_cases h1 : a1 < 1
  · rw [if_pos h1]
    unfold wpX8_deal
    dsimp only
    rw [p_in, bI_f (fun q => absurd h1 (Int32.not_lt.mpr q.1)), if_pos rfl]
    exact ⟨rfl, h⟩
  rw [if_neg h1]
  by_cases h2 : a1 ≤ 14
  · rw [if_pos h2]
    obtain ⟨c, hc, rfl⟩ := nI_of2 (n := 14) (M := 14) (x := a1) rfl (fun q => h1 (Int32.lt_trans q (by decide))) h2
    have hc1 : 1 ≤ c := by
      rcases Nat.eq_zero_or_pos c with e | e
      · subst e; exact absurd (by decide) h1
      · exact e
    obtain ⟨f, fe, ye, z, x1, x2, x3, x4, x5⟩ := hn.out
    obtain ⟨t, ht1, ht2⟩ : ∃ t, (t = c ∨ (t < c ∧ n + t = 14)) ∧ n + t ≤ 14 := by
      by_cases e : n + c ≤ 14
      · exact ⟨c, Or.inl rfl, e⟩
      · exact ⟨14 - n, Or.inr ⟨by omega, by omega⟩, by omega⟩
    refine ⟨t + 1, p_deal0 hl hc t 0 (n, f, z) S (by omega) ht1 hs ht2 x1 (fun S1 hx1 hd1 => ?_)⟩
    have hs1 := hd1.sh hs
    have m1 : MA S1 n f fe ye z := x2.ag h14 (fun k _ => hd1.1 _ _ (by omega))
    unfold wpX8_deal
    dsimp only
    rw [p_in, bI_t ⟨show (1 : Int32) ≤ nI c from nI_le (a := 1) hc1 (by omega), h2⟩, if_neg (by decide)]
    refine ⟨t + 1, p_mdeal0 hl hc t 0 (n, f, z) S1 (by omega) ht1 hs1 ht2 m1 (fun S2 hx2 hd2 => ?_)⟩
    have e14 : (dK t (n, f, z)).1 ≤ 14 := by rw [dK_n]; exact ht2
    exact ⟨rfl, h.both hd1 hd2 (LR.of e14 (hx1.ag (fun r k q1 q2 => hd2.1 r k (by omega))) hx2 (dK_ok t (n, f, z) x3) x4 x5)⟩
  · rw [if_neg h2]
    unfold wpX8_deal
    dsimp only
    rw [p_in, bI_f (fun q => h2 q.2), if_pos rfl]
    exact ⟨rfl, h⟩
-- 32.pask.lean.txt
/-! steps: one thing set, and what is asked of a slot or of one of the people -/
theorem slE (x : Int32) : bI (0 ≤ x ∧ x ≤ 4) = bI (0 ≤ x ∧ x < 5) := rngE (n := 5) rfl 5 rfl
theorem shE (x : Int32) : bI (0 ≤ x ∧ x ≤ 3) = bI (0 ≤ x ∧ x < 4) := rngE (n := 4) rfl 4 rfl
theorem kiE (x : Int32) : bI (0 ≤ x ∧ x ≤ 5) = bI (0 ≤ x ∧ x < 6) := rngE (n := 6) rfl 6 rfl
theorem chE (x : Int32) : bI (0 ≤ x ∧ x ≤ 7) = bI (0 ≤ x ∧ x < 8) := rngE (n := 8) rfl 8 rfl
theorem sl_o {S : HC} (h : SH S) {i : Nat} (hi : i < 5) : hR S 42 i = some (53 + 3 * i) ∧ hR S (53 + 3 * i) 4 = some (54 + 3 * i) ∧ hR S (54 + 3 * i) 2 = some (55 + 3 * i) := by
  rcases (show i = 0 ∨ i = 1 ∨ i = 2 ∨ i = 3 ∨ i = 4 by omega) with rfl | rfl | rfl | rfl | rfl
  · exact ⟨sh42_0 h, sh53_4 h, sh54_2 h⟩
  · exact ⟨sh42_1 h, sh56_4 h, sh57_2 h⟩
  · exact ⟨sh42_2 h, sh59_4 h, sh60_2 h⟩
  · exact ⟨sh42_3 h, sh62_4 h, sh63_2 h⟩
  · exact ⟨sh42_4 h, sh65_4 h, sh66_2 h⟩
theorem sl_n {ln : Nat → Nat} (h : LN ln) {i : Nat} (hi : i < 5) : ln (55 + 3 * i) = 24 := by
  rcases (show i = 0 ∨ i = 1 ∨ i = 2 ∨ i = 3 ∨ i = 4 by omega) with rfl | rfl | rfl | rfl | rfl
  · exact ln55 h
  · exact ln58 h
  · exact ln61 h
  · exact ln64 h
  · exact ln67 h
theorem rw_o {S : HC} (h : SH S) {i : Nat} (hi : i < 4) : hR S 41 i = some (45 + 2 * i) ∧ hR S (45 + 2 * i) 2 = some (46 + 2 * i) := by
  rcases (show i = 0 ∨ i = 1 ∨ i = 2 ∨ i = 3 by omega) with rfl | rfl | rfl | rfl
  · exact ⟨sh41_0 h, sh45_2 h⟩
  · exact ⟨sh41_1 h, sh47_2 h⟩
  · exact ⟨sh41_2 h, sh49_2 h⟩
  · exact ⟨sh41_3 h, sh51_2 h⟩
theorem rw_n {ln : Nat → Nat} (h : LN ln) {i : Nat} (hi : i < 4) : ln (46 + 2 * i) = 24 := by
  rcases (show i = 0 ∨ i = 1 ∨ i = 2 ∨ i = 3 by omega) with rfl | rfl | rfl | rfl
  · exact ln46 h
  · exact ln48 h
  · exact ln50 h
  · exact ln52 h
theorem s_set {N : Nat} {ln : Nat → Nat} {S : HC} (h : PI N ln S) (a1 a2 a3 : Int32) : wpX7_set ln S 0 a1 a2 a3 fun v S => wpX8_set ln S 68 a1 a2 a3 fun w S => OK N ln v w S := by
  obtain ⟨⟨hs, hl, -, -⟩, ⟨⟨n, hn⟩, hw⟩, -⟩ := id h
  have h14 := hn.1
  unfold wpX7_set BX7_set_50 BX7_set_90 BX7_set_94
  simp only [sh0_0 hs, sh1_4 hs, sh1_5 hs, dn_e, p_has, p_isCharge]
  rcases i_in a1 n (by omega) with ⟨j, hj, rfl⟩ | hx
  · rw [hasT hn.2.1 hn.1 hj, if_neg (by decide)]
    have no : ¬ ((a2 = 4 ∧ 0 ≤ a3 ∧ a3 < 8) ∨ (a2 = 5 ∧ 0 ≤ a3 ∧ a3 ≤ 255)) → wpX8_set ln S 68 (nI j) a2 a3 fun w S => OK N ln (-1000000001) w S := fun q => by
      unfold wpX8_set BX8_set_32 BX8_set_54
      simp only [p_isOne hs hl, p_in]
      rw [oneT hn.2.2.1 h14 hj, if_neg (by decide)]
      by_cases e : 4 ≤ a2 ∧ a2 ≤ 5
      · rw [bI_t e, if_neg (by decide)]
        by_cases e4 : a2 = 4
        · rw [if_pos e4, bI_f (fun u => q (Or.inl ⟨e4, u.1, Int32.lt_of_le_of_lt u.2 (by decide)⟩)), if_pos rfl]
          exact ⟨rfl, h⟩
        · have e5 : a2 = 5 := by
            simp only [i_le, i_eq] at e e4 ⊢
            have : (4 : Int32).toInt = 4 := rfl
            have : (5 : Int32).toInt = 5 := rfl
            omega
          rw [if_neg e4, bI_f (fun u => q (Or.inr ⟨e5, u.1, u.2⟩)), if_pos rfl]
          exact ⟨rfl, h⟩
      · rw [bI_f e, if_pos rfl]
        exact ⟨rfl, h⟩
    by_cases e4 : a2 = 4
    · subst e4
      rw [if_pos rfl]
      by_cases c : 0 ≤ a3 ∧ a3 < 8
      · rw [bI_t c, if_neg (by decide), ln6 hl, al_e (by omega) (by decide), as_e (by omega) (by decide)]
        unfold wpX8_set BX8_set_32 BX8_set_54
        simp only [p_isOne (hs.sI 6 j a3) hl, p_in, lt_e]
        rw [oneT (n := n) (by rw [hI_row (by decide)]; exact hn.2.2.1) h14 hj, if_neg (by decide), bI_t (by decide), if_neg (by decide), if_pos trivial, bI_t ⟨c.1, by have := c.2; simp only [i_le, i_lt] at *; have : (8 : Int32).toInt = 8 := rfl; have : (7 : Int32).toInt = 7 := rfl; omega⟩, if_neg (by decide), show (6 : Int32) * nI j = nI (6 * j) from pk_mul 6 j, show (5 : Int32) + nI (6 * j) = nI (5 + 6 * j) from nI_add 5 (6 * j), show nI (5 + 6 * j) + (4 : Int32) = nI (5 + 6 * j + 4) from nI_add _ 4, p_becomes (hs.sI _ _ _) hl (by omega)]
        obtain ⟨d, hd, rfl⟩ := ge_of (n := 8) (by decide) c
        refine ⟨?_, h.pers (k := 4) hn (by decide) hj ⟨by omega, by omega, by omega, fun _ => ⟨d, hd, rfl⟩, by omega⟩⟩
        rw [hI_row (by decide)]
        exact hn.2.2.2.1 4 (by decide) j hj
      · rw [bI_f c, if_pos rfl, if_neg (by decide)]
        exact no (fun q => by
          rcases q with q | q
          · exact c q.2
          · exact absurd q.1 (by decide))
    · rw [if_neg e4]
      by_cases e5 : a2 = 5
      · subst e5
        rw [if_pos rfl]
        by_cases c1 : a3 < 0
        · rw [if_pos c1]
          exact no (fun q => by
            rcases q with q | q
            · exact e4 q.1
            · exact absurd c1 (Int32.not_lt.mpr q.2.1))
        rw [if_neg c1]
        by_cases c2 : 255 < a3
        · rw [if_pos c2]
          exact no (fun q => by
            rcases q with q | q
            · exact e4 q.1
            · exact absurd c2 (Int32.not_lt.mpr q.2.2))
        rw [if_neg c2, ln7 hl, al_e (by omega) (by decide), as_e (by omega) (by decide)]
        unfold wpX8_set BX8_set_32 BX8_set_54
        simp only [p_isOne (hs.sI 7 j a3) hl, p_in, lt_e]
        rw [oneT (n := n) (by rw [hI_row (by decide)]; exact hn.2.2.1) h14 hj, if_neg (by decide), bI_t (by decide), if_neg (by decide), if_neg (by decide), bI_t ⟨Int32.not_lt.mp c1, Int32.not_lt.mp c2⟩, if_neg (by decide), show (6 : Int32) * nI j = nI (6 * j) from pk_mul 6 j, show (5 : Int32) + nI (6 * j) = nI (5 + 6 * j) from nI_add 5 (6 * j), show nI (5 + 6 * j) + (5 : Int32) = nI (5 + 6 * j + 5) from nI_add _ 5, p_becomes (hs.sI _ _ _) hl (by omega)]
        obtain ⟨d, hd, rfl⟩ := nI_of2 (n := 255) (M := 255) (x := a3) rfl c1 (Int32.not_lt.mp c2)
        refine ⟨?_, h.pers (k := 5) hn (by decide) hj ⟨by omega, by omega, by omega, by omega, fun _ => ⟨d, by omega, rfl⟩⟩⟩
        rw [hI_row (by decide)]
        exact hn.2.2.2.1 5 (by decide) j hj
      · rw [if_neg e5]
        exact no (fun q => by
          rcases q with q | q
          · exact e4 q.1
          · exact e5 q.1)
  · rw [hasF hn.2.1 hx, if_pos rfl]
    unfold wpX8_set BX8_set_54
    simp only [p_isOne hs hl]
    rw [oneF hn.2.2.1 h14 hx, if_pos rfl]
    exact ⟨rfl, h⟩
theorem s_as {N : Nat} {ln : Nat → Nat} {S : HC} (h : PI N ln S) (a1 a2 : Int32) : wpX7_as ln S 0 a1 a2 fun v S => wpX8_as ln S 68 a1 a2 fun w S => OK N ln v w S := by
  obtain ⟨⟨hs, hl, -, -⟩, ⟨⟨n, hn⟩, hw⟩, -⟩ := id h
  have h14 := hn.1
  unfold wpX7_as BX7_as_18
  simp only [sh0_0 hs, sh1_0 hs, dn_e, p_has, p_isKind]
  rcases i_in a1 n (by omega) with ⟨j, hj, rfl⟩ | hx
  · rw [hasT hn.2.1 h14 hj, if_neg (by decide)]
    by_cases c : 0 ≤ a2 ∧ a2 < 6
    · rw [bI_t c, if_neg (by decide), ln2 hl, al_e (by omega) (by decide)]
      obtain ⟨d, hd, e⟩ := hn.2.2.2.2.1.kind hj
      have ex : hI S 2 j = nI d := (hn.2.2.2.1 0 (by decide) j hj).trans e
      rw [ex]
      refine p_isOfKind hd (fun u => ?_) (fun u => ?_)
      · rw [if_neg (by decide), sh0_0 hs, dn_e, sh1_4 hs, dn_e, ln6 hl, al_e (by omega) (by decide)]
        unfold wpX8_as BX8_as_17
        simp only [p_isOne hs hl, p_in, kiE]
        rw [oneT hn.2.2.1 h14 hj, if_neg (by decide), bI_t c, if_neg (by decide), p_of0 hs hl (by omega), e]
        refine p_isUnder (fun _ => ?_) (fun q => absurd u q)
        rw [if_neg (by decide), p_of4 hs hl (by omega)]
        exact ⟨hn.2.2.2.1 4 (by decide) j hj, h⟩
      · rw [if_pos rfl]
        unfold wpX8_as BX8_as_17
        simp only [p_isOne hs hl, p_in, kiE]
        rw [oneT hn.2.2.1 h14 hj, if_neg (by decide), bI_t c, if_neg (by decide), p_of0 hs hl (by omega), e]
        refine p_isUnder (fun q => absurd q u) (fun _ => ?_)
        rw [if_pos rfl]
        exact ⟨rfl, h⟩
    · rw [bI_f c, if_pos rfl]
      unfold wpX8_as BX8_as_17
      simp only [p_isOne hs hl, p_in, kiE]
      rw [oneT hn.2.2.1 h14 hj, if_neg (by decide), bI_f c, if_pos rfl]
      exact ⟨rfl, h⟩
  · rw [hasF hn.2.1 hx, if_pos rfl]
    unfold wpX8_as BX8_as_17
    simp only [p_isOne hs hl, p_in, kiE]
    rw [oneF hn.2.2.1 h14 hx, if_pos rfl]
    exact ⟨rfl, h⟩
/-- an heiress -/
abbrev herP (n : Nat) (f : Nat → Nat → Int32) (j : Nat) : Prop := f 3 j = 1 ∧ (f 1 j = -1 ∨ ∀ i, i < n → ¬ (f 3 i = 0 ∧ f 1 i = f 1 j))
theorem p_isHeir {ln : Nat → Nat} {S : HC} {b n j : Nat} {f : Nat → Nat → Int32} {post : Int32 → HC → Prop} (hs : SH S) (hl : LN ln) (hb : LB b) (hn : hI S b 6 = nI n) (hf : AG n (xf S b) f) (h14 : n ≤ 14) (hj : j < n) (h : herP n f j → post 1 S) (h2 : ¬ herP n f j → post 0 S) : wpX0_isHeiress ln S b (nI j) post := by
  have ef : ∀ k i, k < 6 → i < n → hI S (b + 1 + k) i = f k i := fun k i q1 q2 => hf k q1 i q2
  unfold wpX0_isHeiress BX0_isHeiress_18
  rw [p_has, hasT hn h14 hj, if_neg (by decide), lb_r hs hb (i := 3) (by decide), dn_e, lb_n hl hb (i := 3) (by decide), al_e (by omega) (by decide), ef 3 j (by decide) hj, lb_r hs hb (i := 1) (by decide), dn_e, lb_n hl hb (i := 1) (by decide), al_e (by omega) (by decide), ef 1 j (by decide) hj, rb_e1, rb_e0]
  by_cases e1 : f 3 j = 1
  · rw [if_pos e1]
    by_cases e2 : f 1 j = -1
    · rw [if_pos e2]; exact h ⟨e1, Or.inl e2⟩
    · rw [if_neg e2]
      refine ⟨n + 1, ?_⟩
      have key : ∀ m i, i + m = n → (∀ k, k < i → ¬ (f 3 k = 0 ∧ f 1 k = f 1 j)) → LX0_isHeiress_34 ln post (m + 1) S b (nI j) (nI i) := by
        intro m
        induction m with
        | zero =>
          intro i hi ha
          rw [LX0_isHeiress_34]
          dsimp only
          rw [lt_e, hn, if_pos (nI_le (by omega) (by omega)), rb_e1]
          exact h ⟨e1, Or.inr (fun k hk => ha k (by omega))⟩
        | succ m ih =>
          intro i hi ha
          rw [LX0_isHeiress_34]
          dsimp only
          unfold BX0_isHeiress_68
          rw [lt_e, hn, if_neg (nI_ge (by omega) (by omega)), lb_r hs hb (i := 3) (by decide), dn_e, lb_n hl hb (i := 3) (by decide), al_e (by omega) (by decide), ef 3 i (by decide) (by omega), lb_r hs hb (i := 1) (by decide)]
          simp only [dn_e, lb_n hl hb (i := 1) (by decide), al_e (i := i) (n := 14) (by omega) (by decide), al_e (i := j) (n := 14) (by omega) (by decide), ef 1 i (by decide) (by omega), ef 1 j (by decide) hj, lt_e, rb_e0]
          rw [show nI i + 1 = nI (i + 1) from nI_1 i]
          by_cases c1 : f 3 i = 0
          · rw [if_pos c1]
            by_cases c2 : f 1 i = f 1 j
            · rw [if_pos c2]
              refine h2 (fun q => ?_)
              rcases q.2 with q | q
              · exact e2 q
              · exact q i (by omega) ⟨c1, c2⟩
            · rw [if_neg c2]
              refine ih (i + 1) (by omega) (fun k hk => ?_)
              rcases (show k < i ∨ k = i by omega) with q | rfl
              · exact ha k q
              · exact fun u => c2 u.2
          · rw [if_neg c1]
            refine ih (i + 1) (by omega) (fun k hk => ?_)
            rcases (show k < i ∨ k = i by omega) with q | rfl
            · exact ha k q
            · exact fun u => c1 u.1
      exact key n 0 (by omega) (fun k hk => absurd hk (by omega))
  · rw [if_neg e1]; exact h2 (fun q => e1 q.1)
theorem p_mHeir {ln : Nat → Nat} {S : HC} {n j : Nat} {f : Nat → Nat → Int32} {post : Int32 → HC → Prop} (hs : SH S) (hl : LN ln) (hn : hI S 69 1 = nI n) (hf : AG n (mf S 69) f) (hv : VP n f) (h14 : n ≤ 14) (hj : j < n) (h : herP n f j → post 1 S) (h2 : ¬ herP n f j → post 0 S) : wpX8_isHeiress ln S 68 (nI j) post := by
  have ef : ∀ k i, k < 6 → i < n → mf S 69 k i = f k i := fun k i q1 q2 => hf k q1 i q2
  unfold wpX8_isHeiress BX8_isHeiress_15
  rw [p_of3 hs hl (by omega), ef 3 j (by decide) hj]
  have key0 : ∀ m i, i + m = n → post 0 S → LX8_isHeiress_18 ln post (m + 1) S 68 (nI j) 0 (nI i) := by
    intro m
    induction m with
    | zero =>
      intro i hi hp
      rw [LX8_isHeiress_18]
      dsimp only
      rw [sh68_0 hs, dn_e, ln69 hl, al_l1 (by decide) (by decide), hn, if_pos (nI_le (by omega) (by omega)), rb_e0]
      exact hp
    | succ m ih =>
      intro i hi hp
      rw [LX8_isHeiress_18]
      dsimp only
      unfold BX8_isHeiress_69 BX8_isHeiress_70
      rw [sh68_0 hs, dn_e, ln69 hl, al_l1 (by decide) (by decide), hn, if_neg (nI_ge (by omega) (by omega)), if_pos rfl, lt_e, nI_1]
      exact ih (i + 1) (by omega) hp
  by_cases e1 : f 3 j = 1
  · rw [if_pos e1]
    refine ⟨n + 1, ?_⟩
    have key : ∀ m i, i + m = n → (f 1 j = -1 ∨ ∀ k, k < i → ¬ (f 3 k = 0 ∧ f 1 k = f 1 j)) → LX8_isHeiress_18 ln post (m + 1) S 68 (nI j) 1 (nI i) := by
      intro m
      induction m with
      | zero =>
        intro i hi ha
        rw [LX8_isHeiress_18]
        dsimp only
        rw [sh68_0 hs, dn_e, ln69 hl, al_l1 (by decide) (by decide), hn, if_pos (nI_le (by omega) (by omega)), rb_e1]
        exact h ⟨e1, ha.imp id (fun u k hk => u k (by omega))⟩
      | succ m ih =>
        intro i hi ha
        rw [LX8_isHeiress_18]
        dsimp only
        unfold BX8_isHeiress_69 BX8_isHeiress_65 BX8_isHeiress_70
        rw [sh68_0 hs, dn_e, ln69 hl, al_l1 (by decide) (by decide), hn, if_neg (nI_ge (by omega) (by omega)), if_neg (by decide)]
        simp only [p_of3 hs hl (show i < 200 by omega), p_of1 hs hl (show j < 200 by omega), p_of1 hs hl (show i < 200 by omega), lt_e, ef 3 i (by decide) (by omega), ef 1 i (by decide) (by omega), ef 1 j (by decide) hj]
        rw [show nI i + 1 = nI (i + 1) from nI_1 i]
        by_cases c1 : f 3 i = 0
        · rw [if_pos c1]
          by_cases c0 : f 1 j < 0
          · rw [if_pos c0]
            refine ih (i + 1) (by omega) (Or.inl ?_)
            rcases hv.fat hj with q | ⟨p, hp, q⟩
            · exact q
            · rw [q] at c0; exact absurd c0 (nI_pos (by omega))
          rw [if_neg c0]
          by_cases c2 : f 1 i = f 1 j
          · rw [if_pos c2]
            refine key0 m (i + 1) (by omega) (h2 (fun q => ?_))
            rcases q.2 with q | q
            · rw [q] at c0; exact c0 (by decide)
            · exact q i (by omega) ⟨c1, c2⟩
          · rw [if_neg c2]
            refine ih (i + 1) (by omega) (ha.imp id (fun u k hk => ?_))
            rcases (show k < i ∨ k = i by omega) with q | rfl
            · exact u k q
            · exact fun u => c2 u.2
        · rw [if_neg c1]
          refine ih (i + 1) (by omega) (ha.imp id (fun u k hk => ?_))
          rcases (show k < i ∨ k = i by omega) with q | rfl
          · exact u k q
          · exact fun u => c1 u.1
    exact key n 0 (by omega) (Or.inr (fun k hk => absurd hk (by omega)))
  · rw [if_neg e1]
    exact ⟨n + 1, key0 n 0 (by omega) (h2 (fun q => e1 q.1))⟩
theorem s_told {N : Nat} {ln : Nat → Nat} {S : HC} (h : PI N ln S) (a1 a2 : Int32) : wpX7_told ln S 0 a1 a2 fun v S => wpX8_told ln S 68 a1 a2 fun w S => OK N ln v w S := by
  obtain ⟨⟨hs, hl, -, -⟩, ⟨⟨n, hn⟩, hw⟩, -⟩ := id h
  have h14 := hn.1
  unfold wpX7_told
  simp only [sh0_0 hs, dn_e, p_has]
  rcases i_in a1 n (by omega) with ⟨j, hj, rfl⟩ | hx
  · rw [hasT hn.2.1 h14 hj, if_neg (by decide)]
    have ea : ∀ k, k < 6 → hI S (1 + 1 + k) j = mf S 69 k j := fun k q => hn.2.2.2.1 k q j hj
    have m6 : ∀ k v, k < 6 → v = mf S 69 k j → wpX8_told ln S 68 (nI j) (nI k) fun w S => OK N ln v w S := fun k v hk hv => by
      unfold wpX8_told BX8_told_18
      simp only [p_isOne hs hl, p_in]
      rw [oneT hn.2.2.1 h14 hj, if_neg (by decide), bI_t ⟨nI_pos' (by omega), show nI k ≤ 7 from nI_le (b := 7) (by omega) (by decide)⟩, if_neg (by decide), if_neg (show ¬ (6 : Int32) ≤ nI k from nI_ge (b := 6) hk (by decide)), p_of hs hl (by omega) hk]
      exact ⟨hv, h⟩
    rcases i_in a2 8 (by decide) with ⟨k, hk, rfl⟩ | hx
    · rcases (show k = 0 ∨ k = 1 ∨ k = 2 ∨ k = 3 ∨ k = 4 ∨ k = 5 ∨ k = 6 ∨ k = 7 by omega) with rfl | rfl | rfl | rfl | rfl | rfl | rfl | rfl
      · rw [if_pos (by decide), sh1_0 hs, dn_e, ln2 hl, al_e (by omega) (by decide)]
        exact m6 0 _ (by decide) (ea 0 (by decide))
      · rw [if_neg (by decide), if_pos (by decide), sh1_1 hs, dn_e, ln3 hl, al_e (by omega) (by decide)]
        exact m6 1 _ (by decide) (ea 1 (by decide))
      · rw [if_neg (by decide), if_neg (by decide), if_pos (by decide), sh1_2 hs, dn_e, ln4 hl, al_e (by omega) (by decide)]
        exact m6 2 _ (by decide) (ea 2 (by decide))
      · rw [if_neg (by decide), if_neg (by decide), if_neg (by decide), if_pos (by decide), sh1_3 hs, dn_e, ln5 hl, al_e (by omega) (by decide)]
        exact m6 3 _ (by decide) (ea 3 (by decide))
      · rw [if_neg (by decide), if_neg (by decide), if_neg (by decide), if_neg (by decide), if_pos (by decide), sh1_4 hs, dn_e, ln6 hl, al_e (by omega) (by decide)]
        exact m6 4 _ (by decide) (ea 4 (by decide))
      · rw [if_neg (by decide), if_neg (by decide), if_neg (by decide), if_neg (by decide), if_neg (by decide), if_pos (by decide), sh1_5 hs, dn_e, ln7 hl, al_e (by omega) (by decide)]
        exact m6 5 _ (by decide) (ea 5 (by decide))
      · rw [if_neg (by decide), if_neg (by decide), if_neg (by decide), if_neg (by decide), if_neg (by decide), if_neg (by decide), if_pos (by decide)]
        refine p_isHeir hs hl (Or.inl rfl) hn.2.1 hn.2.2.2.1 h14 hj (fun u => ?_) (fun u => ?_)
        · rw [if_neg (by decide)]
          unfold wpX8_told BX8_told_18
          simp only [p_isOne hs hl, p_in]
          rw [oneT hn.2.2.1 h14 hj, if_neg (by decide), bI_t (by decide), if_neg (by decide), if_pos (by decide), if_neg (by decide)]
          refine p_mHeir hs hl hn.2.2.1 (fun _ _ _ _ => rfl) hn.2.2.2.2.1 h14 hj (fun _ => ?_) (fun q => absurd u q)
          rw [if_neg (by decide)]
          exact ⟨rfl, h⟩
        · rw [if_pos rfl]
          unfold wpX8_told BX8_told_18
          simp only [p_isOne hs hl, p_in]
          rw [oneT hn.2.2.1 h14 hj, if_neg (by decide), bI_t (by decide), if_neg (by decide), if_pos (by decide), if_neg (by decide)]
          refine p_mHeir hs hl hn.2.2.1 (fun _ _ _ _ => rfl) hn.2.2.2.2.1 h14 hj (fun q => absurd q u) (fun _ => ?_)
          rw [if_pos rfl]
          exact ⟨rfl, h⟩
      · rw [if_neg (by decide), if_neg (by decide), if_neg (by decide), if_neg (by decide), if_neg (by decide), if_neg (by decide), if_neg (by decide), if_pos (by decide), sh1_0 hs, dn_e, ln2 hl, al_e (by omega) (by decide), sh1_4 hs, dn_e, ln6 hl, al_e (by omega) (by decide), p_worth]
        unfold wpX8_told BX8_told_18
        simp only [p_isOne hs hl, p_in]
        rw [oneT hn.2.2.1 h14 hj, if_neg (by decide), bI_t (by decide), if_neg (by decide), if_pos (by decide), if_pos (by decide), p_mworth hs hl (by omega)]
        exact ⟨by rw [show hI S 2 j = mf S 69 0 j from ea 0 (by decide), show hI S 6 j = mf S 69 4 j from ea 4 (by decide)], h⟩
    · have ne : ∀ k, k < 8 → ¬ a2 = nI k := fun k hk q => by
        rw [q] at hx
        rcases hx with hx | hx
        · exact absurd hx (nI_pos (by omega))
        · exact absurd hx (nI_ge hk (by decide))
      rw [if_neg (show ¬ a2 = 0 from ne 0 (by decide)), if_neg (show ¬ a2 = 1 from ne 1 (by decide)), if_neg (show ¬ a2 = 2 from ne 2 (by decide)), if_neg (show ¬ a2 = 3 from ne 3 (by decide)), if_neg (show ¬ a2 = 4 from ne 4 (by decide)), if_neg (show ¬ a2 = 5 from ne 5 (by decide)), if_neg (show ¬ a2 = 6 from ne 6 (by decide)), if_neg (show ¬ a2 = 7 from ne 7 (by decide))]
      unfold wpX8_told BX8_told_18
      simp only [p_isOne hs hl, p_in]
      rw [oneT hn.2.2.1 h14 hj, if_neg (by decide), chE, bI_f (fun q => by
        rcases hx with hx | hx
        · exact absurd hx (Int32.not_lt.mpr q.1)
        · exact absurd hx (Int32.not_le.mpr q.2)), if_pos rfl]
      exact ⟨rfl, h⟩
  · rw [hasF hn.2.1 hx, if_pos rfl]
    unfold wpX8_told BX8_told_18
    simp only [p_isOne hs hl]
    rw [oneF hn.2.2.1 h14 hx, if_pos rfl]
    exact ⟨rfl, h⟩
-- 33.pslots.lean.txt
/-! steps: what lies in a slot; what is counted -/
theorem rem_m1 (x : Int32) : x - x / (-1) * (-1) = 0 := by
  apply i_eq.mpr
  rw [Int32.toInt_sub, Int32.toInt_mul, Int32.toInt_div]
  have e : (-1 : Int32).toInt = -1 := by decide
  have e0 : (0 : Int32).toInt = 0 := by decide
  rw [e, e0, Int.tdiv_neg, Int.tdiv_one, Int.bmod_mul_bmod, Int.sub_bmod_bmod]
  have : x.toInt - -x.toInt * -1 = 0 := by omega
  rw [this]
  rfl
theorem s_rest {N : Nat} {ln : Nat → Nat} {S : HC} (h : PI N ln S) (a1 a2 : Int32) : wpX7_rest ln S 0 a1 a2 fun v S => wpX8_rest ln S 68 a1 a2 fun w S => OK N ln v w S := by
  obtain ⟨⟨hs, hl, -, -⟩, -, -, -, -, hsl, -⟩ := id h
  unfold wpX7_rest
  rw [p_isSlot]
  by_cases c : 0 ≤ a1 ∧ a1 < 5
  · obtain ⟨i, hi, rfl⟩ := ge_of (n := 5) (by decide) c
    obtain ⟨q1, q2⟩ := hsl i hi
    rw [bI_t c, if_neg (by decide), sh0_7 hs, dn_e, ln42 hl, al_e hi (by decide), (sl_o hs hi).1, dn_e]
    simp only [lt_e, q1]
    have m0 : ∀ v, (hI S 85 i = 0 → v = -1000000011) → (hI S 85 i ≠ 0 → hI S 85 i ≠ 3 → v = -1000000012) → (hI S 85 i = 3 → a2 = 0 → v = -1000000002) → (hI S 85 i = 3 → a2 ≠ 0 → v = hI S 86 i - hI S 86 i / a2 * a2) → wpX8_rest ln S 68 (nI i) a2 fun w S => OK N ln v w S := fun v v0 v1 v2 v3 => by
      unfold wpX8_rest
      simp only [p_mSlot, slE, bI_t c, sh68_27 hs, sh68_28 hs, dn_e, ln85 hl, ln86 hl, lt_e]
      rw [if_neg (by decide), al_e hi (by decide), al_e hi (by decide), al_e hi (by decide)]
      by_cases d0 : hI S 85 i = 0
      · rw [if_pos d0]; exact ⟨v0 d0, h⟩
      rw [if_neg d0]
      by_cases d3 : hI S 85 i = 3
      · rw [if_pos d3]
        by_cases z0 : a2 = 0
        · rw [if_pos z0]; exact ⟨v2 d3 z0, h⟩
        rw [if_neg z0]
        by_cases z1 : a2 = -1
        · rw [if_pos z1]
          refine ⟨?_, h⟩
          rw [v3 d3 z0, z1, rem_m1]
        · rw [if_neg z1, ne_e z0]
          exact ⟨v3 d3 z0, h⟩
      · rw [if_neg d3]; exact ⟨v1 d0 d3, h⟩
    by_cases d0 : hI S 85 i = 0
    · rw [if_pos d0]
      exact m0 _ (fun _ => rfl) (fun q => absurd d0 q) (fun q => absurd (d0.symm.trans q) (by decide)) (fun q => absurd (d0.symm.trans q) (by decide))
    rw [if_neg d0]
    by_cases d3 : hI S 85 i = 3
    · rw [if_pos d3]
      have e3 : hI S (53 + 3 * i) 3 = hI S 86 i := by
        rcases q2 with u | u | u | u
        · exact absurd u d0
        · exact absurd (d3.symm.trans u.1) (by decide)
        · exact absurd (d3.symm.trans u.1) (by decide)
        · exact u.2
      by_cases z0 : a2 = 0
      · rw [if_pos z0]
        exact m0 _ (fun q => absurd q d0) (fun _ q => absurd d3 q) (fun _ _ => rfl) (fun _ q => absurd z0 q)
      · rw [if_neg z0, ne_e z0, e3]
        exact m0 _ (fun q => absurd q d0) (fun _ q => absurd d3 q) (fun _ q => absurd q z0) (fun _ _ => rfl)
    · rw [if_neg d3]
      exact m0 _ (fun q => absurd q d0) (fun _ _ => rfl) (fun q => absurd q d3) (fun q => absurd q d3)
  · rw [bI_f c, if_pos rfl]
    unfold wpX8_rest
    dsimp only
    rw [p_mSlot, slE, bI_f c, if_pos rfl]
    exact ⟨rfl, h⟩
theorem s_ask {N : Nat} {ln : Nat → Nat} {S : HC} (h : PI N ln S) (a1 a2 : Int32) : wpX7_ask ln S 0 a1 a2 fun v S => wpX8_ask ln S 68 a1 a2 fun w S => OK N ln v w S := by
  obtain ⟨⟨hs, hl, -, -⟩, -, -, -, -, hsl, -⟩ := id h
  unfold wpX7_ask BX7_ask_14 BX7_ask_53
  rw [p_isSlot]
  by_cases c : 0 ≤ a1 ∧ a1 < 5
  · obtain ⟨i, hi, rfl⟩ := ge_of (n := 5) (by decide) c
    obtain ⟨q1, q2⟩ := hsl i hi
    rw [bI_t c, if_neg (by decide), p_isKind]
    by_cases k : 0 ≤ a2 ∧ a2 < 6
    · rw [bI_t k, if_neg (by decide), sh0_7 hs, dn_e, ln42 hl, al_e hi (by decide), (sl_o hs hi).1, dn_e]
      simp only [lt_e, q1]
      have m0 : ∀ v, (hI S 85 i = 0 → v = -1000000011) → (hI S 85 i ≠ 0 → ¬ (hI S 85 i = 1 ∧ isU (hI S 86 i) a2) → v = -1000000012) → (hI S 85 i = 1 → isU (hI S 86 i) a2 → v = hI S 87 i) → wpX8_ask ln S 68 (nI i) a2 fun w S => OK N ln v w S := fun v v0 v1 v2 => by
        unfold wpX8_ask BX8_ask_16 BX8_ask_63
        simp only [p_mSlot, slE, bI_t c, p_in, kiE, bI_t k, sh68_27 hs, sh68_28 hs, dn_e, ln85 hl, ln86 hl, lt_e]
        rw [if_neg (by decide), if_neg (by decide), al_e hi (by decide), al_e hi (by decide), al_e hi (by decide)]
        by_cases d0 : hI S 85 i = 0
        · rw [if_pos d0]; exact ⟨v0 d0, h⟩
        rw [if_neg d0]
        by_cases d1 : hI S 85 i = 1
        · rw [if_pos d1]
          refine p_isUnder (fun u => ?_) (fun u => ?_)
          · rw [if_neg (by decide), sh68_29 hs, dn_e, ln87 hl, al_e hi (by decide)]
            exact ⟨v2 d1 u, h⟩
          · rw [if_pos rfl]; exact ⟨v1 d0 (fun q => u q.2), h⟩
        · rw [if_neg d1]; exact ⟨v1 d0 (fun q => d1 q.1), h⟩
      by_cases d0 : hI S 85 i = 0
      · rw [if_pos d0]
        exact m0 _ (fun _ => rfl) (fun q => absurd d0 q) (fun q => absurd (d0.symm.trans q) (by decide))
      rw [if_neg d0]
      by_cases d1 : hI S 85 i = 1
      · rw [if_pos d1]
        obtain ⟨e1, ⟨t, ht, e2⟩, e3⟩ : hI S (53 + 3 * i) 1 = hI S 86 i ∧ (∃ c, c < 6 ∧ hI S 86 i = nI c) ∧ hI S 87 i = wrth (hI S 86 i) (hI S (53 + 3 * i) 2) := by
          rcases q2 with u | u | u | u
          · exact absurd u d0
          · exact u.2
          · exact absurd (d1.symm.trans u.1) (by decide)
          · exact absurd (d1.symm.trans u.1) (by decide)
        rw [e1, e2]
        rw [e2] at e3 m0
        refine p_isOfKind ht (fun u => ?_) (fun u => ?_)
        · rw [if_neg (by decide), e1, e2, p_worth, ← e3]
          exact m0 _ (fun q => absurd q d0) (fun _ q => absurd ⟨d1, u⟩ q) (fun _ _ => rfl)
        · rw [if_pos rfl]
          exact m0 _ (fun q => absurd q d0) (fun _ _ => rfl) (fun _ q => absurd q u)
      · rw [if_neg d1]
        exact m0 _ (fun q => absurd q d0) (fun _ _ => rfl) (fun q => absurd q d1)
    · rw [bI_f k, if_pos rfl]
      unfold wpX8_ask BX8_ask_16
      simp only [p_mSlot, slE, bI_t c, p_in, kiE, bI_f k, if_true]
      rw [if_neg (by decide)]
      exact ⟨rfl, h⟩
  · rw [bI_f c, if_pos rfl]
    unfold wpX8_ask BX8_ask_16
    dsimp only
    rw [p_mSlot, slE, bI_f c, if_pos rfl]
    exact ⟨rfl, h⟩
/-- a row: has a place, is a number there -/
theorem p_hasPlace {ln : Nat → Nat} {S : HC} {r l : Nat} {x : Int32} {post : Int32 → HC → Prop} (hl : hI S r 1 = nI l) (h24 : l ≤ 24) : wpX3_hasPlace ln S r x post = post (bI (0 ≤ x ∧ x < nI l)) S := by
  unfold wpX3_hasPlace BX3_hasPlace_22
  rw [rb_e0, rb_e1, lt_e, hl]
  by_cases h1 : x < 0
  · rw [if_pos h1, bI_f (fun q => absurd h1 (Int32.not_lt.mpr q.1))]
  rw [if_neg h1]
  by_cases h2 : nI l ≤ x
  · rw [if_pos h2, bI_f (fun q => absurd h2 (Int32.not_le.mpr q.2))]
  rw [if_neg h2, if_neg, bI_t ⟨Int32.not_lt.mp h1, Int32.not_le.mp h2⟩]
  intro q
  have h3 : nI l ≤ 24 := nI_le (b := 24) h24 (by decide)
  exact h2 (Int32.le_trans h3 q)
theorem p_isNumber {ln : Nat → Nat} {S : HC} {r q l j : Nat} {post : Int32 → HC → Prop} (hl : hI S r 1 = nI l) (h24 : l ≤ 24) (hr : hR S r 2 = some q) (hq : ln q = 24) (hj : j < 24) : wpX3_isNumber ln S r (nI j) post = post (bI (j < l ∧ ¬ hI S q j = -1000000005)) S := by
  unfold wpX3_isNumber BX3_isNumber_23
  rw [p_hasPlace hl h24]
  by_cases h1 : j < l
  · rw [bI_t ⟨nI_pos' (by omega), nI_lt h1 (by omega)⟩, if_neg (by decide), hr, dn_e, hq, al_e hj (by decide), rb_e0, rb_e1]
    by_cases h2 : hI S q j = -1000000005
    · rw [if_pos h2, bI_f (fun u => u.2 h2)]
    · rw [if_neg h2, bI_t ⟨h1, h2⟩]
  · rw [bI_f (fun u => absurd u.2 (nI_nlt (by omega) (by omega))), if_pos rfl, rb_e0, bI_f (fun u => h1 u.1)]
/-- a place of the reference's rows: below the length -/
theorem plE {x : Int32} {l : Nat} (h : l ≤ 24) : bI (0 ≤ x ∧ x ≤ nI l - 1) = bI (0 ≤ x ∧ x < nI l) := rngE (n := l) (by
  have e : (nI l - 1).toInt = (l : Int) - 1 := pk_sub_toInt (a := l) (b := 1) (by omega) (by decide)
  omega) (nI l) (nI_toInt (by omega))
theorem s_item {N : Nat} {ln : Nat → Nat} {S : HC} (h : PI N ln S) (a1 a2 : Int32) : wpX7_item ln S 0 a1 a2 fun v S => wpX8_item ln S 68 a1 a2 fun w S => OK N ln v w S := by
  obtain ⟨⟨hs, hl, -, -⟩, -, -, -, -, hsl, -⟩ := id h
  unfold wpX7_item
  rw [p_isSlot]
  by_cases c : 0 ≤ a1 ∧ a1 < 5
  · obtain ⟨i, hi, rfl⟩ := ge_of (n := 5) (by decide) c
    obtain ⟨q1, q2⟩ := hsl i hi
    rw [bI_t c, if_neg (by decide), sh0_7 hs, dn_e, ln42 hl, al_e hi (by decide), (sl_o hs hi).1, dn_e]
    simp only [lt_e, q1, (sl_o hs hi).2.1, dn_e]
    have m0 : ∀ v, (hI S 85 i = 0 → v = -1000000011) → (hI S 85 i ≠ 0 → hI S 85 i ≠ 2 → v = -1000000012) → (hI S 85 i = 2 → ∀ l, l ≤ 24 → hI S 86 i = nI l → (¬ (0 ≤ a2 ∧ a2 < nI l) → v = -1000000013) ∧ ∀ j, j < l → a2 = nI j → v = if hI S 88 (24 * i + j) = -1000000005 then -1000000012 else hI S 88 (24 * i + j)) → wpX8_item ln S 68 (nI i) a2 fun w S => OK N ln v w S := fun v v0 v1 v2 => by
      unfold wpX8_item
      simp only [p_mSlot, slE, bI_t c, sh68_27 hs, sh68_28 hs, dn_e, ln85 hl, ln86 hl, lt_e, p_in]
      rw [if_neg (by decide), al_e hi (by decide), al_e hi (by decide), al_e hi (by decide)]
      by_cases d0 : hI S 85 i = 0
      · rw [if_pos d0]; exact ⟨v0 d0, h⟩
      rw [if_neg d0]
      by_cases d3 : hI S 85 i = 2
      · rw [if_pos d3]
        obtain ⟨⟨l, l1, l2, l3⟩, l4⟩ : (∃ l, l ≤ 24 ∧ hI S (54 + 3 * i) 1 = nI l ∧ hI S 86 i = nI l) ∧ ∀ j, j < 24 → hI S (55 + 3 * i) j = hI S 88 (24 * i + j) := by
          rcases q2 with u | u | u | u
          · exact absurd u d0
          · exact absurd (d3.symm.trans u.1) (by decide)
          · exact u.2
          · exact absurd (d3.symm.trans u.1) (by decide)
        obtain ⟨w1, w2⟩ := v2 d3 l l1 l3
        rw [l3, plE l1]
        by_cases e : 0 ≤ a2 ∧ a2 < nI l
        · obtain ⟨j, hj, rfl⟩ := ge_of (n := l) (by omega) e
          rw [bI_t e, if_neg (by decide), sh68_30 hs, dn_e, show (24 : Int32) * nI i = nI (24 * i) from pk_mul 24 i, nI_add, ln88 hl, al_e (by omega) (by decide)]
          have w3 := w2 j hj rfl
          by_cases e5 : hI S 88 (24 * i + j) = -1000000005
          · rw [if_pos e5] at w3 ⊢; exact ⟨w3, h⟩
          · rw [if_neg e5] at w3 ⊢; exact ⟨w3, h⟩
        · rw [bI_f e, if_pos rfl]; exact ⟨w1 e, h⟩
      · rw [if_neg d3]; exact ⟨v1 d0 d3, h⟩
    by_cases d0 : hI S 85 i = 0
    · rw [if_pos d0]
      exact m0 _ (fun _ => rfl) (fun q => absurd d0 q) (fun q => absurd (d0.symm.trans q) (by decide))
    rw [if_neg d0]
    by_cases d3 : hI S 85 i = 2
    · rw [if_pos d3]
      obtain ⟨⟨l, l1, l2, l3⟩, l4⟩ : (∃ l, l ≤ 24 ∧ hI S (54 + 3 * i) 1 = nI l ∧ hI S 86 i = nI l) ∧ ∀ j, j < 24 → hI S (55 + 3 * i) j = hI S 88 (24 * i + j) := by
        rcases q2 with u | u | u | u
        · exact absurd u d0
        · exact absurd (d3.symm.trans u.1) (by decide)
        · exact u.2
        · exact absurd (d3.symm.trans u.1) (by decide)
      have lu : ∀ l2, l2 ≤ 24 → hI S 86 i = nI l2 → l2 = l := fun l2 q u => (nI_eq (by omega) (by omega)).mp (u.symm.trans l3)
      rw [p_hasPlace l2 l1]
      by_cases e : 0 ≤ a2 ∧ a2 < nI l
      · obtain ⟨j, hj, rfl⟩ := ge_of (n := l) (by omega) e
        rw [bI_t e, if_neg (by decide), (sl_o hs hi).2.1, dn_e, p_isNumber l2 l1 (sl_o hs hi).2.2 (sl_n hl hi) (by omega), l4 j (by omega)]
        by_cases e5 : hI S 88 (24 * i + j) = -1000000005
        · rw [bI_f (fun u => u.2 e5), if_pos rfl]
          exact m0 _ (fun q => absurd q d0) (fun _ q => absurd d3 q) (fun _ l2 q u => ⟨fun u2 => absurd e (by rw [lu l2 q u] at u2; exact u2), fun j2 q2 u2 => by
            have ej := (nI_eq (by omega) (by omega)).mp u2
            subst ej
            rw [if_pos e5]⟩)
        · rw [bI_t ⟨hj, e5⟩, if_neg (by decide), (sl_o hs hi).2.1, dn_e, (sl_o hs hi).2.2, dn_e, sl_n hl hi, al_e (by omega) (by decide), l4 j (by omega)]
          exact m0 _ (fun q => absurd q d0) (fun _ q => absurd d3 q) (fun _ l2 q u => ⟨fun u2 => absurd e (by rw [lu l2 q u] at u2; exact u2), fun j2 q2 u2 => by
            have ej := (nI_eq (by omega) (by omega)).mp u2
            subst ej
            rw [if_neg e5]⟩)
      · rw [bI_f e, if_pos rfl]
        exact m0 _ (fun q => absurd q d0) (fun _ q => absurd d3 q) (fun _ l2 q u => ⟨fun _ => rfl, fun j q2 u2 => absurd (by rw [u2]; exact ⟨nI_pos' (by omega), nI_lt (by rw [← lu l2 q u]; exact q2) (by omega)⟩) e⟩)
    · rw [if_neg d3]
      exact m0 _ (fun q => absurd q d0) (fun _ _ => rfl) (fun q => absurd q d3)
  · rw [bI_f c, if_pos rfl]
    unfold wpX8_item
    dsimp only
    rw [p_mSlot, slE, bI_f c, if_pos rfl]
    exact ⟨rfl, h⟩
def fnd (g : Nat → Int32) : Nat → Nat
  | 0 => 0
  | n + 1 => fnd g n + (if g n = -1 then 1 else 0)
theorem fnd_le (g : Nat → Int32) : ∀ n, fnd g n ≤ n := by
  intro n
  induction n with
  | zero => exact Nat.le_refl _
  | succ n ih => rw [fnd]; split <;> omega
theorem p_founders {ln : Nat → Nat} {S : HC} {b n : Nat} {g : Nat → Int32} {post : Int32 → HC → Prop} (hs : SH S) (hl : LN ln) (hb : LB b) (hn : hI S b 6 = nI n) (h14 : n ≤ 14) (hg : ∀ j, j < n → xf S b 1 j = g j) (h : post (nI (fnd g n)) S) : wpX0_founders ln S b post := by
  have key : ∀ m i, i + m = n → LX0_founders_4 ln post (m + 1) S b (nI (fnd g i)) (nI i) := by
    intro m
    induction m with
    | zero =>
      intro i hi
      rw [LX0_founders_4]
      dsimp only
      rw [lt_e, hn, if_pos (nI_le (by omega) (by omega)), show i = n by omega]
      exact h
    | succ m ih =>
      intro i hi
      rw [LX0_founders_4]
      dsimp only
      unfold BX0_founders_25
      rw [lt_e, hn, if_neg (nI_ge (by omega) (by omega)), lb_r hs hb (i := 1) (by decide), dn_e, lb_n hl hb (i := 1) (by decide), al_e (by omega) (by decide), show hI S (b + 1 + 1) i = g i from hg i (by omega)]
      simp only [lt_e]
      rw [nI_1, nI_1]
      have k := ih (i + 1) (by omega)
      rw [fnd] at k
      by_cases e : g i = -1
      · rw [if_pos e] at k ⊢; exact k
      · rw [if_neg e] at k ⊢; exact k
  exact ⟨n + 1, key n 0 (by omega)⟩
theorem p_mfounders {ln : Nat → Nat} {S : HC} {n : Nat} {f : Nat → Nat → Int32} {post : Int32 → HC → Prop} (hs : SH S) (hl : LN ln) (hn : hI S 69 1 = nI n) (h14 : n ≤ 14) (hv : VP n f) (hf : AG n (mf S 69) f) (h : post (nI (fnd (f 1) n)) S) : wpX8_founders ln S 68 post := by
  have key : ∀ m i, i + m = n → LX8_founders_4 ln post (m + 1) S 68 (nI (fnd (f 1) i)) (nI i) := by
    intro m
    induction m with
    | zero =>
      intro i hi
      rw [LX8_founders_4]
      dsimp only
      rw [sh68_0 hs, dn_e, ln69 hl, al_l1 (by decide) (by decide), hn, if_pos (nI_le (by omega) (by omega)), show i = n by omega]
      exact h
    | succ m ih =>
      intro i hi
      rw [LX8_founders_4]
      dsimp only
      unfold BX8_founders_29
      rw [sh68_0 hs, dn_e, ln69 hl, al_l1 (by decide) (by decide), hn, if_neg (nI_ge (by omega) (by omega)), p_of1 hs hl (by omega), hf 1 (by decide) i (by omega)]
      simp only [lt_e]
      rw [nI_1]
      have k := ih (i + 1) (by omega)
      rw [fnd] at k
      rcases hv.fat (show i < n by omega) with e | ⟨p, hp, e⟩
      · rw [if_pos e] at k
        rw [if_neg (by rw [e]; decide), nI_1]
        exact k
      · rw [if_neg (by rw [e]; exact m1_ne (by omega))] at k
        rw [if_pos (by rw [e]; exact nI_pos' (by omega)), show nI (fnd (f 1) i) + 0 = nI (fnd (f 1) i + 0) from nI_add _ 0]
        exact k
  exact ⟨n + 1, key n 0 (by omega)⟩
theorem s_count {N : Nat} {ln : Nat → Nat} {S : HC} (h : PI N ln S) (a1 : Int32) : wpX7_count ln S 0 a1 fun v S => wpX8_count ln S 68 a1 fun w S => OK N ln v w S := by
  obtain ⟨⟨hs, hl, -, -⟩, ⟨⟨n, hn⟩, m, m1, m2, m3, -⟩, -, ⟨k, k1, k2, k3, -⟩, -, -, ⟨w, w1, w2, w3, -⟩, -⟩ := id h
  have h14 := hn.1
  obtain ⟨x1, x2, x3, x4, x5, x6, x7, x8⟩ := hn
  unfold wpX7_count
  simp only [sh0_0 hs, sh0_5 hs, sh37_0 hs, dn_e, lt_e]
  by_cases c0 : a1 = 0
  · subst c0
    rw [if_pos rfl]
    unfold wpX8_count
    rw [if_pos rfl, sh68_0 hs, dn_e, ln69 hl, al_l1 (by decide) (by decide)]
    exact ⟨x2.trans x3.symm, h⟩
  rw [if_neg c0]
  by_cases c1 : a1 = 1
  · subst c1
    rw [if_pos rfl]
    unfold wpX8_count
    rw [if_neg (by decide), if_pos rfl, sh68_0 hs, dn_e, ln69 hl, al_l2 (by decide) (by decide)]
    exact ⟨x7.1, h⟩
  rw [if_neg c1]
  by_cases c2 : a1 = 2
  · subst c2
    rw [if_pos rfl]
    unfold wpX8_count
    rw [if_neg (by decide), if_neg (by decide), if_pos rfl, sh68_0 hs, dn_e, ln69 hl, al_l3 (by decide) (by decide)]
    exact ⟨x6.1, h⟩
  rw [if_neg c2]
  by_cases c3 : a1 = 3
  · subst c3
    rw [if_pos rfl]
    refine p_founders (g := mf S 69 1) hs hl (Or.inl rfl) x2 h14 (fun j hj => x4 1 (by decide) j hj) ?_
    unfold wpX8_count
    rw [if_neg (by decide), if_neg (by decide), if_neg (by decide), if_pos rfl]
    exact p_mfounders hs hl x3 h14 x5 (fun _ _ _ _ => rfl) ⟨rfl, h⟩
  rw [if_neg c3]
  by_cases c4 : a1 = 4
  · subst c4
    rw [if_pos rfl]
    unfold wpX8_count
    rw [if_neg (by decide), if_neg (by decide), if_neg (by decide), if_neg (by decide), if_pos rfl, sh68_0 hs, dn_e, ln69 hl, al_l4 (by decide) (by decide)]
    exact ⟨m2.trans m3.symm, h⟩
  rw [if_neg c4]
  by_cases c5 : a1 = 5
  · subst c5
    rw [if_pos rfl]
    unfold wpX8_count
    rw [if_neg (by decide), if_neg (by decide), if_neg (by decide), if_neg (by decide), if_neg (by decide), if_pos rfl, lt_e]
    exact ⟨w2.trans w3.symm, h⟩
  rw [if_neg c5]
  by_cases c6 : a1 = 6
  · subst c6
    rw [if_pos rfl]
    unfold wpX8_count
    rw [if_neg (by decide), if_neg (by decide), if_neg (by decide), if_neg (by decide), if_neg (by decide), if_neg (by decide), if_pos rfl, lt_e]
    exact ⟨k2.trans k3.symm, h⟩
  rw [if_neg c6]
  by_cases c7 : a1 = 7
  · subst c7
    rw [if_pos rfl]
    unfold wpX8_count
    rw [if_neg (by decide), if_neg (by decide), if_neg (by decide), if_neg (by decide), if_neg (by decide), if_neg (by decide), if_neg (by decide), if_pos rfl, sh68_0 hs, dn_e, ln69 hl, al_l0 (by decide) (by decide)]
    exact ⟨x8, h⟩
  rw [if_neg c7]
  unfold wpX8_count
  rw [if_neg c0, if_neg c1, if_neg c2, if_neg c3, if_neg c4, if_neg c5, if_neg c6, if_neg c7]
  exact ⟨rfl, h⟩
-- 34.prows.lean.txt
/-! steps: rows begun, marked, read -/
/-- S' is S but for the cells lo .. hi of the row r, which hold g -/
def Fl (S S' : HC) (r lo hi : Nat) (g : Nat → Int32) : Prop := (∀ a b, hI S' a b = if a = r ∧ lo ≤ b ∧ b < hi then g b else hI S a b) ∧ ∀ a b, hR S' a b = hR S a b
theorem Fl.rf (S : HC) (r lo : Nat) (g : Nat → Int32) : Fl S S r lo lo g := ⟨fun a b => by rw [if_neg (by omega)], fun _ _ => rfl⟩
theorem Fl.step {S S' : HC} {r lo hi : Nat} {g : Nat → Int32} {v : Int32} (h : Fl S S' r lo hi g) (hlo : lo ≤ hi) (hv : v = g hi) : Fl S (sI S' r hi v) r lo (hi + 1) g := by
  refine ⟨fun a b => ?_, fun a b => h.2 a b⟩
  by_cases e : a = r ∧ b = hi
  · rw [e.1, e.2, hI_self, if_pos ⟨rfl, hlo, by omega⟩, hv]
  · rw [hI_ne e, h.1]
    by_cases e2 : a = r ∧ lo ≤ b ∧ b < hi
    · rw [if_pos e2, if_pos ⟨e2.1, e2.2.1, by omega⟩]
    · rw [if_neg e2, if_neg (by omega)]
theorem Fl.sh {S S' : HC} {r lo hi : Nat} {g : Nat → Int32} (h : Fl S S' r lo hi g) (hs : SH S) : SH S' := hs.of (fun _ _ => h.2 _ _)
theorem Fl.o {S S' : HC} {r lo hi : Nat} {g : Nat → Int32} (h : Fl S S' r lo hi g) {a b : Nat} (q : a ≠ r) : hI S' a b = hI S a b := by rw [h.1, if_neg (fun u => q u.1)]
theorem Fl.i {S S' : HC} {r lo hi : Nat} {g : Nat → Int32} (h : Fl S S' r lo hi g) {b : Nat} (q1 : lo ≤ b) (q2 : b < hi) : hI S' r b = g b := by rw [h.1, if_pos ⟨rfl, q1, q2⟩]
theorem Fl.x {S S' : HC} {r lo hi : Nat} {g : Nat → Int32} (h : Fl S S' r lo hi g) {a b : Nat} (q : ¬ (lo ≤ b ∧ b < hi)) : hI S' a b = hI S a b := by rw [h.1, if_neg (fun u => q u.2)]
theorem p_beginAs {ln : Nat → Nat} {S : HC} {i : Nat} {a1 a2 : Int32} {post : HC → Prop} (hs : SH S) (hl : LN ln) (hi : i < 4) (h : ∀ S', Fl (sI (sI S (45 + 2 * i) 0 a1) (45 + 2 * i) 1 a2) S' (46 + 2 * i) 0 24 (fun _ => 0) → post S') : wpX3_beginAs ln S (45 + 2 * i) a1 a2 post := by
  unfold wpX3_beginAs
  simp only [lt_e]
  generalize hS0 : sI (sI S (45 + 2 * i) 0 a1) (45 + 2 * i) 1 a2 = S0 at h
  have hs0 : SH S0 := by rw [← hS0]; exact hs
  have key : ∀ m j S', j + m = 24 → Fl S0 S' (46 + 2 * i) 0 j (fun _ => 0) → LX3_beginAs_12 ln post (m + 1) S' (45 + 2 * i) (nI j) := by
    intro m
    induction m with
    | zero =>
      intro j S' hj hF
      rw [LX3_beginAs_12]
      dsimp only
      rw [if_pos (show (24 : Int32) ≤ nI j from nI_le (a := 24) (by omega) (by omega))]
      exact h S' (by rw [show (24 : Nat) = j by omega]; exact hF)
    | succ m ih =>
      intro j S' hj hF
      rw [LX3_beginAs_12]
      dsimp only
      rw [if_neg (show ¬ (24 : Int32) ≤ nI j from nI_ge (b := 24) (by omega) (by decide)), (rw_o (hF.sh hs0) hi).2, dn_e, rw_n hl hi, as_e (by omega) (by decide), lt_e, nI_1]
      exact ih (j + 1) _ (by omega) (hF.step (by omega) rfl)
  exact ⟨25, key 24 0 S0 (by omega) (Fl.rf _ _ _ _)⟩
theorem p_msheet {ln : Nat → Nat} {S : HC} {i : Nat} {post : Int32 → HC → Prop} (hs : SH S) (hl : LN ln) (hi : i < 4) (h : ∀ S', Fl S S' 84 (24 * i) (24 * i + 24) (fun _ => 0) → post (hI S 83 i) S') : ∃ n, LX8_sheet_66 ln post n S 68 (nI i) 0 := by
  have key : ∀ m j S', j + m = 24 → Fl S S' 84 (24 * i) (24 * i + j) (fun _ => 0) → LX8_sheet_66 ln post (m + 1) S' 68 (nI i) (nI j) := by
    intro m
    induction m with
    | zero =>
      intro j S' hj hF
      rw [LX8_sheet_66]
      dsimp only
      rw [if_pos (show (24 : Int32) ≤ nI j from nI_le (a := 24) (by omega) (by omega)), sh68_25 (hF.sh hs), dn_e, ln83 hl, al_e hi (by decide), hF.o (by decide)]
      have ej : j = 24 := by omega
      rw [ej] at hF
      exact h S' hF
    | succ m ih =>
      intro j S' hj hF
      rw [LX8_sheet_66]
      dsimp only
      rw [if_neg (show ¬ (24 : Int32) ≤ nI j from nI_ge (b := 24) (by omega) (by decide)), sh68_26 (hF.sh hs), dn_e]
      simp only [lt_e]
      rw [show (24 : Int32) * nI i = nI (24 * i) from pk_mul 24 i, nI_add, ln84 hl, as_e (by omega) (by decide), nI_1]
      exact ih (j + 1) _ (by omega) (hF.step (by omega) rfl)
  exact ⟨25, key 24 0 S (by omega) (Fl.rf _ _ _ _)⟩
theorem pRow.one {S S' : HC} (h : pRow S) {i : Nat} (ho : ∀ t, t < 4 → t ≠ i → hI S' (45 + 2 * t) 0 = hI S (45 + 2 * t) 0 ∧ hI S' (45 + 2 * t) 1 = hI S (45 + 2 * t) 1 ∧ hI S' 82 t = hI S 82 t ∧ hI S' 83 t = hI S 83 t ∧ ∀ j, j < 24 → hI S' (46 + 2 * t) j = hI S (46 + 2 * t) j ∧ hI S' 84 (24 * t + j) = hI S 84 (24 * t + j)) (hi : (hI S' (45 + 2 * i) 0 = hI S' 82 i ∧ (hI S' 82 i = -1 ∨ hI S' 82 i = 0 ∨ hI S' 82 i = 1)) ∧ (∃ l, l ≤ 24 ∧ hI S' (45 + 2 * i) 1 = nI l ∧ hI S' 83 i = nI l) ∧ ∀ j, j < 24 → hI S' (46 + 2 * i) j = hI S' 84 (24 * i + j) ∧ isNum (hI S' 84 (24 * i + j))) : pRow S' := by
  intro t ht
  by_cases e : t = i
  · rw [e]; exact hi
  · obtain ⟨o1, o2, o3, o4, o5⟩ := ho t ht e
    obtain ⟨a1, a2, a3⟩ := h t ht
    rw [o1, o2, o3, o4]
    refine ⟨a1, a2, fun j hj => ?_⟩
    rw [(o5 j hj).1, (o5 j hj).2]
    exact a3 j hj
theorem sheet_end {N : Nat} {ln : Nat → Nat} {S S2 S4 : HC} (h : PI N ln S) {i l : Nat} {a2 : Int32} (hi : i < 4) (hl : l ≤ 24) (h2 : a2 = -1 ∨ a2 = 0 ∨ a2 = 1) (f2 : Fl (sI (sI S (45 + 2 * i) 0 a2) (45 + 2 * i) 1 (nI l)) S2 (46 + 2 * i) 0 24 (fun _ => 0)) (f4 : Fl (sI (sI S2 82 i a2) 83 i (nI l)) S4 84 (24 * i) (24 * i + 24) (fun _ => 0)) : PI N ln S4 := by
  have e4 : ∀ r k, r ≠ 84 → r ≠ 83 → r ≠ 82 → r ≠ 46 + 2 * i → r ≠ 45 + 2 * i → hI S4 r k = hI S r k := fun r k q1 q2 q3 q4 q5 => by rw [f4.o q1, hI_row q2, hI_row q3, f2.o q4, hI_row q5, hI_row q5]
  refine h.row (fun r k => by rw [f4.2, hR_sI, hR_sI, f2.2, hR_sI, hR_sI]) (fun r k q => e4 r k (by omega) (by omega) (by omega) (by omega) (by omega)) (h.2.2.2.2.1.one (i := i) (fun t ht q => ⟨e4 _ _ (by omega) (by omega) (by omega) (by omega) (by omega), e4 _ _ (by omega) (by omega) (by omega) (by omega) (by omega), ?_, ?_, fun j hj => ⟨e4 _ _ (by omega) (by omega) (by omega) (by omega) (by omega), ?_⟩⟩) ⟨⟨?_, ?_⟩, ⟨l, hl, ?_, ?_⟩, fun j hj => ⟨?_, ?_⟩⟩)
  · rw [f4.o (by decide), hI_row (by decide), hI_ne (by omega), f2.o (by omega), hI_row (by omega), hI_row (by omega)]
  · rw [f4.o (by decide), hI_ne (by omega), hI_row (by decide), f2.o (by omega), hI_row (by omega), hI_row (by omega)]
  · rw [f4.x (by omega), hI_row (by decide), hI_row (by decide), f2.o (by omega), hI_row (by omega), hI_row (by omega)]
  · rw [f4.o (by omega), f4.o (by decide), hI_row (by omega), hI_row (by omega), hI_row (by decide), hI_self, f2.o (by omega), hI_ne (by omega), hI_self]
  · rw [f4.o (by decide), hI_row (by decide), hI_self]; exact h2
  · rw [f4.o (by omega), hI_row (by omega), hI_row (by omega), f2.o (by omega), hI_self]
  · rw [f4.o (by decide), hI_self]
  · rw [f4.o (by omega), hI_row (by omega), hI_row (by omega), f2.i (by omega) hj, f4.i (by omega) (by omega)]
  · rw [f4.i (by omega) (by omega)]; exact Or.inr ⟨by decide, by decide⟩
theorem s_sheet {N : Nat} {ln : Nat → Nat} {S : HC} (h : PI N ln S) (a1 a2 a3 : Int32) : wpX7_sheet ln S 0 a1 a2 a3 fun v S => wpX8_sheet ln S 68 a1 a2 a3 fun w S => OK N ln v w S := by
  obtain ⟨⟨hs, hl, -, -⟩, -, -, -, hr, -⟩ := id h
  unfold wpX7_sheet BX7_sheet_17
  rw [p_isSheet]
  by_cases c : 0 ≤ a1 ∧ a1 < 4
  · obtain ⟨i, hi, rfl⟩ := ge_of (n := 4) (by decide) c
    rw [bI_t c, if_neg (by decide)]
    have no : ¬ (-1 ≤ a2 ∧ a2 ≤ 1) → wpX8_sheet ln S 68 (nI i) a2 a3 fun w S => OK N ln (-1000000001) w S := fun q => by
      unfold wpX8_sheet BX8_sheet_26
      rw [p_mSheet, shE, bI_t c, if_neg (by decide), p_in, bI_f q, if_pos rfl]
      exact ⟨rfl, h⟩
    by_cases c1 : a2 < -1
    · rw [if_pos c1]; exact no (fun q => absurd c1 (Int32.not_lt.mpr q.1))
    rw [if_neg c1]
    by_cases c2 : a2 ≤ 1
    · rw [if_pos c2]
      have b2 : -1 ≤ a2 ∧ a2 ≤ 1 := ⟨Int32.not_lt.mp c1, c2⟩
      have s2 : a2 = -1 ∨ a2 = 0 ∨ a2 = 1 := by
        simp only [i_le, i_eq] at b2 ⊢
        have : (-1 : Int32).toInt = -1 := rfl
        have : (0 : Int32).toInt = 0 := rfl
        have : (1 : Int32).toInt = 1 := rfl
        omega
      by_cases c3 : a2 = -1
      · subst c3
        rw [if_pos rfl, sh0_6 hs, dn_e, ln41 hl, al_e hi (by decide), (rw_o hs hi).1, dn_e]
        refine p_beginAs hs hl hi (fun S2 f2 => ?_)
        have hs2 := f2.sh ((hs.sI _ _ _).sI _ _ _)
        unfold wpX8_sheet BX8_sheet_29 BX8_sheet_41 BX8_sheet_62
        dsimp only
        rw [p_mSheet, shE, bI_t c, if_neg (by decide), p_in, bI_t (by decide), if_neg (by decide), if_pos (by decide), if_pos (by decide), sh68_24 hs2, dn_e, ln82 hl, as_e hi (by decide), sh68_25 (hs2.sI _ _ _), dn_e, if_neg (by decide), ln83 hl, as_e hi (by decide)]
        refine p_msheet ((hs2.sI _ _ _).sI _ _ _) hl hi (fun S4 f4 => ⟨?_, sheet_end (l := 0) h hi (by decide) (Or.inl rfl) f2 f4⟩)
        rw [hI_self]
      · rw [if_neg c3]
        have n2 : ¬ a2 < 0 := by
          rcases s2 with e | e | e
          · exact absurd e c3
          · rw [e]; decide
          · rw [e]; decide
        by_cases c4 : a3 ≤ 24
        · rw [if_pos c4]
          by_cases c5 : 0 ≤ a3
          · rw [if_pos c5, sh0_6 hs, dn_e, ln41 hl, al_e hi (by decide), (rw_o hs hi).1, dn_e]
            obtain ⟨l, h24, rfl⟩ := nI_of2 (n := 24) (M := 24) (x := a3) rfl (Int32.not_lt.mpr c5) c4
            refine p_beginAs hs hl hi (fun S2 f2 => ?_)
            have hs2 := f2.sh ((hs.sI _ _ _).sI _ _ _)
            unfold wpX8_sheet BX8_sheet_29 BX8_sheet_41 BX8_sheet_62
            dsimp only
            rw [p_mSheet, shE, bI_t c, if_neg (by decide), p_in, bI_t b2, if_neg (by decide), if_neg n2, if_pos c4, if_neg n2, if_pos c5, sh68_24 hs2, dn_e, ln82 hl, as_e hi (by decide), sh68_25 (hs2.sI _ _ _), dn_e, if_pos (Int32.not_lt.mp n2), ln83 hl, as_e hi (by decide)]
            refine p_msheet ((hs2.sI _ _ _).sI _ _ _) hl hi (fun S4 f4 => ⟨?_, sheet_end (l := l) h hi (by omega) s2 f2 f4⟩)
            rw [hI_self]
          · rw [if_neg c5]
            unfold wpX8_sheet BX8_sheet_29
            dsimp only
            rw [p_mSheet, shE, bI_t c, if_neg (by decide), p_in, bI_t b2, if_neg (by decide), if_neg n2, if_pos c4, if_neg n2, if_neg c5]
            exact ⟨rfl, h⟩
        · rw [if_neg c4]
          unfold wpX8_sheet BX8_sheet_26
          dsimp only
          rw [p_mSheet, shE, bI_t c, if_neg (by decide), p_in, bI_t b2, if_neg (by decide), if_neg n2, if_neg c4]
          exact ⟨rfl, h⟩
    · rw [if_neg c2]; exact no (fun q => c2 q.2)
  · rw [bI_f c, if_pos rfl]
    unfold wpX8_sheet BX8_sheet_26
    dsimp only
    rw [p_mSheet, shE, bI_f c, if_pos rfl]
    exact ⟨rfl, h⟩
theorem p_isMissing {ln : Nat → Nat} {S : HC} {r : Nat} {post : Int32 → HC → Prop} : wpX3_isMissing ln S r post = post (bI (hI S r 0 = -1)) S := by
  unfold wpX3_isMissing
  rw [lt_e, rb_e0, rb_e1]
  by_cases e : hI S r 0 = -1
  · rw [if_pos e, bI_t e]
  · rw [if_neg e, bI_f e]
/-- one place of one row, on both sides -/
theorem PI.cell {N : Nat} {ln : Nat → Nat} {S : HC} (h : PI N ln S) {i j : Nat} {v : Int32} (hi : i < 4) (hj : j < 24) (hv : isNum v) : PI N ln (sI (sI S (46 + 2 * i) j v) 84 (24 * i + j) v) := by
  have e4 : ∀ r k, r ≠ 84 → r ≠ 46 + 2 * i → hI (sI (sI S (46 + 2 * i) j v) 84 (24 * i + j) v) r k = hI S r k := fun r k q1 q4 => by rw [hI_row q1, hI_row q4]
  obtain ⟨b1, b2, b3⟩ := h.2.2.2.2.1 i hi
  refine h.row (fun r k => rfl) (fun r k q => e4 r k (by omega) (by omega)) (h.2.2.2.2.1.one (i := i) (fun t ht q => ⟨e4 _ _ (by omega) (by omega), e4 _ _ (by omega) (by omega), e4 _ _ (by omega) (by omega), e4 _ _ (by omega) (by omega), fun j2 hj2 => ⟨e4 _ _ (by omega) (by omega), by rw [hI_ne (by omega), hI_row (by omega)]⟩⟩) ?_)
  rw [e4 _ _ (by omega) (by omega), e4 _ _ (by omega) (by omega), e4 _ _ (by omega) (by omega), e4 _ _ (by omega) (by omega)]
  refine ⟨b1, b2, fun j2 hj2 => ?_⟩
  by_cases e : j2 = j
  · subst e
    rw [hI_row (by omega), hI_self, hI_self]; exact ⟨rfl, hv⟩
  · rw [hI_row (by omega), hI_ne (by omega), hI_ne (by omega), hI_row (by omega)]; exact b3 j2 hj2
theorem num16 (x : Int32) : isNum x.toInt16.toInt32 := by
  have h1 := Int16.le_toInt x.toInt16
  have h2 := Int16.toInt_lt x.toInt16
  refine Or.inr ?_
  rw [i_le, i_le, Int16.toInt_toInt32]
  have : (-99999 : Int32).toInt = -99999 := rfl
  have : (99999 : Int32).toInt = 99999 := rfl
  omega
theorem s_mark {N : Nat} {ln : Nat → Nat} {S : HC} (h : PI N ln S) (a1 a2 a3 : Int32) : wpX7_mark ln S 0 a1 a2 a3 fun v S => wpX8_mark ln S 68 a1 a2 a3 fun w S => OK N ln v w S := by
  obtain ⟨⟨hs, hl, -, -⟩, -, -, -, hr, -⟩ := id h
  unfold wpX7_mark BX7_mark_90 BX7_mark_93
  rw [p_isSheet]
  by_cases c : 0 ≤ a1 ∧ a1 < 4
  · obtain ⟨i, hi, rfl⟩ := ge_of (n := 4) (by decide) c
    obtain ⟨⟨b1, b2⟩, ⟨l, l1, l2, l3⟩, b3⟩ := hr i hi
    rw [bI_t c, if_neg (by decide), sh0_6 hs, dn_e, ln41 hl, al_e hi (by decide), (rw_o hs hi).1, dn_e, p_isMissing, b1]
    by_cases c1 : hI S 82 i = -1
    · rw [bI_t c1, if_neg (by decide)]
      unfold wpX8_mark
      dsimp only
      rw [p_mSheet, shE, bI_t c, if_neg (by decide), sh68_24 hs, dn_e, ln82 hl, al_e hi (by decide), c1, if_neg (by decide)]
      exact ⟨rfl, h⟩
    rw [bI_f c1, if_pos rfl, p_hasPlace l2 l1]
    have p0 : 0 ≤ hI S 82 i := by
      rcases b2 with e | e | e
      · exact absurd e c1
      · rw [e]; decide
      · rw [e]; decide
    by_cases c2 : 0 ≤ a2 ∧ a2 < nI l
    · obtain ⟨j, hj, rfl⟩ := ge_of (n := l) (by omega) c2
      rw [bI_t c2, if_neg (by decide), lt_e, b1]
      have mm : ∀ (S1 : HC) (v : Int32), SH S1 → (∀ r k, r ≠ 46 + 2 * i → hI S1 r k = hI S r k) → (wpX8_mark ln S1 68 (nI i) (nI j) a3 fun w S => OK N ln v w S) = if hI S 82 i = 0 then (if a3 = -1000000005 then OK N ln v (-1000000012) S1 else OK N ln v 1 (sI S1 84 (24 * i + j) (a3.toInt16.toInt32))) else if a3 = -1000000005 ∨ (-99999 ≤ a3 ∧ a3 ≤ 99999) then OK N ln v 1 (sI S1 84 (24 * i + j) a3) else OK N ln v (-1000000001) S1 := fun S1 v hs1 e1 => by
        unfold wpX8_mark BX8_mark_60 BX8_mark_92 BX8_mark_117
        simp only [p_mSheet, shE, bI_t c, sh68_24 hs1, sh68_25 hs1, sh68_26 hs1, dn_e, ln82 hl, ln83 hl, ln84 hl, lt_e, p_in]
        rw [if_neg (by decide), al_e hi (by decide), al_e hi (by decide), al_e hi (by decide), al_e hi (by decide), al_e hi (by decide), e1 82 i (by omega), e1 83 i (by omega), if_pos p0, l3, plE l1, bI_t c2, if_neg (by decide), show (24 : Int32) * nI i = nI (24 * i) from pk_mul 24 i, nI_add, as_e (by omega) (by decide), as_e (by omega) (by decide)]
        rcases b2 with e | e | e
        · exact absurd e c1
        · rw [e, if_pos rfl, if_pos rfl, if_neg (show ¬ (0 : Int32) = 1 by decide), if_pos rfl]
        · rw [e]
          simp only [if_neg (show ¬ (1 : Int32) = 0 by decide), if_true]
          by_cases u : a3 = -1000000005
          · rw [if_pos u, if_pos (Or.inl u)]
          · rw [if_neg u]
            by_cases u2 : -99999 ≤ a3 ∧ a3 ≤ 99999
            · rw [bI_t u2, if_neg (by decide), if_pos (Or.inr u2)]
            · rw [bI_f u2, if_pos rfl, if_neg (by rintro (q | q); exact u q; exact u2 q)]
      have mm2 : ∀ (S1 : HC) (v : Int32), SH S1 → (∀ r k, r ≠ 46 + 2 * i → hI S1 r k = hI S r k) → (if hI S 82 i = 0 then (if a3 = -1000000005 then OK N ln v (-1000000012) S1 else OK N ln v 1 (sI S1 84 (24 * i + j) (a3.toInt16.toInt32))) else if a3 = -1000000005 ∨ (-99999 ≤ a3 ∧ a3 ≤ 99999) then OK N ln v 1 (sI S1 84 (24 * i + j) a3) else OK N ln v (-1000000001) S1) → wpX8_mark ln S1 68 (nI i) (nI j) a3 fun w S => OK N ln v w S := fun S1 v q1 q2 q3 => by rw [mm S1 v q1 q2]; exact q3
      by_cases c3 : hI S 82 i = 0
      · rw [if_pos c3]
        by_cases c4 : a3 = -1000000005
        · rw [if_pos c4]
          refine mm2 S _ hs (fun _ _ _ => rfl) ?_
          rw [if_pos c3, if_pos c4]
          exact ⟨rfl, h⟩
        · rw [if_neg c4, (rw_o hs hi).2, dn_e, lt_e, rw_n hl hi, as_e (by omega) (by decide)]
          refine mm2 _ _ (hs.sI _ _ _) (fun r k q => hI_row q) ?_
          rw [if_pos c3, if_neg c4]
          exact ⟨rfl, h.cell hi (by omega) (num16 _)⟩
      · rw [if_neg c3]
        by_cases c4 : a3 = -1000000005
        · rw [if_pos c4, (rw_o hs hi).2, dn_e, rw_n hl hi, as_e (by omega) (by decide)]
          refine mm2 _ _ (hs.sI _ _ _) (fun r k q => hI_row q) ?_
          rw [if_neg c3, if_pos (Or.inl c4)]
          exact ⟨rfl, h.cell hi (by omega) (Or.inl c4)⟩
        rw [if_neg c4]
        by_cases c5 : a3 < -99999
        · rw [if_pos c5]
          refine mm2 S _ hs (fun _ _ _ => rfl) ?_
          rw [if_neg c3, if_neg (by rintro (q | q); exact c4 q; exact absurd c5 (Int32.not_lt.mpr q.1))]
          exact ⟨rfl, h⟩
        rw [if_neg c5]
        by_cases c6 : a3 ≤ 99999
        · rw [if_pos c6, (rw_o hs hi).2, dn_e, rw_n hl hi, as_e (by omega) (by decide)]
          refine mm2 _ _ (hs.sI _ _ _) (fun r k q => hI_row q) ?_
          rw [if_neg c3, if_pos (Or.inr ⟨Int32.not_lt.mp c5, c6⟩)]
          exact ⟨rfl, h.cell hi (by omega) (Or.inr ⟨Int32.not_lt.mp c5, c6⟩)⟩
        · rw [if_neg c6]
          refine mm2 S _ hs (fun _ _ _ => rfl) ?_
          rw [if_neg c3, if_neg (by rintro (q | q); exact c4 q; exact c6 q.2)]
          exact ⟨rfl, h⟩
    · rw [bI_f c2, if_pos rfl]
      unfold wpX8_mark
      dsimp only
      rw [p_mSheet, shE, bI_t c, if_neg (by decide), sh68_24 hs, dn_e, ln82 hl, al_e hi (by decide), if_pos p0, sh68_25 hs, dn_e, ln83 hl, al_e hi (by decide), l3, lt_e, p_in, plE l1, bI_f c2, if_pos rfl]
      exact ⟨rfl, h⟩
  · rw [bI_f c, if_pos rfl]
    unfold wpX8_mark
    dsimp only
    rw [p_mSheet, shE, bI_f c, if_pos rfl]
    exact ⟨rfl, h⟩
-- 35.ppour.lean.txt
/-! steps: a row read against the people, poured over them -/
def rdV (g f4 : Nat → Int32) (n : Nat) : Nat → Nat → Int32
  | 0, _ => -1000000005
  | m + 1, i => if g i = -1000000005 then rdV g f4 n m (i + 1) else if i < n then (if g i = f4 i then rdV g f4 n m (i + 1) else nI i) else nI i
theorem p_reads {ln : Nat → Nat} {S : HC} {n l i : Nat} {g f4 : Nat → Int32} (hs : SH S) (hl : LN ln) (hi : i < 4) (h14 : n ≤ 14) (l1 : l ≤ 24) (hn : hI S 1 6 = nI n) (l2 : hI S (45 + 2 * i) 1 = nI l) (b3 : ∀ j, j < 24 → hI S (46 + 2 * i) j = g j) (ef : ∀ j, j < n → hI S 6 j = f4 j) : ∀ (post : Int32 → HC → Prop) (m j : Nat), j + m = l → post (rdV g f4 n m j) S → LX7_reads_29 ln post (m + 1) S 0 (45 + 2 * i) (nI j) := by
  intro post m
  induction m with
  | zero =>
    intro j hj hp
    rw [rdV] at hp
    rw [LX7_reads_29]
    dsimp only
    rw [lt_e, l2, if_pos (nI_le (by omega) (by omega))]
    exact hp
  | succ m ih =>
    intro j hj hp
    rw [rdV] at hp
    rw [LX7_reads_29]
    dsimp only
    unfold BX7_reads_76 BX7_reads_74
    rw [lt_e, l2, if_neg (nI_ge (by omega) (by omega)), p_isNumber l2 l1 (rw_o hs hi).2 (rw_n hl hi) (by omega), b3 j (by omega), lt_e, nI_1]
    by_cases e1 : g j = -1000000005
    · rw [if_pos e1] at hp
      rw [bI_f (fun u => u.2 e1), if_pos rfl]
      exact ih (j + 1) (by omega) hp
    rw [if_neg e1] at hp
    rw [bI_t ⟨by omega, e1⟩, if_neg (by decide), sh0_0 hs, dn_e, p_has]
    by_cases e2 : j < n
    · rw [if_pos e2] at hp
      rw [hasT hn h14 e2, if_neg (by decide), (rw_o hs hi).2, dn_e, rw_n hl hi, al_e (by omega) (by decide), b3 j (by omega), sh0_0 hs, dn_e, sh1_4 hs, dn_e, ln6 hl, al_e (by omega) (by decide), ef j e2]
      by_cases e3 : g j = f4 j
      · rw [if_pos e3] at hp
        rw [if_pos e3, lt_e]
        exact ih (j + 1) (by omega) hp
      · rw [if_neg e3] at hp
        rw [if_neg e3]
        exact hp
    · rw [if_neg e2] at hp
      rw [hasF hn (Or.inr (nI_le (by omega) (by omega))), if_pos rfl]
      exact hp
theorem p_mreads {ln : Nat → Nat} {S : HC} {n l i : Nat} {g f4 : Nat → Int32} (hs : SH S) (hl : LN ln) (hi : i < 4) (h14 : n ≤ 14) (l1 : l ≤ 24) (hn : hI S 69 1 = nI n) (l3 : hI S 83 i = nI l) (b3 : ∀ j, j < 24 → hI S 84 (24 * i + j) = g j) (ef : ∀ j, j < n → mf S 69 4 j = f4 j) : ∀ (post : Int32 → HC → Prop) (m j : Nat), j + m = l → post (rdV g f4 n m j) S → LX8_reads_24 ln post (m + 1) S 68 (nI i) (nI j) := by
  intro post m
  induction m with
  | zero =>
    intro j hj hp
    rw [rdV] at hp
    rw [LX8_reads_24]
    dsimp only
    rw [sh68_25 hs, dn_e, ln83 hl, al_e hi (by decide), l3, if_pos (nI_le (by omega) (by omega))]
    exact hp
  | succ m ih =>
    intro j hj hp
    rw [rdV] at hp
    rw [LX8_reads_24]
    dsimp only
    unfold BX8_reads_72 BX8_reads_70
    rw [sh68_25 hs, dn_e, ln83 hl, al_e hi (by decide), l3, if_neg (nI_ge (by omega) (by omega)), sh68_26 hs, dn_e]
    simp only [lt_e]
    rw [show (24 : Int32) * nI i = nI (24 * i) from pk_mul 24 i, nI_add, ln84 hl, al_e (by omega) (by decide), b3 j (by omega), nI_1]
    by_cases e1 : g j = -1000000005
    · rw [if_pos e1] at hp
      rw [if_pos e1]
      exact ih (j + 1) (by omega) hp
    rw [if_neg e1] at hp
    rw [if_neg e1, p_isOne hs hl]
    by_cases e2 : j < n
    · rw [if_pos e2] at hp
      rw [oneT hn h14 e2, if_neg (by decide), p_of4 hs hl (by omega), ef j e2]
      by_cases e3 : g j = f4 j
      · rw [if_pos e3] at hp
        rw [if_pos e3]
        exact ih (j + 1) (by omega) hp
      · rw [if_neg e3] at hp
        rw [if_neg e3]
        exact hp
    · rw [if_neg e2] at hp
      rw [oneF hn h14 (Or.inr (nI_le (by omega) (by omega))), if_pos rfl]
      exact hp
theorem s_reads {N : Nat} {ln : Nat → Nat} {S : HC} (h : PI N ln S) (a1 : Int32) : wpX7_reads ln S 0 a1 fun v S => wpX8_reads ln S 68 a1 fun w S => OK N ln v w S := by
  obtain ⟨⟨hs, hl, -, -⟩, ⟨⟨n, hn⟩, -⟩, -, -, hr, -⟩ := id h
  have h14 := hn.1
  unfold wpX7_reads
  rw [p_isSheet]
  by_cases c : 0 ≤ a1 ∧ a1 < 4
  · obtain ⟨i, hi, rfl⟩ := ge_of (n := 4) (by decide) c
    obtain ⟨⟨b1, b2⟩, ⟨l, l1, l2, l3⟩, b3⟩ := hr i hi
    rw [bI_t c, if_neg (by decide), sh0_6 hs, dn_e, ln41 hl, al_e hi (by decide), (rw_o hs hi).1, dn_e, p_isMissing, b1]
    by_cases c1 : hI S 82 i = -1
    · rw [bI_t c1, if_neg (by decide)]
      unfold wpX8_reads
      dsimp only
      rw [p_mSheet, shE, bI_t c, if_neg (by decide), sh68_24 hs, dn_e, ln82 hl, al_e hi (by decide), c1, if_neg (by decide)]
      exact ⟨rfl, h⟩
    rw [bI_f c1, if_pos rfl]
    have p0 : 0 ≤ hI S 82 i := by
      rcases b2 with e | e | e
      · exact absurd e c1
      · rw [e]; decide
      · rw [e]; decide
    have ef : ∀ j, j < n → hI S 6 j = mf S 69 4 j := fun j hj => hn.2.2.2.1 4 (by decide) j hj
    have k1 := fun post => p_reads (g := fun j => hI S 84 (24 * i + j)) (f4 := mf S 69 4) hs hl hi h14 l1 hn.2.1 l2 (fun j hj => (b3 j hj).1) (fun j hj => ef j hj) post l 0 (by omega)
    have k2 := fun post => p_mreads (g := fun j => hI S 84 (24 * i + j)) (f4 := mf S 69 4) hs hl hi h14 l1 hn.2.2.1 l3 (fun j hj => rfl) (fun j hj => rfl) post l 0 (by omega)
    generalize rdV (fun j => hI S 84 (24 * i + j)) (mf S 69 4) n l 0 = v0 at k1 k2
    refine ⟨l + 1, k1 _ ?_⟩
    unfold wpX8_reads
    dsimp only
    rw [p_mSheet, shE, bI_t c, if_neg (by decide), sh68_24 hs, dn_e, ln82 hl, al_e hi (by decide), if_pos p0]
    exact ⟨l + 1, k2 _ ⟨rfl, h⟩⟩
  · rw [bI_f c, if_pos rfl]
    unfold wpX8_reads
    dsimp only
    rw [p_mSheet, shE, bI_f c, if_pos rfl]
    exact ⟨rfl, h⟩
def cl7 (x : Int32) : Int32 := if x < 0 then 0 else if 7 < x then 7 else x
theorem cl7_ok (x : Int32) : ∃ c, c < 8 ∧ cl7 x = nI c := by
  unfold cl7
  split
  · exact ⟨0, by decide, rfl⟩
  · rename_i h1
    split
    · exact ⟨7, by decide, rfl⟩
    · rename_i h2
      obtain ⟨c, hc, e⟩ := nI_of2 (n := 7) (M := 7) (x := x) rfl h1 (Int32.not_lt.mp h2)
      exact ⟨c, by omega, e⟩
/-- the people behind the first i of a row's l places g -/
def pwF (g : Nat → Int32) (l : Nat) (f : Nat → Nat → Int32) (i : Nat) : Nat → Nat → Int32 := fun k j => if k = 4 ∧ j < i ∧ j < l ∧ ¬ g j = -1000000005 then cl7 (g j) else f k j
def pwC (g : Nat → Int32) (l : Nat) (f : Nat → Nat → Int32) : Nat → Nat
  | 0 => 0
  | i + 1 => pwC g l f i + (if i < l ∧ ¬ g i = -1000000005 ∧ ¬ cl7 (g i) = f 4 i then 1 else 0)
theorem pwC_ge {g : Nat → Int32} {l : Nat} {f : Nat → Nat → Int32} {i : Nat} (hi : l ≤ i) : ∀ m, pwC g l f (i + m) = pwC g l f i := by
  intro m
  induction m with
  | zero => rfl
  | succ m ih => rw [show i + (m + 1) = i + m + 1 by omega, pwC, if_neg (by omega), ih, Nat.add_zero]
theorem XA.to {S : HC} {b n : Nat} {f f' : Nat → Nat → Int32} {fe ye z : Int32} (h : XA S b n f fe ye z) (e : AG n f f') : XA S b n f' fe ye z := ⟨h.1, h.2.1.tr e, h.2.2⟩
theorem MA.to {S : HC} {n : Nat} {f f' : Nat → Nat → Int32} {fe ye z : Int32} (h : MA S n f fe ye z) (e : AG n f f') : MA S n f' fe ye z := ⟨h.1, h.2.1.tr e, h.2.2⟩
def set1 (f : Nat → Nat → Int32) (k j : Nat) (v : Int32) : Nat → Nat → Int32 := fun a b => if a = k ∧ b = j then v else f a b
theorem XA.pers {S : HC} {b n : Nat} {f : Nat → Nat → Int32} {fe ye z : Int32} (h : XA S b n f fe ye z) {k j : Nat} {v : Int32} (hk : k < 6) : XA (sI S (b + 1 + k) j v) b n (set1 f k j v) fe ye z := by
  obtain ⟨x1, x2, x3, x4, x5⟩ := h
  refine ⟨by rw [hI_row (by omega)]; exact x1, fun a ha c hc => ?_, by rw [hI_row (by omega)]; exact x3, by rw [hI_row (by omega)]; exact x4, by rw [hI_row (by omega)]; exact x5⟩
  unfold set1 xf
  by_cases e : a = k ∧ c = j
  · rw [if_pos e, e.1, e.2, hI_self]
  · rw [if_neg e, hI_ne (by omega)]; exact x2 a ha c hc
theorem MA.pers {S : HC} {n : Nat} {f : Nat → Nat → Int32} {fe ye z : Int32} (h : MA S n f fe ye z) {k j : Nat} {v : Int32} (hk : k < 6) : MA (sI S 69 (5 + 6 * j + k) v) n (set1 f k j v) fe ye z := by
  obtain ⟨x1, x2, x3, x4, x5⟩ := h
  refine ⟨by rw [hI_ne (by omega)]; exact x1, fun a ha c hc => ?_, by rw [hI_ne (by omega)]; exact x3, by rw [hI_ne (by omega)]; exact x4, by rw [hI_ne (by omega)]; exact x5⟩
  unfold set1 mf
  by_cases e : a = k ∧ c = j
  · rw [if_pos e, e.1, e.2, hI_self]
  · rw [if_neg e, hI_ne (by omega)]; exact x2 a ha c hc
theorem pwF_no {g : Nat → Int32} {l : Nat} {f : Nat → Nat → Int32} {i n : Nat} (h : ¬ (i < l ∧ ¬ g i = -1000000005) ∨ cl7 (g i) = f 4 i) : AG n (pwF g l f i) (pwF g l f (i + 1)) := by
  intro k hk j hj
  unfold pwF
  by_cases e : k = 4 ∧ j < i ∧ j < l ∧ ¬ g j = -1000000005
  · rw [if_pos e, if_pos ⟨e.1, by omega, e.2.2⟩]
  · rw [if_neg e]
    by_cases e2 : k = 4 ∧ j < i + 1 ∧ j < l ∧ ¬ g j = -1000000005
    · rw [if_pos e2]
      have ej : j = i := by
        rcases (show j < i ∨ j = i by omega) with q | q
        · exact absurd ⟨e2.1, q, e2.2.2⟩ e
        · exact q
      subst ej
      rcases h with q | q
      · exact absurd e2.2.2 q
      · rw [q, e2.1]
    · rw [if_neg e2]
theorem pwF_at {g : Nat → Int32} {l : Nat} {f : Nat → Nat → Int32} {i : Nat} : pwF g l f i 4 i = f 4 i := by
  unfold pwF
  rw [if_neg (by omega)]
theorem pwF_yes {g : Nat → Int32} {l : Nat} {f : Nat → Nat → Int32} {i n : Nat} (h1 : i < l) (h2 : ¬ g i = -1000000005) : AG n (set1 (pwF g l f i) 4 i (cl7 (g i))) (pwF g l f (i + 1)) := by
  intro k hk j hj
  unfold set1 pwF
  by_cases e : k = 4 ∧ j = i
  · rw [if_pos e, if_pos ⟨e.1, by omega, by omega, by rw [e.2]; exact h2⟩, e.2]
  · rw [if_neg e]
    by_cases e2 : k = 4 ∧ j < i ∧ j < l ∧ ¬ g j = -1000000005
    · rw [if_pos e2, if_pos ⟨e2.1, by omega, e2.2.2⟩]
    · rw [if_neg e2, if_neg]
      rintro ⟨q1, q2, q3, q4⟩
      rcases (show j < i ∨ j = i by omega) with q | q
      · exact e2 ⟨q1, q, q3, q4⟩
      · exact e ⟨q1, q⟩
theorem pwF_ge {g : Nat → Int32} {l : Nat} {f : Nat → Nat → Int32} {i n : Nat} (h : l ≤ i) (hn : i ≤ n) : AG n (pwF g l f i) (pwF g l f n) := by
  intro k hk j hj
  unfold pwF
  by_cases e : k = 4 ∧ j < i ∧ j < l ∧ ¬ g j = -1000000005
  · rw [if_pos e, if_pos ⟨e.1, by omega, e.2.2⟩]
  · rw [if_neg e, if_neg]
    rintro ⟨q1, q2, q3, q4⟩
    exact e ⟨q1, by omega, q3, q4⟩
theorem pwF_ok {g : Nat → Int32} {l : Nat} {f : Nat → Nat → Int32} {i n : Nat} (h : VP n f) : VP n (pwF g l f i) := by
  intro k j hk hj
  unfold pwF
  by_cases e : k = 4 ∧ j < i ∧ j < l ∧ ¬ g j = -1000000005
  · rw [if_pos e]
    exact ⟨by omega, by omega, by omega, fun _ => cl7_ok _, by omega⟩
  · rw [if_neg e]; exact h k j hk hj
theorem s_pour {N : Nat} {ln : Nat → Nat} {S : HC} (h : PI N ln S) (a1 : Int32) : wpX7_pour ln S 0 a1 fun v S => wpX8_pour ln S 68 a1 fun w S => OK N ln v w S := by
  obtain ⟨⟨hs, hl, -, -⟩, ⟨⟨n, hn⟩, -⟩, -, -, hr, -⟩ := id h
  have h14 := hn.1
  unfold wpX7_pour
  rw [p_isSheet]
  by_cases c : 0 ≤ a1 ∧ a1 < 4
  · obtain ⟨i, hi, rfl⟩ := ge_of (n := 4) (by decide) c
    obtain ⟨⟨b1, b2⟩, ⟨l, l1, l2, l3⟩, b3⟩ := hr i hi
    rw [bI_t c, if_neg (by decide), sh0_6 hs, dn_e, ln41 hl, al_e hi (by decide), (rw_o hs hi).1, dn_e, p_isMissing, b1]
    by_cases c1 : hI S 82 i = -1
    · rw [bI_t c1, if_neg (by decide)]
      unfold wpX8_pour
      dsimp only
      rw [p_mSheet, shE, bI_t c, if_neg (by decide), sh68_24 hs, dn_e, ln82 hl, al_e hi (by decide), c1, if_neg (by decide)]
      exact ⟨rfl, h⟩
    rw [bI_f c1, if_pos rfl]
    have p0 : 0 ≤ hI S 82 i := by
      rcases b2 with e | e | e
      · exact absurd e c1
      · rw [e]; decide
      · rw [e]; decide
    obtain ⟨f, fe, ye, z, x1, x2, x3, x4, x5⟩ := hn.out
    generalize hg : (fun j => hI S 84 (24 * i + j)) = g
    have hgj : ∀ j, hI S 84 (24 * i + j) = g j := fun j => by rw [← hg]
    have kx : ∀ (post : Int32 → HC → Prop), (∀ S', XA S' 1 n (pwF g l f n) fe ye z → XS 1 S S' → post (nI (pwC g l f n)) S') → ∀ m j S', j + m = n → XA S' 1 n (pwF g l f j) fe ye z → XS 1 S S' → LX7_pour_32 ln post (m + 1) S' 0 (45 + 2 * i) (nI (pwC g l f j)) (nI j) := by
      intro post hp m
      induction m with
      | zero =>
        intro j S' hj hx hd
        rw [LX7_pour_32]
        dsimp only
        rw [sh0_0 (hd.sh hs), dn_e, lt_e, hx.1, if_pos (nI_le (by omega) (by omega))]
        have ej : j = n := by omega
        rw [ej] at hx ⊢
        exact hp S' hx hd
      | succ m ih =>
        intro j S' hj hx hd
        have hs' := hd.sh hs
        rw [LX7_pour_32]
        dsimp only
        unfold BX7_pour_98
        rw [sh0_0 hs', dn_e, lt_e, hx.1, if_neg (nI_ge (by omega) (by omega)), p_isNumber (l := l) (by rw [hd.1 _ _ (by omega)]; exact l2) l1 (rw_o hs' hi).2 (rw_n hl hi) (by omega), hd.1 _ _ (by omega), (b3 j (by omega)).1, hgj j]
        simp only [lt_e]
        rw [nI_1, nI_1]
        by_cases e1 : j < l ∧ ¬ g j = -1000000005
        · rw [bI_t e1, if_neg (by decide), (rw_o hs' hi).2, dn_e, rw_n hl hi, al_e (by omega) (by decide), hd.1 _ _ (by omega), (b3 j (by omega)).1, hgj j, p_xwithin (by decide), sh0_0 hs', dn_e, sh1_4 hs', dn_e, ln6 hl, al_e (by omega) (by decide), show hI S' 6 j = f 4 j from (hx.2.1 4 (by decide) j (by omega)).trans pwF_at]
          rw [show (if g j < 0 then (0 : Int32) else if 7 < g j then 7 else g j) = cl7 (g j) from rfl]
          by_cases e2 : cl7 (g j) = f 4 j
          · rw [if_pos e2]
            have k := ih (j + 1) S' (by omega) (hx.to (pwF_no (Or.inr e2))) hd
            rw [pwC, if_neg (fun u => u.2.2 e2), Nat.add_zero] at k
            exact k
          · rw [if_neg e2, dn_e, sh1_4 hs', dn_e, ln6 hl, as_e (by omega) (by decide)]
            have k := ih (j + 1) (sI S' 6 j (cl7 (g j))) (by omega) ((hx.pers (k := 4) (by decide)).to (pwF_yes e1.1 e1.2)) (hd.tr ⟨fun r k q => hI_row (by omega), hI_row (by decide), fun _ _ => rfl⟩)
            rw [pwC, if_pos ⟨e1.1, e1.2, e2⟩] at k
            exact k
        · rw [bI_f e1, if_pos rfl]
          have k := ih (j + 1) S' (by omega) (hx.to (pwF_no (Or.inl e1))) hd
          rw [pwC, if_neg (fun u => e1 ⟨u.1, u.2.1⟩), Nat.add_zero] at k
          exact k
    refine ⟨n + 1, kx _ (fun S1 hx1 hd1 => ?_) n 0 S (by omega) (x1.to (fun k _ j _ => by unfold pwF; rw [if_neg (by omega)])) (XS.rf _ _)⟩
    have hs1 := hd1.sh hs
    have m1 : MA S1 n f fe ye z := x2.ag h14 (fun k _ => hd1.1 _ _ (by omega))
    have r1 : ∀ r k, 82 ≤ r → hI S1 r k = hI S r k := fun r k q => hd1.1 _ _ (by omega)
    have km : ∀ (post : Int32 → HC → Prop), (∀ S', MA S' n (pwF g l f n) fe ye z → MS S1 S' → post (nI (pwC g l f n)) S') → ∀ m j S', j + m = n → MA S' n (pwF g l f j) fe ye z → MS S1 S' → LX8_pour_26 ln post (m + 1) S' 68 (nI i) (nI (pwC g l f j)) (nI j) := by
      intro post hp m
      induction m with
      | zero =>
        intro j S' hj hx hd
        have hs' := hd.sh hs1
        have ej : j = n := by omega
        subst ej
        rw [LX8_pour_26]
        dsimp only
        unfold BX8_pour_118
        rw [sh68_25 hs', dn_e, ln83 hl, al_e hi (by decide), hd.1 _ _ (by decide), r1 _ _ (by decide), l3]
        by_cases e0 : l ≤ j
        · rw [if_pos (nI_le (by omega) (by omega))]; exact hp S' hx hd
        · rw [if_neg (nI_ge (by omega) (by omega)), sh68_0 hs', dn_e, ln69 hl, al_l1 (by decide) (by decide), hx.1, if_pos (nI_le (by omega) (by omega))]; exact hp S' hx hd
      | succ m ih =>
        intro j S' hj hx hd
        have hs' := hd.sh hs1
        rw [LX8_pour_26]
        dsimp only
        unfold BX8_pour_118 BX8_pour_83 BX8_pour_110
        rw [sh68_25 hs', dn_e, ln83 hl, al_e hi (by decide), hd.1 _ _ (by decide), r1 _ _ (by decide), l3]
        by_cases e0 : l ≤ j
        · rw [if_pos (nI_le (by omega) (by omega))]
          have k := hp S' (hx.to (pwF_ge e0 (by omega))) hd
          rw [show n = j + (m + 1) by omega, pwC_ge e0] at k
          exact k
        rw [if_neg (nI_ge (by omega) (by omega)), sh68_0 hs', dn_e, ln69 hl, al_l1 (by decide) (by decide), hx.1, if_neg (nI_ge (by omega) (by omega)), sh68_26 hs', dn_e]
        simp only [lt_e]
        rw [show (24 : Int32) * nI i = nI (24 * i) from pk_mul 24 i, nI_add, ln84 hl, al_e (by omega) (by decide), hd.1 _ _ (by decide), r1 _ _ (by decide), hgj j, p_of4 hs' hl (by omega), hx.2.1 4 (by decide) j (by omega), pwF_at, p_mwithin, show (6 : Int32) * nI j = nI (6 * j) from pk_mul 6 j, show (5 : Int32) + nI (6 * j) = nI (5 + 6 * j) from nI_add 5 (6 * j), show nI (5 + 6 * j) + (4 : Int32) = nI (5 + 6 * j + 4) from nI_add _ 4, p_becomes hs' hl (by omega), p_becomes hs' hl (by omega), show hI S' 69 (5 + 6 * j + 4) = f 4 j from (hx.2.1 4 (by decide) j (by omega)).trans pwF_at, nI_1, nI_1, show nI (pwC g l f j) + 0 = nI (pwC g l f j + 0) from nI_add _ 0, Nat.add_zero]
        rw [show (if g j < 0 then (0 : Int32) else if 7 < g j then 7 else g j) = cl7 (g j) from rfl]
        by_cases e1 : g j = -1000000005
        · rw [if_pos e1, if_pos rfl]
          have k := ih (j + 1) (sI S' 69 (5 + 6 * j + 4) (f 4 j)) (by omega) (((hx.pers (k := 4) (by decide)).to (fun a _ c _ => by
            unfold set1
            by_cases u : a = 4 ∧ c = j
            · rw [if_pos u, u.1, u.2, pwF_at]
            · rw [if_neg u])).to (pwF_no (Or.inl (fun u => u.2 e1)))) (hd.tr (MS.fld (by omega)))
          rw [pwC, if_neg (fun u => u.2.1 e1), Nat.add_zero] at k
          exact k
        · rw [if_neg e1]
          have k := ih (j + 1) (sI S' 69 (5 + 6 * j + 4) (cl7 (g j))) (by omega) ((hx.pers (k := 4) (by decide)).to (pwF_yes (by omega) e1)) (hd.tr (MS.fld (by omega)))
          by_cases e2 : cl7 (g j) = f 4 j
          · rw [if_pos e2.symm]
            rw [pwC, if_neg (fun u => u.2.2 e2), Nat.add_zero] at k
            exact k
          · rw [if_neg (fun u => e2 u.symm)]
            rw [pwC, if_pos ⟨by omega, e1, e2⟩] at k
            exact k
    unfold wpX8_pour
    dsimp only
    rw [p_mSheet, shE, bI_t c, if_neg (by decide), sh68_24 hs1, dn_e, ln82 hl, al_e hi (by decide), r1 _ _ (by decide), if_pos p0]
    exact ⟨n + 1, km _ (fun S2 hx2 hd2 => ⟨rfl, h.both hd1 hd2 (LR.of h14 (hx1.ag (fun r k q1 q2 => hd2.1 r k (by omega))) hx2 (pwF_ok x3) x4 x5)⟩) n 0 S1 (by omega) (m1.to (fun k _ j _ => by unfold pwF; rw [if_neg (by omega)])) (MS.rf _)⟩
  · rw [bI_f c, if_pos rfl]
    unfold wpX8_pour
    dsimp only
    rw [p_mSheet, shE, bI_f c, if_pos rfl]
    exact ⟨rfl, h⟩
-- 36.play.lean.txt
/-! steps: something laid into a slot; a row copied -/
theorem lay_end {N : Nat} {ln : Nat → Nat} {S S4 : HC} {i : Nat} (h : PI N ln S) (hi : i < 5) (hr : ∀ r k, hR S4 r k = hR S r k) (ho : ∀ r k, ¬ (r = 53 + 3 * i ∨ r = 54 + 3 * i ∨ r = 55 + 3 * i ∨ ((r = 85 ∨ r = 86 ∨ r = 87) ∧ k = i) ∨ (r = 88 ∧ 24 * i ≤ k ∧ k < 24 * i + 24)) → hI S4 r k = hI S r k) (hq : hI S4 (53 + 3 * i) 0 = hI S4 85 i ∧ ((hI S4 85 i = 0) ∨ (hI S4 85 i = 1 ∧ hI S4 (53 + 3 * i) 1 = hI S4 86 i ∧ (∃ c, c < 6 ∧ hI S4 86 i = nI c) ∧ hI S4 87 i = wrth (hI S4 86 i) (hI S4 (53 + 3 * i) 2)) ∨ (hI S4 85 i = 2 ∧ (∃ l, l ≤ 24 ∧ hI S4 (54 + 3 * i) 1 = nI l ∧ hI S4 86 i = nI l) ∧ ∀ j, j < 24 → hI S4 (55 + 3 * i) j = hI S4 88 (24 * i + j)) ∨ (hI S4 85 i = 3 ∧ hI S4 (53 + 3 * i) 3 = hI S4 86 i))) : PI N ln S4 := by
  refine h.slt hr (fun r k q => ho r k (by omega)) (fun t ht => ?_)
  by_cases e : t = i
  · rw [e]; exact hq
  · have a := h.2.2.2.2.2.1 t ht
    have e1 : ∀ j, hI S4 (55 + 3 * t) j = hI S (55 + 3 * t) j := fun j => ho _ _ (by omega)
    have e2 : ∀ j, j < 24 → hI S4 88 (24 * t + j) = hI S 88 (24 * t + j) := fun j hj => ho _ _ (by omega)
    rw [ho (53 + 3 * t) 0 (by omega), ho (53 + 3 * t) 1 (by omega), ho (53 + 3 * t) 2 (by omega), ho (53 + 3 * t) 3 (by omega), ho (54 + 3 * t) 1 (by omega), ho 85 t (by omega), ho 86 t (by omega), ho 87 t (by omega)]
    refine ⟨a.1, a.2.imp id (fun b => b.imp id (fun b => b.imp (fun b => ⟨b.1, b.2.1, fun j hj => ?_⟩) id))⟩
    rw [e1 j, e2 j hj]
    exact b.2.2 j hj
theorem p_rowBecome {ln : Nat → Nat} {S : HC} {i t : Nat} {post : HC → Prop} (hs : SH S) (hl : LN ln) (hi : i < 5) (ht : t < 4) (h : ∀ S', Fl (sI (sI S (54 + 3 * i) 0 (hI S (45 + 2 * t) 0)) (54 + 3 * i) 1 (hI S (45 + 2 * t) 1)) S' (55 + 3 * i) 0 24 (fun j => hI S (46 + 2 * t) j) → post S') : wpX3_become ln S (54 + 3 * i) (45 + 2 * t) post := by
  unfold wpX3_become
  simp only [lt_e]
  rw [hI_row (show 45 + 2 * t ≠ 54 + 3 * i by omega)]
  generalize hS0 : sI (sI S (54 + 3 * i) 0 (hI S (45 + 2 * t) 0)) (54 + 3 * i) 1 (hI S (45 + 2 * t) 1) = S0 at h
  have hs0 : SH S0 := by rw [← hS0]; exact hs
  have e0 : ∀ j, hI S0 (46 + 2 * t) j = hI S (46 + 2 * t) j := fun j => by rw [← hS0, hI_row (by omega), hI_row (by omega)]
  have key : ∀ m j S', j + m = 24 → Fl S0 S' (55 + 3 * i) 0 j (fun j => hI S (46 + 2 * t) j) → LX3_become_18 ln post (m + 1) S' (54 + 3 * i) (45 + 2 * t) (nI j) := by
    intro m
    induction m with
    | zero =>
      intro j S' hj hF
      rw [LX3_become_18]
      dsimp only
      rw [if_pos (show (24 : Int32) ≤ nI j from nI_le (a := 24) (by omega) (by omega))]
      have ej : j = 24 := by omega
      rw [ej] at hF
      exact h S' hF
    | succ m ih =>
      intro j S' hj hF
      rw [LX3_become_18]
      dsimp only
      rw [if_neg (show ¬ (24 : Int32) ≤ nI j from nI_ge (b := 24) (by omega) (by decide)), (sl_o (hF.sh hs0) hi).2.2, dn_e, (rw_o (hF.sh hs0) ht).2, dn_e, rw_n hl ht, al_e (by omega) (by decide), sl_n hl hi, as_e (by omega) (by decide), lt_e, nI_1]
      exact ih (j + 1) _ (by omega) (hF.step (by omega) (by rw [hF.o (by omega), e0]))
  exact ⟨25, key 24 0 S0 (by omega) (Fl.rf _ _ _ _)⟩
theorem p_mlay2 {ln : Nat → Nat} {S : HC} {i t : Nat} {x4 : Int32} {post : Int32 → HC → Prop} (hs : SH S) (hl : LN ln) (hi : i < 5) (ht : t < 4) (h : ∀ S', Fl S S' 88 (24 * i) (24 * i + 24) (fun b => hI S 84 (24 * t + (b - 24 * i))) → post x4 S') : ∃ n, LX8_lay_134 ln post n S 68 (nI i) 2 (nI t) x4 0 := by
  have key : ∀ m j S', j + m = 24 → Fl S S' 88 (24 * i) (24 * i + j) (fun b => hI S 84 (24 * t + (b - 24 * i))) → LX8_lay_134 ln post (m + 1) S' 68 (nI i) 2 (nI t) x4 (nI j) := by
    intro m
    induction m with
    | zero =>
      intro j S' hj hF
      rw [LX8_lay_134]
      dsimp only
      unfold BX8_lay_176
      rw [if_pos (show (24 : Int32) ≤ nI j from nI_le (a := 24) (by omega) (by omega))]
      have ej : j = 24 := by omega
      rw [ej] at hF
      exact h S' hF
    | succ m ih =>
      intro j S' hj hF
      rw [LX8_lay_134]
      dsimp only
      rw [if_neg (show ¬ (24 : Int32) ≤ nI j from nI_ge (b := 24) (by omega) (by decide)), if_pos (by decide), sh68_30 (hF.sh hs), sh68_26 (hF.sh hs)]
      simp only [dn_e, lt_e]
      rw [show (24 : Int32) * nI i = nI (24 * i) from pk_mul 24 i, show (24 : Int32) * nI t = nI (24 * t) from pk_mul 24 t, nI_add, nI_add, ln84 hl, al_e (by omega) (by decide), ln88 hl, as_e (by omega) (by decide), nI_1]
      exact ih (j + 1) _ (by omega) (hF.step (by omega) (by rw [hF.o (by decide), show 24 * i + j - 24 * i = j by omega]))
  exact ⟨25, key 24 0 S (by omega) (Fl.rf _ _ _ _)⟩
theorem p_mlay0 {ln : Nat → Nat} {S : HC} {x1 x2 x3 x4 : Int32} {post : Int32 → HC → Prop} (h2 : ¬ x2 = 2) (h : post x4 S) : ∃ n, LX8_lay_134 ln post n S 68 x1 x2 x3 x4 0 := by
  refine ⟨1, ?_⟩
  rw [LX8_lay_134]
  dsimp only
  unfold BX8_lay_176
  rw [if_neg (by decide), if_neg h2]
  exact h
theorem s_lay {N : Nat} {ln : Nat → Nat} {S : HC} (h : PI N ln S) (a1 a2 a3 : Int32) : wpX7_lay ln S 0 a1 a2 a3 fun v S => wpX8_lay ln S 68 a1 a2 a3 fun w S => OK N ln v w S := by
  obtain ⟨⟨hs, hl, -, -⟩, ⟨⟨n, hn⟩, -⟩, -, -, hr, hsl, -⟩ := id h
  have h14 := hn.1
  unfold wpX7_lay BX7_lay_16 BX7_lay_47 BX7_lay_35 BX7_lay_50 BX7_lay_70 BX7_lay_155 BX7_lay_47
  rw [p_isSlot]
  by_cases c : 0 ≤ a1 ∧ a1 < 5
  · obtain ⟨i, hi, rfl⟩ := ge_of (n := 5) (by decide) c
    obtain ⟨q1, -⟩ := hsl i hi
    rw [bI_t c, if_neg (by decide)]
    have no : ¬ (0 ≤ a2 ∧ a2 < 4) → wpX8_lay ln S 68 (nI i) a2 a3 fun w S => OK N ln (-1000000001) w S := fun q => by
      unfold wpX8_lay BX8_lay_41
      dsimp only
      rw [p_mSlot, slE, bI_t c, if_neg (by decide), p_in, shE, bI_f q, if_pos rfl]
      exact ⟨rfl, h⟩
    by_cases c1 : a2 < 0
    · rw [if_pos c1]; exact no (fun q => absurd c1 (Int32.not_lt.mpr q.1))
    rw [if_neg c1]
    by_cases c2 : a2 ≤ 3
    · rw [if_pos c2]
      obtain ⟨s, hs4, rfl⟩ := nI_of2 (n := 3) (M := 3) (x := a2) rfl c1 c2
      have ks : bI (0 ≤ nI s ∧ nI s < 4) = 1 := bI_t ⟨nI_pos' (by omega), show nI s < 4 from nI_lt (b := 4) (by omega) (by decide)⟩
      by_cases s1 : s = 1
      · subst s1
        rw [if_pos (by decide), sh0_0 hs, dn_e, p_has]
        rcases i_in a3 n (by omega) with ⟨j, hj, rfl⟩ | hx
        · rw [hasT hn.2.1 h14 hj, if_neg (by decide), if_neg (by decide), if_neg (by decide)]
          simp only [hR_sI, sh0_7 hs, sh0_0 hs, sh1_0 hs, sh1_4 hs, dn_e, lt_e, ln42 hl, ln2 hl, ln6 hl, al_e (i := i) (n := 5) hi (by decide), (sl_o hs hi).1, al_e (i := j) (n := 14) (show j < 14 by omega) (by decide)]
          rw [if_pos (by decide), hI_row (show 6 ≠ 53 + 3 * i by omega), hI_row (show 6 ≠ 53 + 3 * i by omega), hI_row (show 2 ≠ 53 + 3 * i by omega), show hI S 2 j = mf S 69 0 j from hn.2.2.2.1 0 (by decide) j hj, show hI S 6 j = mf S 69 4 j from hn.2.2.2.1 4 (by decide) j hj, q1]
          generalize hS1 : sI (sI (sI S (53 + 3 * i) 0 (nI 1)) (53 + 3 * i) 1 (mf S 69 0 j)) (53 + 3 * i) 2 (mf S 69 4 j) = S1
          have hs1 : SH S1 := by rw [← hS1]; exact hs
          have e1 : ∀ r k, r ≠ 53 + 3 * i → hI S1 r k = hI S r k := fun r k q => by rw [← hS1, hI_row q, hI_row q, hI_row q]
          unfold wpX8_lay BX8_lay_29 BX8_lay_44 BX8_lay_61 BX8_lay_110 BX8_lay_130
          simp only [p_mSlot, slE, bI_t c, p_in, shE, ks, p_isOne hs1 hl]
          rw [if_neg (by decide), if_neg (by decide), if_pos (by decide), oneT (n := n) (by rw [e1 _ _ (by omega)]; exact hn.2.2.1) h14 hj, if_neg (by decide), if_neg (by decide), if_neg (by decide), sh68_27 hs1, dn_e, ln85 hl, al_e hi (by decide), dn_e, ln85 hl, as_e hi (by decide), sh68_28 (hs1.sI _ _ _), dn_e, if_pos (by decide), p_of0 (hs1.sI _ _ _) hl (by omega), ln86 hl, as_e hi (by decide), sh68_29 ((hs1.sI _ _ _).sI _ _ _), dn_e, if_pos (by decide), p_mworth ((hs1.sI _ _ _).sI _ _ _) hl (by omega), ln87 hl, as_e hi (by decide)]
          have f1 : ∀ k, mf (sI S1 85 i (nI 1)) 69 k j = mf S 69 k j := fun k => by unfold mf; rw [hI_row (by decide), e1 _ _ (by omega)]
          have f2 : ∀ k v, mf (sI (sI S1 85 i (nI 1)) 86 i v) 69 k j = mf S 69 k j := fun k v => by unfold mf; rw [hI_row (by decide), hI_row (by decide), e1 _ _ (by omega)]
          rw [f1, f2, f2]
          refine p_mlay0 (by decide) ⟨(e1 _ _ (by omega)).symm, lay_end h hi (fun r k => by rw [hR_sI, hR_sI, hR_sI, ← hS1]; rfl) (fun r k q => by rw [hI_ne (by omega), hI_ne (by omega), hI_ne (by omega), e1 _ _ (by omega)]) ⟨?_, Or.inr (Or.inl ⟨?_, ?_, ?_, ?_⟩)⟩⟩
          · rw [hI_row (by omega), hI_row (by omega), hI_row (by omega), hI_row (by decide), hI_row (by decide), hI_self, ← hS1, hI_ne (by omega), hI_ne (by omega), hI_self]
          · rw [hI_row (by decide), hI_row (by decide), hI_self]; rfl
          · rw [hI_row (by omega), hI_row (by omega), hI_row (by omega), hI_row (by decide), hI_self, ← hS1, hI_ne (by omega), hI_self]
          · rw [hI_row (by decide), hI_self]; exact hn.2.2.2.2.1.kind hj
          · rw [hI_self, hI_row (by decide), hI_self, hI_row (by omega), hI_row (by omega), hI_row (by omega), ← hS1, hI_self]
        · rw [hasF hn.2.1 hx, if_pos rfl]
          unfold wpX8_lay BX8_lay_41
          dsimp only
          rw [p_mSlot, slE, bI_t c, if_neg (by decide), p_in, shE, ks, if_neg (by decide), if_pos (by decide), p_isOne hs hl, oneF hn.2.2.1 h14 hx, if_pos rfl]
          exact ⟨rfl, h⟩
      have t1 : ¬ nI s = 1 := fun q => s1 ((nI_eq (b := 1) (by omega) (by decide)).mp q)
      rw [if_neg t1]
      by_cases s2 : s = 2
      · subst s2
        rw [if_pos (by decide), p_isSheet]
        by_cases d : 0 ≤ a3 ∧ a3 < 4
        · obtain ⟨t, ht, rfl⟩ := ge_of (n := 4) (by decide) d
          obtain ⟨⟨b1, b2⟩, ⟨l, l1, l2, l3⟩, b3⟩ := hr t ht
          rw [bI_t d, if_neg (by decide), if_pos (by decide), sh0_6 hs, dn_e, ln41 hl, al_e ht (by decide), (rw_o hs ht).1, dn_e, p_isMissing, b1]
          by_cases d1 : hI S 82 t = -1
          · rw [bI_t d1, if_neg (by decide)]
            unfold wpX8_lay BX8_lay_29 BX8_lay_44
            dsimp only
            rw [p_mSlot, slE, bI_t c, if_neg (by decide), p_in, shE, ks, if_neg (by decide), if_neg (by decide), if_pos (by decide), p_mSheet, shE, bI_t d, if_neg (by decide), if_pos (by decide), sh68_24 hs, dn_e, ln82 hl, al_e ht (by decide), d1, if_neg (by decide)]
            exact ⟨rfl, h⟩
          have p0 : 0 ≤ hI S 82 t := by
            rcases b2 with e | e | e
            · exact absurd e d1
            · rw [e]; decide
            · rw [e]; decide
          rw [bI_f d1, if_pos rfl]
          simp only [hR_sI, sh0_7 hs, sh0_6 hs, dn_e, lt_e, ln42 hl, ln41 hl, al_e (i := i) (n := 5) hi (by decide), (sl_o hs hi).1, (sl_o hs hi).2.1, al_e (i := t) (n := 4) ht (by decide), (rw_o hs ht).1]
          rw [if_neg (by decide), if_pos (by decide), q1]
          refine p_rowBecome (hs.sI _ _ _) hl hi ht (fun S1 f1 => ?_)
          have hs1 : SH S1 := f1.sh (((hs.sI _ _ _).sI _ _ _).sI _ _ _)
          have e1 : ∀ r k, r ≠ 53 + 3 * i → r ≠ 54 + 3 * i → r ≠ 55 + 3 * i → hI S1 r k = hI S r k := fun r k u1 u2 u3 => by rw [f1.o u3, hI_row u2, hI_row u2, hI_row u1]
          unfold wpX8_lay BX8_lay_29 BX8_lay_44 BX8_lay_61 BX8_lay_110 BX8_lay_130
          dsimp only
          rw [p_mSlot, slE, bI_t c, if_neg (by decide), p_in, shE, ks, if_neg (by decide), if_neg (by decide), if_pos (by decide), p_mSheet, shE, bI_t d, if_neg (by decide), if_pos (by decide), sh68_24 hs1, dn_e, ln82 hl, al_e ht (by decide), e1 82 t (by omega) (by omega) (by omega), if_pos p0, sh68_27 hs1, dn_e, ln85 hl, al_e hi (by decide), dn_e, ln85 hl, as_e hi (by decide), sh68_28 (hs1.sI _ _ _), dn_e, if_neg (by decide), if_pos (by decide), sh68_25 (hs1.sI _ _ _), dn_e, ln83 hl, al_e ht (by decide), ln86 hl, as_e hi (by decide), sh68_29 ((hs1.sI _ _ _).sI _ _ _), dn_e, if_neg (by decide), ln87 hl, as_e hi (by decide)]
          rw [hI_row (show 83 ≠ 85 by decide), e1 83 t (by omega) (by omega) (by omega), l3]
          refine p_mlay2 (((hs1.sI _ _ _).sI _ _ _).sI _ _ _) hl hi ht (fun S4 f4 => ⟨(e1 _ _ (by omega) (by omega) (by omega)).symm, lay_end h hi (fun r k => by rw [f4.2, hR_sI, hR_sI, hR_sI, f1.2]; rfl) (fun r k q => ?_) ⟨?_, Or.inr (Or.inr (Or.inl ⟨?_, ⟨l, l1, ?_, ?_⟩, fun j hj => ?_⟩))⟩⟩)
          · by_cases e8 : r = 88
            · rw [f4.x (by omega), hI_ne (by omega), hI_ne (by omega), hI_ne (by omega), e1 _ _ (by omega) (by omega) (by omega)]
            · rw [f4.o e8, hI_ne (by omega), hI_ne (by omega), hI_ne (by omega), e1 _ _ (by omega) (by omega) (by omega)]
          · rw [f4.o (by omega), f4.o (by decide), hI_row (by omega), hI_row (by omega), hI_row (by omega), hI_row (by decide), hI_row (by decide), hI_self, f1.o (by omega), hI_row (by omega), hI_row (by omega), hI_self]
          · rw [f4.o (by decide), hI_row (by decide), hI_row (by decide), hI_self]; rfl
          · rw [f4.o (by omega), hI_row (by omega), hI_row (by omega), hI_row (by omega), f1.o (by omega), hI_self, hI_row (by omega)]; exact l2
          · rw [f4.o (by decide), hI_row (by decide), hI_self]
          · rw [f4.o (by omega), hI_row (by omega), hI_row (by omega), hI_row (by omega), f1.i (by omega) hj, f4.i (by omega) (by omega), hI_row (by omega), hI_row (by decide), hI_row (by decide), hI_row (by decide), e1 _ _ (by omega) (by omega) (by omega), (b3 j hj).1, show 24 * i + j - 24 * i = j by omega]
        · rw [bI_f d, if_pos rfl]
          unfold wpX8_lay BX8_lay_29 BX8_lay_41
          dsimp only
          rw [p_mSlot, slE, bI_t c, if_neg (by decide), p_in, shE, ks, if_neg (by decide), if_neg (by decide), if_pos (by decide), p_mSheet, shE, bI_f d, if_pos rfl]
          exact ⟨rfl, h⟩
      have t2 : ¬ nI s = 2 := fun q => s2 ((nI_eq (b := 2) (by omega) (by decide)).mp q)
      rw [if_neg t2, if_neg t2]
      simp only [hR_sI, sh0_7 hs, dn_e, lt_e, ln42 hl, al_e (i := i) (n := 5) hi (by decide), (sl_o hs hi).1]
      rw [if_neg t1, if_neg t2, q1]
      generalize hS1 : sI (sI S (53 + 3 * i) 0 (nI s)) (53 + 3 * i) 3 a3 = S1
      have hs1 : SH S1 := by rw [← hS1]; exact hs
      have e1 : ∀ r k, r ≠ 53 + 3 * i → hI S1 r k = hI S r k := fun r k q => by rw [← hS1, hI_row q, hI_row q]
      unfold wpX8_lay BX8_lay_29 BX8_lay_44 BX8_lay_61 BX8_lay_110 BX8_lay_130
      dsimp only
      rw [p_mSlot, slE, bI_t c, if_neg (by decide), p_in, shE, ks, if_neg (by decide), if_neg t1, if_neg t2, if_neg t2, sh68_27 hs1, dn_e, ln85 hl, al_e hi (by decide), dn_e, ln85 hl, as_e hi (by decide), sh68_28 (hs1.sI _ _ _), dn_e, if_neg t1, if_neg t2, ln86 hl, as_e hi (by decide), sh68_29 ((hs1.sI _ _ _).sI _ _ _), dn_e, if_neg t1, ln87 hl, as_e hi (by decide)]
      refine p_mlay0 t2 ⟨(e1 _ _ (by omega)).symm, lay_end h hi (fun r k => by rw [hR_sI, hR_sI, hR_sI, ← hS1]; rfl) (fun r k q => by rw [hI_ne (by omega), hI_ne (by omega), hI_ne (by omega), e1 _ _ (by omega)]) ?_⟩
      have r0 : hI (sI (sI (sI S1 85 i (nI s)) 86 i a3) 87 i 0) 85 i = nI s := by rw [hI_row (by decide), hI_row (by decide), hI_self]
      rw [r0]
      refine ⟨?_, ?_⟩
      · rw [hI_row (by omega), hI_row (by omega), hI_row (by omega), ← hS1, hI_ne (by omega), hI_self]
      · rcases (show s = 0 ∨ s = 3 by omega) with rfl | rfl
        · exact Or.inl rfl
        · refine Or.inr (Or.inr (Or.inr ⟨rfl, ?_⟩))
          rw [hI_row (by omega), hI_row (by omega), hI_row (by omega), hI_row (by decide), hI_self, ← hS1, hI_self]
    · rw [if_neg c2]; exact no (fun q => c2 (by have := q.2; simp only [i_le, i_lt] at *; have : (4 : Int32).toInt = 4 := rfl; have : (3 : Int32).toInt = 3 := rfl; omega))
  · rw [bI_f c, if_pos rfl]
    unfold wpX8_lay BX8_lay_41
    dsimp only
    rw [p_mSlot, slE, bI_f c, if_pos rfl]
    exact ⟨rfl, h⟩
-- 37.pcopy.lean.txt
/-! step: places of a row copied into a row -/
abbrev spn (x y : Int32) (l : Nat) : Prop := 0 ≤ x ∧ 0 ≤ y ∧ x.toInt + y.toInt ≤ (l : Int)
theorem z0i : (0 : Int32).toInt = 0 := rfl
theorem spn_out {x y : Int32} {l : Nat} (h : spn x y l) : ∃ p c, x = nI p ∧ y = nI c ∧ p + c ≤ l := by
  obtain ⟨h1, h2, h3⟩ := h
  rw [i_le, z0i] at h1 h2
  exact ⟨x.toInt.toNat, y.toInt.toNat, i_of (by omega), i_of (by omega), by omega⟩
theorem sub_ti {y : Int32} {l : Nat} (hl : l < 2 ^ 31) (hy : 0 ≤ y) : (nI l - y).toInt = (l : Int) - y.toInt := by
  have h2 := hy
  rw [i_le, z0i] at h2
  have r := (i_rng y).2
  rw [Int32.toInt_sub, nI_toInt hl]
  apply Int.bmod_eq_of_le <;> omega
theorem p_hasSpan {ln : Nat → Nat} {S : HC} {r l : Nat} {x y : Int32} {post : Int32 → HC → Prop} (hl : hI S r 1 = nI l) (h24 : l ≤ 24) : wpX3_hasSpan ln S r x y post = post (bI (spn x y l)) S := by
  unfold wpX3_hasSpan BX3_hasSpan_30
  simp only [rb_e0, rb_e1, lt_e, hl]
  by_cases h1 : x < 0
  · rw [if_pos h1, bI_f (fun q => absurd h1 (Int32.not_lt.mpr q.1))]
  rw [if_neg h1]
  by_cases h2 : y < 0
  · rw [if_pos h2, bI_f (fun q => absurd h2 (Int32.not_lt.mpr q.2.1))]
  rw [if_neg h2]
  have g1 := Int32.not_lt.mp h1
  have g2 := Int32.not_lt.mp h2
  have k1 := g1
  have k2 := g2
  rw [i_le, z0i] at k1 k2
  have e := sub_ti (l := l) (by omega) g2
  by_cases h3 : nI l < y
  · rw [if_pos h3, bI_f (fun q => by
      have := q.2.2
      rw [i_lt, nI_toInt (by omega)] at h3
      omega)]
  rw [if_neg h3]
  by_cases h4 : nI l - y < x
  · rw [if_pos h4, bI_f (fun q => by
      have := q.2.2
      rw [i_lt, e] at h4
      omega)]
  · rw [if_neg h4, bI_t ⟨g1, g2, by rw [i_lt, e] at h4; omega⟩]
theorem p_cp {ln : Nat → Nat} {S : HC} {r1 r2 p q c : Nat} {K : HC → Prop} (h1 : ln r1 = 24) (h2 : ln r2 = 24) (hp : p + c ≤ 24) (hq : q + c ≤ 24) (h : K (sC S r1 p r2 q c)) : cp_ ln S r1 (nI p) r2 (nI q) (nI c) K := by
  unfold cp_
  rw [nI_clamp (by omega), nI_clamp (by omega), nI_clamp (by omega), h1, h2]
  exact ⟨⟨nI_pos (by omega), nI_pos (by omega), nI_pos (by omega)⟩, ⟨hp, hq⟩, h⟩
theorem p_mcp1 {ln : Nat → Nat} {S : HC} {b q c : Nat} {post : Int32 → HC → Prop} (hs : SH S) (hl : LN ln) (hb : b < 4) (hq : q + c ≤ 24) (h : ∀ S', Fl S S' 84 (24 * b + q) (24 * b + q + c) (fun k => hI S 89 (k - (24 * b + q))) → post (nI c) S') : ∃ n, LX8_copy_141 ln post n S 68 (nI b) (nI q) (nI c) 0 := by
  have key : ∀ m j S', j + m = c → Fl S S' 84 (24 * b + q) (24 * b + q + j) (fun k => hI S 89 (k - (24 * b + q))) → LX8_copy_141 ln post (m + 1) S' 68 (nI b) (nI q) (nI c) (nI j) := by
    intro m
    induction m with
    | zero =>
      intro j S' hj hF
      rw [LX8_copy_141]
      dsimp only
      rw [if_pos (nI_le (by omega) (by omega))]
      have ej : j = c := by omega
      rw [ej] at hF
      exact h S' hF
    | succ m ih =>
      intro j S' hj hF
      rw [LX8_copy_141]
      dsimp only
      rw [if_neg (nI_ge (by omega) (by omega)), sh68_26 (hF.sh hs), sh68_31 (hF.sh hs)]
      simp only [dn_e, lt_e]
      rw [show (24 : Int32) * nI b = nI (24 * b) from pk_mul 24 b, nI_add, nI_add, ln89 hl, al_e (by omega) (by decide), ln84 hl, as_e (by omega) (by decide), nI_1]
      exact ih (j + 1) _ (by omega) (hF.step (by omega) (by rw [hF.o (by decide), show 24 * b + q + j - (24 * b + q) = j by omega]))
  exact ⟨c + 1, key c 0 S (by omega) (Fl.rf _ _ _ _)⟩
theorem p_mcp0 {ln : Nat → Nat} {S : HC} {a b p q c : Nat} {post : Int32 → HC → Prop} (hs : SH S) (hl : LN ln) (ha : a < 4) (hp : p + c ≤ 24) (h : ∀ S', Fl S S' 89 0 c (fun j => hI S 84 (24 * a + p + j)) → ∃ n, LX8_copy_141 ln post n S' 68 (nI b) (nI q) (nI c) 0) : ∃ n, LX8_copy_104 ln post n S 68 (nI a) (nI p) (nI b) (nI q) (nI c) 0 := by
  have key : ∀ m j S', j + m = c → Fl S S' 89 0 j (fun j => hI S 84 (24 * a + p + j)) → LX8_copy_104 ln post (m + 1) S' 68 (nI a) (nI p) (nI b) (nI q) (nI c) (nI j) := by
    intro m
    induction m with
    | zero =>
      intro j S' hj hF
      rw [LX8_copy_104]
      dsimp only
      rw [if_pos (nI_le (by omega) (by omega))]
      have ej : j = c := by omega
      rw [ej] at hF
      exact h S' hF
    | succ m ih =>
      intro j S' hj hF
      rw [LX8_copy_104]
      dsimp only
      rw [if_neg (nI_ge (by omega) (by omega)), sh68_26 (hF.sh hs), sh68_31 (hF.sh hs)]
      simp only [dn_e, lt_e]
      rw [show (24 : Int32) * nI a = nI (24 * a) from pk_mul 24 a, nI_add, nI_add, ln84 hl, al_e (by omega) (by decide), ln89 hl, as_e (by omega) (by decide), nI_1]
      exact ih (j + 1) _ (by omega) (hF.step (by omega) (by rw [hF.o (by decide)]))
  exact ⟨c + 1, key c 0 S (by omega) (Fl.rf _ _ _ _)⟩
theorem s_copy {N : Nat} {ln : Nat → Nat} {S : HC} (h : PI N ln S) (a1 a2 a3 a4 a5 : Int32) : wpX7_copy ln S 0 a1 a2 a3 a4 a5 fun v S => wpX8_copy ln S 68 a1 a2 a3 a4 a5 fun w S => OK N ln v w S := by
  obtain ⟨⟨hs, hl, -, -⟩, -, -, -, hr, -⟩ := id h
  unfold wpX7_copy BX7_copy_14 BX7_copy_49 BX7_copy_91
  rw [p_isSheet]
  by_cases c : 0 ≤ a1 ∧ a1 < 4
  · obtain ⟨a, ha, rfl⟩ := ge_of (n := 4) (by decide) c
    obtain ⟨⟨b1, b2⟩, ⟨l, l1, l2, l3⟩, b3⟩ := hr a ha
    rw [bI_t c, if_neg (by decide), p_isSheet]
    by_cases d : 0 ≤ a3 ∧ a3 < 4
    · obtain ⟨b, hb, rfl⟩ := ge_of (n := 4) (by decide) d
      obtain ⟨⟨e1, e2⟩, ⟨k, k1, k2, k3⟩, e3⟩ := hr b hb
      rw [bI_t d, if_neg (by decide)]
      simp only [sh0_6 hs, dn_e, ln41 hl, al_e (i := a) (n := 4) ha (by decide), al_e (i := b) (n := 4) hb (by decide), (rw_o hs ha).1, (rw_o hs hb).1, p_isMissing, b1, e1, lt_e]
      have p0 : ∀ t, t < 4 → (¬ hI S 82 t = -1) → ¬ hI S 82 t < 0 := fun t ht q => by
        rcases (hr t ht).1.2 with e | e | e
        · exact absurd e q
        · rw [e]; decide
        · rw [e]; decide
      have mm : ∀ (S1 : HC) (v : Int32), SH S1 → (∀ r k, 82 ≤ r → hI S1 r k = hI S r k) → ((hI S 82 a = -1 ∨ hI S 82 b = -1) → OK N ln v (-1000000011) S1) → (¬ hI S 82 a = -1 → ¬ hI S 82 b = -1 → ¬ hI S 82 a = hI S 82 b → OK N ln v (-1000000012) S1) → (¬ hI S 82 a = -1 → ¬ hI S 82 b = -1 → hI S 82 a = hI S 82 b → ¬ (spn a2 a5 l ∧ spn a4 a5 k) → OK N ln v (-1000000013) S1) → (∀ p q c, ¬ hI S 82 a = -1 → ¬ hI S 82 b = -1 → hI S 82 a = hI S 82 b → a2 = nI p → a4 = nI q → a5 = nI c → p + c ≤ l → q + c ≤ k → ∃ n, LX8_copy_104 ln (fun w S => OK N ln v w S) n S1 68 (nI a) (nI p) (nI b) (nI q) (nI c) 0) → wpX8_copy ln S1 68 (nI a) a2 (nI b) a4 a5 fun w S => OK N ln v w S := fun S1 v hs1 r1 v1 v2 v3 v4 => by
        unfold wpX8_copy BX8_copy_14 BX8_copy_35 BX8_copy_97
        simp only [p_mSheet, shE, bI_t c, bI_t d, sh68_24 hs1, sh68_25 hs1, dn_e, ln82 hl, ln83 hl, lt_e]
        rw [if_neg (by decide), if_neg (by decide), al_e ha (by decide), al_e hb (by decide), al_e ha (by decide), al_e hb (by decide), al_e ha (by decide), al_e hb (by decide), r1 82 a (by decide), r1 82 b (by decide), r1 83 a (by decide), r1 83 b (by decide), l3, k3]
        by_cases u1 : hI S 82 a = -1
        · rw [if_pos (by rw [u1]; decide)]; exact v1 (Or.inl u1)
        rw [if_neg (p0 a ha u1)]
        by_cases u2 : hI S 82 b = -1
        · rw [if_neg (by rw [u2]; decide)]; exact v1 (Or.inr u2)
        rw [if_pos (Int32.not_lt.mp (p0 b hb u2))]
        by_cases u3 : hI S 82 a = hI S 82 b
        · rw [if_pos u3]
          by_cases w1 : a2 < 0
          · rw [if_pos w1]; exact v3 u1 u2 u3 (fun q => absurd w1 (Int32.not_lt.mpr q.1.1))
          rw [if_neg w1]
          by_cases w2 : a4 < 0
          · rw [if_pos w2]; exact v3 u1 u2 u3 (fun q => absurd w2 (Int32.not_lt.mpr q.2.1))
          rw [if_neg w2]
          by_cases w3 : a5 < 0
          · rw [if_pos w3]; exact v3 u1 u2 u3 (fun q => absurd w3 (Int32.not_lt.mpr q.1.2.1))
          rw [if_neg w3]
          have g1 := Int32.not_lt.mp w1
          have g2 := Int32.not_lt.mp w2
          have g3 := Int32.not_lt.mp w3
          have el := sub_ti (l := l) (by omega) g3
          have ek := sub_ti (l := k) (by omega) g3
          by_cases w4 : nI l - a5 < a2
          · rw [if_pos w4]
            rw [i_lt, el] at w4
            exact v3 u1 u2 u3 (fun q => by have := q.1.2.2; omega)
          rw [if_neg w4]
          rw [i_lt, el] at w4
          by_cases w5 : a4 ≤ nI k - a5
          · rw [if_pos w5]
            rw [i_le, ek] at w5
            obtain ⟨p, c5, rfl, rfl, o1⟩ := spn_out (l := l) (x := a2) (y := a5) ⟨g1, g3, by omega⟩
            obtain ⟨q, c6, rfl, o2, o3⟩ := spn_out (l := k) (x := a4) (y := nI c5) ⟨g2, g3, by omega⟩
            have := (nI_eq (by omega) (by omega)).mp o2
            subst this
            exact v4 p q c5 u1 u2 u3 rfl rfl rfl o1 o3
          · rw [if_neg w5]
            rw [i_le, ek] at w5
            exact v3 u1 u2 u3 (fun q => by have := q.2.2.2; omega)
        · rw [if_neg u3]; exact v2 u1 u2 u3
      by_cases u1 : hI S 82 a = -1
      · rw [bI_t u1, if_neg (by decide)]
        exact mm S _ hs (fun _ _ _ => rfl) (fun _ => ⟨rfl, h⟩) (fun q => absurd u1 q) (fun q => absurd u1 q) (fun _ _ _ q => absurd u1 q)
      rw [bI_f u1, if_pos rfl]
      by_cases u2 : hI S 82 b = -1
      · rw [bI_t u2, if_neg (by decide)]
        exact mm S _ hs (fun _ _ _ => rfl) (fun _ => ⟨rfl, h⟩) (fun _ q => absurd u2 q) (fun _ q => absurd u2 q) (fun _ _ _ _ q => absurd u2 q)
      rw [bI_f u2, if_pos rfl]
      by_cases u3 : hI S 82 a = hI S 82 b
      · rw [if_pos u3, p_hasSpan l2 l1]
        have bad : ¬ (spn a2 a5 l ∧ spn a4 a5 k) → wpX8_copy ln S 68 (nI a) a2 (nI b) a4 a5 fun w S => OK N ln (-1000000013) w S := fun q => mm S _ hs (fun _ _ _ => rfl) (fun q => absurd q (by rintro (w | w); exact u1 w; exact u2 w)) (fun _ _ w => absurd u3 w) (fun _ _ _ _ => ⟨rfl, h⟩) (fun p q2 c5 _ _ _ g1 g2 g3 g4 g5 => absurd ⟨⟨by rw [g1]; exact nI_pos' (by omega), by rw [g3]; exact nI_pos' (by omega), by rw [g1, g3, nI_toInt (by omega), nI_toInt (by omega)]; omega⟩, ⟨by rw [g2]; exact nI_pos' (by omega), by rw [g3]; exact nI_pos' (by omega), by rw [g2, g3, nI_toInt (by omega), nI_toInt (by omega)]; omega⟩⟩ q)
        by_cases w1 : spn a2 a5 l
        · rw [bI_t w1, if_neg (by decide), p_hasSpan k2 k1]
          by_cases w2 : spn a4 a5 k
          · rw [bI_t w2, if_neg (by decide), (rw_o hs ha).2, dn_e, (rw_o hs hb).2, dn_e]
            obtain ⟨p, c5, rfl, rfl, o1⟩ := spn_out w1
            obtain ⟨q, c6, rfl, o2, o3⟩ := spn_out w2
            have ec := (nI_eq (by omega) (by omega)).mp o2
            subst ec
            refine p_cp (rw_n hl ha) (rw_n hl hb) (by omega) (by omega) ?_
            generalize hS1 : sC S (46 + 2 * a) p (46 + 2 * b) q c5 = S1
            have hs1 : SH S1 := by rw [← hS1]; exact hs
            have r1 : ∀ r k, r ≠ 46 + 2 * b → hI S1 r k = hI S r k := fun r k w => by rw [← hS1, hC_in, if_neg w]
            have r2 : ∀ j, hI S1 (46 + 2 * b) j = if q ≤ j ∧ j < q + c5 then hI S (46 + 2 * a) (p + (j - q)) else hI S (46 + 2 * b) j := fun j => by rw [← hS1, hC_in, if_pos rfl]; rfl
            refine mm S1 _ hs1 (fun r k w => r1 r k (by omega)) (fun w => absurd w (by rintro (w | w); exact u1 w; exact u2 w)) (fun _ _ w => absurd u3 w) (fun _ _ _ w => absurd ⟨w1, w2⟩ w) (fun p' q' c' _ _ _ g1 g2 g3 g4 g5 => ?_)
            have z1 := (nI_eq (by omega) (by omega)).mp g1
            have z2 := (nI_eq (by omega) (by omega)).mp g2
            have z3 := (nI_eq (by omega) (by omega)).mp g3
            subst z1
            subst z2
            subst z3
            refine p_mcp0 hs1 hl ha (by omega) (fun S2 f2 => p_mcp1 (f2.sh hs1) hl hb (by omega) (fun S3 f3 => ⟨rfl, ?_⟩))
            have t3 : ∀ r k, r ≠ 84 → r ≠ 89 → r ≠ 46 + 2 * b → hI S3 r k = hI S r k := fun r k w1 w2 w3 => by rw [f3.o w1, f2.o w2, r1 _ _ w3]
            have t4 : ∀ j, j < 24 → hI S3 84 (24 * b + j) = if q ≤ j ∧ j < q + c5 then hI S 84 (24 * a + (p + (j - q))) else hI S 84 (24 * b + j) := fun j hj => by
              by_cases w : q ≤ j ∧ j < q + c5
              · rw [if_pos w, f3.i (by omega) (by omega), f2.i (by omega) (by omega), r1 _ _ (by omega), show 24 * a + p + (24 * b + j - (24 * b + q)) = 24 * a + (p + (j - q)) by omega]
              · rw [if_neg w, f3.x (by omega), f2.o (by decide), r1 _ _ (by omega)]
            refine h.row (fun r k => by rw [f3.2, f2.2, ← hS1]; rfl) (fun r k w => t3 r k (by omega) (by omega) (by omega)) (hr.one (i := b) (fun t ht w => ⟨t3 _ _ (by omega) (by omega) (by omega), t3 _ _ (by omega) (by omega) (by omega), t3 _ _ (by omega) (by omega) (by omega), t3 _ _ (by omega) (by omega) (by omega), fun j hj => ⟨t3 _ _ (by omega) (by omega) (by omega), by rw [f3.x (by omega), f2.o (by decide), r1 _ _ (by omega)]⟩⟩) ?_)
            rw [t3 _ _ (by omega) (by omega) (by omega), t3 _ _ (by omega) (by omega) (by omega), t3 _ _ (by omega) (by omega) (by omega), t3 _ _ (by omega) (by omega) (by omega)]
            refine ⟨⟨e1, e2⟩, ⟨k, k1, k2, k3⟩, fun j hj => ?_⟩
            rw [t4 j hj, f3.o (by omega), f2.o (by omega), r2 j]
            by_cases w : q ≤ j ∧ j < q + c5
            · rw [if_pos w, if_pos w]; exact b3 _ (by omega)
            · rw [if_neg w, if_neg w]; exact e3 j hj
          · rw [bI_f w2, if_pos rfl]; exact bad (fun q => w2 q.2)
        · rw [bI_f w1, if_pos rfl]; exact bad (fun q => w1 q.1)
      · rw [if_neg u3]
        exact mm S _ hs (fun _ _ _ => rfl) (fun q => absurd q (by rintro (w | w); exact u1 w; exact u2 w)) (fun _ _ _ => ⟨rfl, h⟩) (fun _ _ q => absurd q u3) (fun _ _ _ _ _ q => absurd q u3)
    · rw [bI_f d, if_pos rfl]
      unfold wpX8_copy BX8_copy_14
      dsimp only
      rw [p_mSheet, shE, bI_t c, if_neg (by decide), p_mSheet, shE, bI_f d, if_pos rfl]
      exact ⟨rfl, h⟩
  · rw [bI_f c, if_pos rfl]
    unfold wpX8_copy BX8_copy_14
    dsimp only
    rw [p_mSheet, shE, bI_f c, if_pos rfl]
    exact ⟨rfl, h⟩
-- 38.pfeed.lean.txt
/-! step: bytes fed -/
theorem and255 (x : Int32) : ∃ c, c < 256 ∧ x &&& 255 = nI c := pk_andE x 8 (by decide)
theorem g255 (i : Nat) (hi : i < 32) : (255#32).getLsbD i = decide (i < 8) := by
  rw [BitVec.getLsbD_ofNat, show (255 : Nat) = 2 ^ 8 - 1 by decide, Nat.testBit_two_pow_sub_one]
  simp [hi]
/-- the byte t of a word, the highest first -/
def byt (a : Int32) (t : Nat) : Int32 := (a.toUInt32 >>> ((nI (24 - 8 * t)).toUInt32 &&& Int32.toUInt32 31)).toInt32 &&& 255
theorem byt_s (x : Int32) {t : Nat} (ht : t < 4) : x >>> (nI (24 - 8 * t) &&& 31) &&& 255 = byt x t := by
  unfold byt
  apply Int32.toBitVec_inj.mp
  apply BitVec.eq_of_getLsbD_eq
  intro i hi
  rcases (show t = 0 ∨ t = 1 ∨ t = 2 ∨ t = 3 by omega) with rfl | rfl | rfl | rfl
  · rw [show nI (24 - 8 * 0) = 24 from rfl]
    simp [Int32.toBitVec_and, Int32.toBitVec_shiftRight, UInt32.toBitVec_shiftRight]
    rw [g255 i hi]
    by_cases e : i < 8
    · rw [BitVec.getLsbD_sshiftRight]
      simp [show ¬ 32 ≤ i by omega, show 24 + i < 32 by omega]
    · simp [e]
  · rw [show nI (24 - 8 * 1) = 16 from rfl]
    simp [Int32.toBitVec_and, Int32.toBitVec_shiftRight, UInt32.toBitVec_shiftRight]
    rw [g255 i hi]
    by_cases e : i < 8
    · rw [BitVec.getLsbD_sshiftRight]
      simp [show ¬ 32 ≤ i by omega, show 16 + i < 32 by omega]
    · simp [e]
  · rw [show nI (24 - 8 * 2) = 8 from rfl]
    simp [Int32.toBitVec_and, Int32.toBitVec_shiftRight, UInt32.toBitVec_shiftRight]
    rw [g255 i hi]
    by_cases e : i < 8
    · rw [BitVec.getLsbD_sshiftRight]
      simp [show ¬ 32 ≤ i by omega, show 8 + i < 32 by omega]
    · simp [e]
  · rw [show nI (24 - 8 * 3) = 0 from rfl]
    simp [Int32.toBitVec_and, Int32.toBitVec_shiftRight, UInt32.toBitVec_shiftRight]
def TK (S S' : HC) (k t : Nat) (a : Int32) : Prop := (∀ r i, ¬ (r = 38 ∧ i = 1) → r ≠ 39 → hI S' r i = hI S r i) ∧ hI S' 38 1 = nI (k + t) ∧ (∀ j, hI S' 39 j = if k ≤ j ∧ j < k + t then byt a (j - k) else hI S 39 j) ∧ ∀ r i, hR S' r i = hR S r i
theorem TK.sh {S S' : HC} {k t : Nat} {a : Int32} (h : TK S S' k t a) (hs : SH S) : SH S' := hs.of (fun _ _ => h.2.2.2 _ _)
def ixT (t : Nat) : Int32 := if t = 4 then -8 else nI (24 - 8 * t)
theorem p_take {ln : Nat → Nat} {S : HC} {k : Nat} {a : Int32} {post : HC → Prop} (hs : SH S) (hl : LN ln) (hk : hI S 38 1 = nI k) (h96 : k + 4 ≤ 96) (h : ∀ S', TK S S' k 4 a → post S') : wpX6_take ln S 38 a post := by
  have key : ∀ m t S', t + m = 4 → TK S S' k t a → LX6_take_3 ln post (m + 1) S' 38 a (ixT t) := by
    intro m
    induction m with
    | zero =>
      intro t S' ht hT
      have e : t = 4 := by omega
      subst e
      rw [LX6_take_3]
      dsimp only
      rw [if_pos (by decide)]
      exact h S' hT
    | succ m ih =>
      intro t S' ht hT
      rw [LX6_take_3]
      dsimp only
      unfold BX6_take_49
      have ei : ixT t + (-8) = ixT (t + 1) := by
        rcases (show t = 0 ∨ t = 1 ∨ t = 2 ∨ t = 3 by omega) with rfl | rfl | rfl | rfl <;> decide
      have e0 : ixT t = nI (24 - 8 * t) := if_neg (by omega)
      simp only [lt_e, hT.2.1]
      rw [ei, e0, if_neg (nI_pos (by omega)), if_neg (nI_pos (by omega)), if_neg (show ¬ (96 : Int32) ≤ nI (k + t) from nI_ge (b := 96) (by omega) (by decide)), sh38_0 (hT.sh hs), dn_e, ln39 hl, as_e (by omega) (by decide), hI_row (by decide), hT.2.1, nI_1]
      refine ih (t + 1) _ (by omega) ⟨fun r i q1 q2 => ?_, ?_, fun j => ?_, fun r i => hT.2.2.2 r i⟩
      · rw [hI_ne q1, hI_row q2]; exact hT.1 r i q1 q2
      · rw [hI_self]; rfl
      · rw [hI_row (by decide)]
        by_cases e : j = k + t
        · subst e
          rw [hI_self, if_pos (by omega), show k + t - k = t by omega]
          rfl
        · rw [hI_ne (by omega), hT.2.2.1 j]
          by_cases e2 : k ≤ j ∧ j < k + t
          · rw [if_pos e2, if_pos (by omega)]
          · rw [if_neg e2, if_neg (by omega)]
  exact ⟨5, key 4 0 S (by omega) ⟨fun _ _ _ _ => rfl, hk, fun j => by rw [if_neg (by omega)], fun _ _ => rfl⟩⟩
def wrd (a1 a2 a3 : Int32) (t : Nat) : Int32 := if t < 4 then a1 else if t < 8 then a2 else a3
theorem p_mfeed {ln : Nat → Nat} {S : HC} {k : Nat} {a1 a2 a3 : Int32} {post : Int32 → HC → Prop} (hs : SH S) (hl : LN ln) (hk : hI S 68 7 = nI k) (h96 : k + 12 ≤ 96) (h : ∀ S', Fl S S' 74 k (k + 12) (fun j => byt (wrd a1 a2 a3 (j - k)) ((j - k) % 4)) → post (nI (k + 12)) (sI S' 68 7 (nI (k + 12)))) : ∃ n, LX8_feed_18 ln post n S 68 a1 a2 a3 0 := by
  have key : ∀ m t S', t + m = 12 → Fl S S' 74 k (k + t) (fun j => byt (wrd a1 a2 a3 (j - k)) ((j - k) % 4)) → LX8_feed_18 ln post (m + 1) S' 68 a1 a2 a3 (nI t) := by
    intro m
    induction m with
    | zero =>
      intro t S' ht hF
      have e : t = 12 := by omega
      subst e
      rw [LX8_feed_18]
      dsimp only
      rw [if_pos (by decide)]
      simp only [lt_e, hI_self]
      rw [hF.o (by decide), hk, show nI k + 12 = nI (k + 12) from nI_add k 12]
      exact h S' hF
    | succ m ih =>
      intro t S' ht hF
      have st : ∀ t0, t0 = wrd a1 a2 a3 t → BX8_feed_47 ln post (LX8_feed_18 ln post (m + 1)) S' 68 a1 a2 a3 (nI t) t0 := fun t0 e => by
        unfold BX8_feed_47
        rw [sh68_6 (hF.sh hs), dn_e]
        simp only [lt_e]
        rw [ne_e (by decide), hF.o (by decide), hk, nI_add, show (4 : Int32) = nI 4 from rfl, rem_e (by omega) (by decide) (by decide), show (8 : Int32) * nI (t % 4) = nI (8 * (t % 4)) from pk_mul 8 (t % 4), show (24 : Int32) - nI (8 * (t % 4)) = nI (24 - 8 * (t % 4)) from pk_sub (a := 24) (by omega), byt_s _ (Nat.mod_lt _ (by decide)), ln74 hl, as_e (by omega) (by decide), nI_1]
        exact ih (t + 1) _ (by omega) (hF.step (by omega) (by rw [e, show k + t - k = t by omega]))
      rw [LX8_feed_18]
      dsimp only
      rw [if_neg (show ¬ (12 : Int32) ≤ nI t from nI_ge (b := 12) (by omega) (by decide))]
      by_cases e1 : t < 4
      · rw [if_neg (show ¬ (4 : Int32) ≤ nI t from nI_ge (b := 4) (by omega) (by decide))]
        exact st _ (if_pos e1).symm
      rw [if_pos (show (4 : Int32) ≤ nI t from nI_le (a := 4) (by omega) (by omega))]
      by_cases e2 : t < 8
      · rw [if_neg (show ¬ (8 : Int32) ≤ nI t from nI_ge (b := 8) (by omega) (by decide))]
        exact st _ (by unfold wrd; rw [if_neg e1, if_pos e2])
      · rw [if_pos (show (8 : Int32) ≤ nI t from nI_le (a := 8) (by omega) (by omega))]
        exact st _ (by unfold wrd; rw [if_neg e1, if_neg e2])
  exact ⟨13, key 12 0 S (by omega) (Fl.rf _ _ _ _)⟩
theorem s_feed {N : Nat} {ln : Nat → Nat} {S : HC} (h : PI N ln S) (a1 a2 a3 : Int32) : wpX7_feed ln S 0 a1 a2 a3 fun v S => wpX8_feed ln S 68 a1 a2 a3 fun w S => OK N ln v w S := by
  obtain ⟨⟨hs, hl, -, -⟩, -, -, ⟨k, k1, k2, k3, k4⟩, -⟩ := id h
  unfold wpX7_feed
  rw [sh0_5 hs, dn_e, sh37_0 hs, dn_e, lt_e, k2]
  by_cases c : k ≤ 84
  · rw [if_pos (show nI k ≤ 84 from nI_le (b := 84) c (by decide))]
    refine p_take hs hl k2 (by omega) (fun S1 t1 => ?_)
    refine p_take (t1.sh hs) hl t1.2.1 (by omega) (fun S2 t2 => ?_)
    refine p_take (t2.sh (t1.sh hs)) hl t2.2.1 (by omega) (fun S3 t3 => ?_)
    have hs3 := t3.sh (t2.sh (t1.sh hs))
    have e3 : ∀ r i, ¬ (r = 38 ∧ i = 1) → r ≠ 39 → hI S3 r i = hI S r i := fun r i q1 q2 => by rw [t3.1 r i q1 q2, t2.1 r i q1 q2, t1.1 r i q1 q2]
    rw [lt_e, t3.2.1]
    unfold wpX8_feed
    simp only [lt_e]
    rw [e3 68 7 (by decide) (by decide), k3, show nI k + 12 = nI (k + 12) from nI_add k 12, if_pos (show nI (k + 12) ≤ 96 from nI_le (b := 96) (by omega) (by decide))]
    refine p_mfeed hs3 hl (by rw [e3 68 7 (by decide) (by decide)]; exact k3) (by omega) (fun S4 f4 => ⟨by rw [show k + 4 + 4 + 4 = k + 12 by omega], h.tap (fun r i => by rw [hR_sI, f4.2, t3.2.2.2, t2.2.2.2, t1.2.2.2]) (fun r i q => by rw [hI_ne (by omega), f4.o (by omega), e3 _ _ (by omega) (by omega)]) ⟨k + 12, by omega, ?_, ?_, fun j hj => ?_⟩⟩)
    · rw [hI_row (by decide), f4.o (by decide), t3.2.1, show k + 4 + 4 + 4 = k + 12 by omega]
    · rw [hI_self]
    · rw [hI_row (by decide), hI_row (by decide), f4.o (by decide)]
      by_cases e : j < k
      · rw [f4.x (by omega), t3.2.2.1, if_neg (by omega), t2.2.2.1, if_neg (by omega), t1.2.2.1, if_neg (by omega), e3 74 j (by omega) (by decide)]
        exact k4 j e
      · rw [f4.i (by omega) (by omega)]
        refine ⟨?_, and255 _⟩
        unfold wrd
        rw [t3.2.2.1]
        by_cases e8 : k + 8 ≤ j
        · rw [if_pos (by omega), if_neg (by omega), if_neg (by omega), show (j - k) % 4 = j - (k + 4 + 4) by omega]
        · rw [if_neg (by omega), t2.2.2.1]
          by_cases e4 : k + 4 ≤ j
          · rw [if_pos (by omega), if_neg (by omega), if_pos (by omega), show (j - k) % 4 = j - (k + 4) by omega]
          · rw [if_neg (by omega), t1.2.2.1, if_pos (by omega), if_pos (by omega), show (j - k) % 4 = j - k by omega]
  · rw [if_neg (show ¬ nI k ≤ 84 from nI_ge (b := k) (a := 84) (by omega) (by omega))]
    unfold wpX8_feed
    simp only [lt_e]
    rw [k3, show nI k + 12 = nI (k + 12) from nI_add k 12, if_neg (show ¬ nI (k + 12) ≤ 96 from nI_ge (b := k + 12) (a := 96) (by omega) (by omega))]
    exact ⟨rfl, h⟩
-- 39.pkeep.lean.txt
/-! steps: the image kept, and come back to -/
/-- the land b1 became b2 -/
def BC (S S' : HC) (b1 b2 : Nat) : Prop := (∀ r k, ¬ (b1 ≤ r ∧ r ≤ b1 + 6) → hI S' r k = hI S r k) ∧ (∀ k j, k < 6 → j < 14 → hI S' (b1 + 1 + k) j = hI S (b2 + 1 + k) j) ∧ (∀ f, f = 6 ∨ f = 7 ∨ f = 8 ∨ f = 9 ∨ f = 11 → hI S' b1 f = hI S b2 f) ∧ (∀ r k, r ≠ b1 + 7 → hR S' r k = hR S r k) ∧ ∀ j, j < 14 → hR S' (b1 + 7) j = hR S (b2 + 7) j
theorem RT_lw : RT.all (fun q => !(q.1 == 8) && !(q.1 == 16) && !(q.1 == 24) && !(q.1 == 36)) = true := by decide
theorem SH.lw {S S' : HC} (h : SH S) {b : Nat} (hb : LB b) (e : ∀ r k, r ≠ b + 7 → hR S' r k = hR S r k) : SH S' := h.of (fun q hq => by
  have := List.all_eq_true.mp RT_lw q hq
  simp at this
  refine e _ _ ?_
  rcases hb with rfl | rfl | rfl | rfl <;> omega)
def B1 (S S' : HC) (b1 b2 t : Nat) : Prop := (∀ r k, ¬ (b1 + 1 ≤ r ∧ r ≤ b1 + 6) → hI S' r k = hI S r k) ∧ (∀ k j, k < 6 → hI S' (b1 + 1 + k) j = if j < t then hI S (b2 + 1 + k) j else hI S (b1 + 1 + k) j) ∧ ∀ r k, hR S' r k = hR S r k
def B2 (S S' : HC) (b1 b2 t : Nat) : Prop := (∀ r k, hI S' r k = hI S r k) ∧ (∀ r k, r ≠ b1 + 7 → hR S' r k = hR S r k) ∧ ∀ j, hR S' (b1 + 7) j = if j < t then hR S (b2 + 7) j else hR S (b1 + 7) j
theorem B1.step {S S' : HC} {b1 b2 t : Nat} {v : Nat → Int32} (h : B1 S S' b1 b2 t) (hv : ∀ k, k < 6 → v k = hI S (b2 + 1 + k) t) : B1 S (sI (sI (sI (sI (sI (sI S' (b1 + 1 + 0) t (v 0)) (b1 + 1 + 1) t (v 1)) (b1 + 1 + 2) t (v 2)) (b1 + 1 + 3) t (v 3)) (b1 + 1 + 4) t (v 4)) (b1 + 1 + 5) t (v 5)) b1 b2 (t + 1) := by
  refine ⟨fun r k q => ?_, fun k j hk => ?_, fun r k => h.2.2 r k⟩
  · rw [hI_row (by omega), hI_row (by omega), hI_row (by omega), hI_row (by omega), hI_row (by omega), hI_row (by omega)]
    exact h.1 r k q
  · by_cases e : j = t
    · subst e
      rw [if_pos (by omega), ← hv k hk]
      rcases (show k = 0 ∨ k = 1 ∨ k = 2 ∨ k = 3 ∨ k = 4 ∨ k = 5 by omega) with rfl | rfl | rfl | rfl | rfl | rfl
      · rw [hI_row (by omega), hI_row (by omega), hI_row (by omega), hI_row (by omega), hI_row (by omega), hI_self]
      · rw [hI_row (by omega), hI_row (by omega), hI_row (by omega), hI_row (by omega), hI_self]
      · rw [hI_row (by omega), hI_row (by omega), hI_row (by omega), hI_self]
      · rw [hI_row (by omega), hI_row (by omega), hI_self]
      · rw [hI_row (by omega), hI_self]
      · rw [hI_self]
    · rw [hI_ne (by omega), hI_ne (by omega), hI_ne (by omega), hI_ne (by omega), hI_ne (by omega), hI_ne (by omega), h.2.1 k j hk]
      by_cases e2 : j < t
      · rw [if_pos e2, if_pos (by omega)]
      · rw [if_neg e2, if_neg (by omega)]
theorem p_become {ln : Nat → Nat} {S : HC} {b1 b2 : Nat} {post : HC → Prop} (hs : SH S) (hl : LN ln) (h1 : LB b1) (h2 : LB b2) (hne : b1 + 8 ≤ b2 ∨ b2 + 8 ≤ b1) (h : ∀ S', BC S S' b1 b2 → post S') : wpX0_become ln S b1 b2 post := by
  have key2 : ∀ S0, SH S0 → (∀ S', B2 S0 S' b1 b2 14 → post (sI S' b1 11 (hI S0 b2 11))) → ∀ m t S', t + m = 14 → B2 S0 S' b1 b2 t → LX0_become_120 ln post (m + 1) S' b1 b2 (nI t) := by
    intro S0 hs0 hp m
    induction m with
    | zero =>
      intro t S' ht hB
      have e : t = 14 := by omega
      subst e
      rw [LX0_become_120]
      dsimp only
      rw [if_pos (by decide)]
      simp only [lt_e]
      rw [hB.1]
      exact hp S' hB
    | succ m ih =>
      intro t S' ht hB
      have hs' : SH S' := hs0.lw h1 hB.2.1
      rw [LX0_become_120]
      dsimp only
      rw [if_neg (show ¬ (14 : Int32) ≤ nI t from nI_ge (b := 14) (by omega) (by decide)), lb_l hs' h1, dn_e, lb_l hs' h2, dn_e, lb_n7 hl h2, al_e (by omega) (by decide), lb_n7 hl h1, as_e (by omega) (by decide), lt_e, nI_1]
      refine ih (t + 1) _ (by omega) ⟨fun r k => hB.1 r k, fun r k q => ?_, fun j => ?_⟩
      · rw [hR_sR, if_neg (fun u => q u.1)]; exact hB.2.1 r k q
      · rw [hR_sR]
        by_cases e : j = t
        · subst e
          rw [if_pos ⟨rfl, rfl⟩, if_pos (by omega), hB.2.1 _ _ (by omega)]
        · rw [if_neg (fun u => e u.2), hB.2.2 j]
          by_cases e2 : j < t
          · rw [if_pos e2, if_pos (by omega)]
          · rw [if_neg e2, if_neg (by omega)]
  have key1 : ∀ m t S', t + m = 14 → B1 S S' b1 b2 t → LX0_become_2 ln post (m + 1) S' b1 b2 (nI t) := by
    intro m
    induction m with
    | zero =>
      intro t S' ht hB
      have e : t = 14 := by omega
      subst e
      rw [LX0_become_2]
      dsimp only
      rw [if_pos (by decide)]
      simp only [lt_e]
      have o : ∀ k, hI S' b2 k = hI S b2 k := fun k => hB.1 _ _ (by omega)
      rw [hI_row (show b2 ≠ b1 by omega), hI_row (show b2 ≠ b1 by omega), hI_row (show b2 ≠ b1 by omega), hI_row (show b2 ≠ b1 by omega), hI_row (show b2 ≠ b1 by omega), hI_row (show b2 ≠ b1 by omega), o, o, o, o]
      have hs' : SH S' := hs.of (fun _ _ => hB.2.2 _ _)
      refine ⟨15, key2 _ ((((hs'.sI _ _ _).sI _ _ _).sI _ _ _).sI _ _ _) (fun S3 h3 => h _ ⟨fun r k q => ?_, fun k j hk hj => ?_, fun f hf => ?_, fun r k q => ?_, fun j hj => ?_⟩) 14 0 _ (by omega) ⟨fun _ _ => rfl, fun _ _ _ => rfl, fun j => by rw [if_neg (by omega)]⟩⟩
      · rw [hI_row (by omega), h3.1, hI_row (by omega), hI_row (by omega), hI_row (by omega), hI_row (by omega)]
        exact hB.1 r k (by omega)
      · rw [hI_row (by omega), h3.1, hI_row (by omega), hI_row (by omega), hI_row (by omega), hI_row (by omega), hB.2.1 k j hk, if_pos hj]
      · rcases hf with rfl | rfl | rfl | rfl | rfl
        · rw [hI_ne (by omega), h3.1, hI_ne (by omega), hI_ne (by omega), hI_ne (by omega), hI_self]
        · rw [hI_ne (by omega), h3.1, hI_ne (by omega), hI_ne (by omega), hI_self]
        · rw [hI_ne (by omega), h3.1, hI_ne (by omega), hI_self]
        · rw [hI_ne (by omega), h3.1, hI_self]
        · rw [hI_self, hI_row (by omega), hI_row (by omega), hI_row (by omega), hI_row (by omega)]; exact o 11
      · rw [hR_sI, h3.2.1 r k q, hR_sI, hR_sI, hR_sI, hR_sI]; exact hB.2.2 r k
      · rw [hR_sI, h3.2.2 j, if_pos hj, hR_sI, hR_sI, hR_sI, hR_sI]; exact hB.2.2 _ _
    | succ m ih =>
      intro t S' ht hB
      have hs' : SH S' := hs.of (fun _ _ => hB.2.2 _ _)
      rw [LX0_become_2]
      dsimp only
      rw [if_neg (show ¬ (14 : Int32) ≤ nI t from nI_ge (b := 14) (by omega) (by decide))]
      simp only [lt_e, hR_sI, lb_r hs' h1 (i := 0) (by decide), lb_r hs' h1 (i := 1) (by decide), lb_r hs' h1 (i := 2) (by decide), lb_r hs' h1 (i := 3) (by decide), lb_r hs' h1 (i := 4) (by decide), lb_r hs' h1 (i := 5) (by decide), lb_r hs' h2 (i := 0) (by decide), lb_r hs' h2 (i := 1) (by decide), lb_r hs' h2 (i := 2) (by decide), lb_r hs' h2 (i := 3) (by decide), lb_r hs' h2 (i := 4) (by decide), lb_r hs' h2 (i := 5) (by decide), dn_e, lb_n hl h1 (i := 0) (by decide), lb_n hl h1 (i := 1) (by decide), lb_n hl h1 (i := 2) (by decide), lb_n hl h1 (i := 3) (by decide), lb_n hl h1 (i := 4) (by decide), lb_n hl h1 (i := 5) (by decide), lb_n hl h2 (i := 0) (by decide), lb_n hl h2 (i := 1) (by decide), lb_n hl h2 (i := 2) (by decide), lb_n hl h2 (i := 3) (by decide), lb_n hl h2 (i := 4) (by decide), lb_n hl h2 (i := 5) (by decide), al_e (i := t) (n := 14) (show t < 14 by omega) (by decide), as_e (i := t) (n := 14) (show t < 14 by omega) (by decide)]
      rw [nI_1, hI_row (show b2 + 1 + 5 ≠ b1 + 1 + 4 by omega), hI_row (show b2 + 1 + 5 ≠ b1 + 1 + 3 by omega), hI_row (show b2 + 1 + 5 ≠ b1 + 1 + 2 by omega), hI_row (show b2 + 1 + 5 ≠ b1 + 1 + 1 by omega), hI_row (show b2 + 1 + 5 ≠ b1 + 1 + 0 by omega), hI_row (show b2 + 1 + 4 ≠ b1 + 1 + 3 by omega), hI_row (show b2 + 1 + 4 ≠ b1 + 1 + 2 by omega), hI_row (show b2 + 1 + 4 ≠ b1 + 1 + 1 by omega), hI_row (show b2 + 1 + 4 ≠ b1 + 1 + 0 by omega), hI_row (show b2 + 1 + 3 ≠ b1 + 1 + 2 by omega), hI_row (show b2 + 1 + 3 ≠ b1 + 1 + 1 by omega), hI_row (show b2 + 1 + 3 ≠ b1 + 1 + 0 by omega), hI_row (show b2 + 1 + 2 ≠ b1 + 1 + 1 by omega), hI_row (show b2 + 1 + 2 ≠ b1 + 1 + 0 by omega), hI_row (show b2 + 1 + 1 ≠ b1 + 1 + 0 by omega)]
      exact ih (t + 1) _ (by omega) (hB.step (v := fun k => hI S' (b2 + 1 + k) t) (fun k hk => hB.1 _ _ (by omega)))
  exact ⟨15, key1 14 0 S (by omega) ⟨fun _ _ _ => rfl, fun k j hk => by rw [if_neg (by omega)], fun _ _ => rfl⟩⟩
theorem p_copyAll {ln : Nat → Nat} {S : HC} {r1 r2 : Nat} {post : HC → Prop} (h1 : ln r1 = 1461) (h2 : ln r2 = 1461) (hne : r1 ≠ r2) (h : ∀ S', Fl S S' r2 0 1461 (hI S r1) → post S') : wpX8_copyAll ln S r1 r2 post := by
  have key : ∀ m j S', j + m = 1461 → Fl S S' r2 0 j (hI S r1) → LX8_copyAll_2 ln post (m + 1) S' r1 r2 (nI j) := by
    intro m
    induction m with
    | zero =>
      intro j S' hj hF
      rw [LX8_copyAll_2]
      dsimp only
      rw [if_pos (show (1461 : Int32) ≤ nI j from nI_le (a := 1461) (by omega) (by omega))]
      have ej : j = 1461 := by omega
      rw [ej] at hF
      exact h S' hF
    | succ m ih =>
      intro j S' hj hF
      rw [LX8_copyAll_2]
      dsimp only
      rw [if_neg (show ¬ (1461 : Int32) ≤ nI j from nI_ge (b := 1461) (by omega) (by decide)), h1, al_e (by omega) (by decide), h2, as_e (by omega) (by decide), lt_e, nI_1]
      exact ih (j + 1) _ (by omega) (hF.step (by omega) (hF.o hne))
  exact ⟨1461 + 1, key 1461 0 S (by omega) (Fl.rf _ _ _ _)⟩
theorem wfC_ag {f g : Nat → Int32} : ∀ (n i d : Nat), (∀ t, i ≤ t → t < i + n → f t = g t) → wfC f n i d = wfC g n i d := by
  intro n
  induction n with
  | zero => intro i d _; rfl
  | succ n ih =>
    intro i d h
    rw [wfC, wfC, h i (by omega) (by omega)]
    split
    · rfl
    · exact ih (i + 1) _ (fun t q1 q2 => h t (by omega) (by omega))
theorem LAW.cp {ln : Nat → Nat} {N : Nat} {S S' : HC} {q a a' t key c : Nat} (h : LAW ln N S q a t key c) (ht : t < 14) (h1 : ∀ r k, 91 ≤ r → hI S' r k = hI S r k) (h2 : ∀ r k, 91 ≤ r → hR S' r k = hR S r k) (h3 : ∀ k, k < 1461 → hI S' a' k = hI S a k) : LAW ln N S' q a' t key c := by
  obtain ⟨⟨a1, a2⟩, a3, a4, ⟨a5, a6⟩, a7, a8, a9, a10, a11⟩ := h
  have hc := a4.2.2
  refine ⟨⟨a1, a2⟩, by rw [h2 _ _ (by omega)]; exact a3, a4, ⟨a5, by rw [h1 _ _ (by omega)]; exact a6⟩, by rw [h3 _ (by omega)]; exact a7, by rw [h3 _ (by omega), h1 _ _ (by omega)]; exact a8, fun i hi => by rw [h3 _ (by omega), h1 _ _ (by omega)]; exact a9 i hi, ?_, fun i hi => by rw [h3 _ (by omega), h1 _ _ (by omega)]; exact a11 i hi⟩
  rw [← a10]
  exact wfC_ag c 0 0 (fun i _ hi => h3 _ (by omega))
theorem LWR.cp {ln : Nat → Nat} {N : Nat} {S S' : HC} {b a b' a' : Nat} (h : LWR ln N S b a) (h1 : ∀ r k, 91 ≤ r → hI S' r k = hI S r k) (h2 : ∀ r k, 91 ≤ r → hR S' r k = hR S r k) (h3 : ∀ k, k < 1461 → hI S' a' k = hI S a k) (h4 : hI S' b' 11 = hI S b 11) (h6 : ∀ k, k < 14 → hR S' (b' + 7) k = hR S (b + 7) k) : LWR ln N S' b' a' := by
  obtain ⟨m, m1, m2, m3, m4⟩ := h
  refine ⟨m, m1, by rw [h4]; exact m2, by rw [h3 _ (by decide)]; exact m3, fun t ht => ?_⟩
  obtain ⟨q, key, c, q1, q2⟩ := m4 t ht
  exact ⟨q, key, c, by rw [h6 _ (by omega)]; exact q1, q2.cp (by omega) h1 h2 h3⟩
theorem LR.cp {S S' : HC} {b a b' a' n : Nat} (h : LR S b a n) (h1 : ∀ k j, k < 6 → j < 14 → hI S' (b' + 1 + k) j = hI S (b + 1 + k) j) (h2 : ∀ f, f = 6 ∨ f = 7 ∨ f = 8 ∨ f = 9 ∨ f = 11 → hI S' b' f = hI S b f) (h3 : ∀ k, k < 1461 → hI S' a' k = hI S a k) : LR S' b' a' n := by
  obtain ⟨a1, a2, a3, a4, a5, a6, a7, a8⟩ := h
  have e : AG n (mf S' a') (mf S a) := fun k hk j hj => h3 _ (by omega)
  refine ⟨a1, by rw [h2 6 (by omega)]; exact a2, by rw [h3 _ (by decide)]; exact a3, fun k hk j hj => ?_, a5.ag e, by rw [h2 7 (by omega), h3 _ (by decide)]; exact a6, by rw [h2 8 (by omega), h3 _ (by decide)]; exact a7, by rw [h2 9 (by omega), h3 _ (by decide)]; exact a8⟩
  rw [e k hk j hj, ← a4 k hk j hj]
  exact h1 k j hk (by omega)
theorem s_keep {N : Nat} {ln : Nat → Nat} {S : HC} (h : PI N ln S) : wpX7_keep ln S 0 fun v S => wpX8_keep ln S 68 fun w S => OK N ln v w S := by
  obtain ⟨⟨hs, hl, -, -⟩, ⟨⟨n, hn⟩, hw⟩, -⟩ := id h
  unfold wpX7_keep
  rw [sh0_1 hs, dn_e, sh0_0 hs, dn_e]
  refine p_become hs hl (Or.inr (Or.inl rfl)) (Or.inl rfl) (by omega) (fun S1 f1 => ?_)
  have hs1 : SH S1 := hs.lw (Or.inr (Or.inl rfl)) f1.2.2.2.1
  rw [lt_e, sh0_0 (hs1.sI _ _ _), dn_e, lt_e, hI_row (by decide), f1.1 1 6 (by omega), hn.2.1]
  unfold wpX8_keep
  dsimp only
  rw [sh68_0 (hs1.sI _ _ _), dn_e, sh68_1 (hs1.sI _ _ _), dn_e]
  refine p_copyAll (ln69 hl) (ln70 hl) (by decide) (fun S2 f2 => ?_)
  have hs2 : SH S2 := f2.sh (hs1.sI _ _ _)
  have e2 : ∀ r k, r ≠ 70 → ¬ (r = 0 ∧ k = 2) → ¬ (9 ≤ r ∧ r ≤ 15) → hI S2 r k = hI S r k := fun r k q1 q2 q3 => by rw [f2.o q1, hI_ne q2, f1.1 r k (by omega)]
  rw [lt_e, sh68_0 (hs2.sI _ _ _), dn_e, ln69 hl, al_l1 (by decide) (by decide), hI_row (by decide), e2 69 1 (by decide) (by decide) (by decide), hn.2.2.1]
  have r3 : ∀ r k, r ≠ 70 → ¬ (r = 0 ∧ k = 2) → ¬ (9 ≤ r ∧ r ≤ 15) → ¬ (r = 68 ∧ k = 3) → hI (sI S2 68 3 1) r k = hI S r k := fun r k q1 q2 q3 q4 => by rw [hI_ne q4, e2 r k q1 q2 q3]
  have m3 : ∀ k, k < 1461 → hI (sI S2 68 3 1) 70 k = hI S 69 k := fun k hk => by rw [hI_row (by decide), f2.i (by omega) hk, hI_row (by decide), f1.1 _ _ (by omega)]
  have x3 : ∀ r k, 9 ≤ r → r ≤ 15 → hI (sI S2 68 3 1) r k = hI S1 r k := fun r k q1 q2 => by rw [hI_row (by omega), f2.o (by omega), hI_row (by omega)]
  refine ⟨rfl, h.img (hs2.sI _ _ _) (fun r k q => r3 r k (by omega) (by omega) (by omega) (by omega)) (fun r k q => by rw [hR_sI, f2.2, hR_sI, f1.2.2.2.1 r k (by omega)]) ⟨?_, Or.inr ⟨hI_self _ _ _ _, ⟨n, hn.cp (fun k j hk hj => by rw [x3 _ _ (by omega) (by omega)]; exact f1.2.1 k j hk hj) (fun f hf => by rw [x3 _ _ (by omega) (by omega)]; exact f1.2.2.1 f hf) m3⟩, hw.cp (fun r k q => r3 r k (by omega) (by omega) (by omega) (by omega)) (fun r k q => by rw [hR_sI, f2.2, hR_sI, f1.2.2.2.1 r k (by omega)]) m3 (by rw [x3 _ _ (by omega) (by omega)]; exact f1.2.2.1 11 (by omega)) (fun k hk => by rw [hR_sI, f2.2, hR_sI]; exact f1.2.2.2.2 k hk)⟩⟩⟩
  rw [hI_self, hI_row (by decide), f2.o (by decide), hI_self]
theorem s_back {N : Nat} {ln : Nat → Nat} {S : HC} (h : PI N ln S) : wpX7_back ln S 0 fun v S => wpX8_back ln S 68 fun w S => OK N ln v w S := by
  obtain ⟨⟨hs, hl, hN1, hN2⟩, ⟨⟨n, hn⟩, hw⟩, ⟨hi1, hi2⟩, b3, b4, b5, b6, b7⟩ := id h
  unfold wpX7_back
  rw [lt_e, hi1]
  by_cases c : hI S 68 3 = 0
  · rw [if_pos c]
    unfold wpX8_back
    dsimp only
    rw [lt_e, if_pos c]
    exact ⟨rfl, h⟩
  obtain ⟨i1, ⟨n2, hn2⟩, hw2⟩ : hI S 68 3 = 1 ∧ (∃ n, LR S 9 70 n) ∧ LWR ln N S 9 70 := by
    rcases hi2 with q | q
    · exact absurd q c
    · exact q
  rw [if_neg c, sh0_0 hs, dn_e, sh0_1 hs, dn_e]
  refine p_become hs hl (Or.inl rfl) (Or.inr (Or.inl rfl)) (by omega) (fun S1 f1 => ?_)
  have hs1 : SH S1 := hs.lw (Or.inl rfl) f1.2.2.2.1
  rw [sh0_0 hs1, dn_e, lt_e, f1.2.2.1 6 (by omega), hn2.2.1]
  unfold wpX8_back
  dsimp only
  rw [lt_e, f1.1 68 3 (by omega), if_neg c, sh68_1 hs1, dn_e, sh68_0 hs1, dn_e]
  refine p_copyAll (ln70 hl) (ln69 hl) (by decide) (fun S2 f2 => ?_)
  have hs2 : SH S2 := f2.sh hs1
  have r3 : ∀ r k, r ≠ 69 → ¬ (1 ≤ r ∧ r ≤ 7) → hI S2 r k = hI S r k := fun r k q1 q2 => by rw [f2.o q1, f1.1 r k (by omega)]
  have m3 : ∀ k, k < 1461 → hI S2 69 k = hI S 70 k := fun k hk => by rw [f2.i (by omega) hk, f1.1 _ _ (by omega)]
  have rr : ∀ r k, r ≠ 8 → hR S2 r k = hR S r k := fun r k q => by rw [f2.2, f1.2.2.2.1 r k (by omega)]
  rw [sh68_0 hs2, dn_e, ln69 hl, al_l1 (by decide) (by decide), m3 1 (by decide), hn2.2.2.1]
  refine ⟨rfl, ⟨⟨hs2, hl, hN1, hN2⟩, ⟨⟨n2, hn2.cp (fun k j hk hj => by rw [f2.o (by omega)]; exact f1.2.1 k j hk hj) (fun f hf => by rw [f2.o (by omega)]; exact f1.2.2.1 f hf) m3⟩, hw2.cp (fun r k q => r3 r k (by omega) (by omega)) (fun r k q => rr r k (by omega)) m3 (by rw [f2.o (by omega)]; exact f1.2.2.1 11 (by omega)) (fun k hk => by rw [f2.2]; exact f1.2.2.2.2 k hk)⟩, h.2.2.1.ag (fun r k q => r3 r k (by omega) (by omega)) (fun r k q => rr r k (by omega)), b3.ag (fun r k q => r3 r k (by omega) (by omega)), b4.ag (fun r k q => r3 r k (by omega) (by omega)), b5.ag (fun r k q => r3 r k (by omega) (by omega)), b6.ag (fun r k q => r3 r k (by omega) (by omega)), b7.ag (fun r k q => r3 r k (by omega) (by omega))⟩⟩
-- 40.plaws.lean.txt
/-! steps: what a text says of itself; which one counts -/
def lastL (ks : Nat → Nat) (key : Nat) : Nat → Int32
  | 0 => -1
  | m + 1 => if ks m = key then nI m else lastL ks key m
theorem lastL_ok (ks : Nat → Nat) (key : Nat) : ∀ m, (lastL ks key m = -1) ∨ ∃ t, t < m ∧ ks t = key ∧ lastL ks key m = nI t := by
  intro m
  induction m with
  | zero => exact Or.inl rfl
  | succ m ih =>
    rw [lastL]
    by_cases e : ks m = key
    · rw [if_pos e]; exact Or.inr ⟨m, by omega, e, rfl⟩
    · rw [if_neg e]
      rcases ih with q | ⟨t, q1, q2, q3⟩
      · exact Or.inl q
      · exact Or.inr ⟨t, by omega, q2, q3⟩
/-- the key of the t-th text, by the reference's cells -/
def ksM (S : HC) (a t : Nat) : Nat := (hI S a (89 + 2 * t)).toInt.toNat / 1000
theorem LAW.ks {ln : Nat → Nat} {N : Nat} {S : HC} {q a t key c : Nat} (h : LAW ln N S q a t key c) : ksM S a t = key := by
  have hc := h.2.2.1.2.2
  have hk := h.2.2.2.1.1
  unfold ksM
  rw [h.2.2.2.2.1, nI_toInt (by omega)]
  omega
theorem sub1 (m : Nat) : nI (m + 1) - 1 = nI m := by
  rw [show (1 : Int32) = nI 1 from rfl, pk_sub (by omega), Nat.add_sub_cancel]
theorem addm1 (x : Int32) : x + (-1) = x - 1 := (Int32.sub_eq_add_neg x 1).symm
theorem z1n : nI 0 - 1 < 0 := by decide
theorem p_lastLaw {ln : Nat → Nat} {N : Nat} {S : HC} {b a m key : Nat} {post : Int32 → HC → Prop} (hs : SH S) (hl : LN ln) (hb : LB b) (hk : key < 3) (hm : m ≤ 14) (h11 : hI S b 11 = nI m) (hw : ∀ t, t < m → ∃ q key c, hR S (b + 7) t = some q ∧ LAW ln N S q a t key c) (h : post (lastL (ksM S a) key m) S) : wpX0_lastLaw ln S b (nI key) post := by
  have kk : ∀ i, i ≤ m → post (lastL (ksM S a) key i) S → LX0_lastLaw_12 ln post (i + 1) S b (nI key) (nI i - 1) := by
    intro i
    induction i with
    | zero =>
      intro hi hp
      rw [LX0_lastLaw_12]
      dsimp only
      rw [if_pos z1n]
      rw [lastL] at hp
      exact hp
    | succ i ih =>
      intro hi hp
      obtain ⟨q, key2, c, q1, q2⟩ := hw i (by omega)
      have hk2 := q2.2.2.2.1.1
      rw [LX0_lastLaw_12]
      dsimp only
      unfold BX0_lastLaw_40
      rw [sub1, if_neg (nI_pos (by omega)), lb_l hs hb, dn_e, lb_n7 hl hb, al_e (by omega) (by decide), q1, cO_s, dn_e, lb_n7 hl hb, al_e (by omega) (by decide), q1, dn_e, lt_e, lt_e, q2.2.2.2.1.2, addm1]
      rw [lastL, q2.ks] at hp
      by_cases e : key2 = key
      · rw [if_pos e] at hp
        rw [if_pos (by rw [e])]
        exact hp
      · rw [if_neg e] at hp
        rw [if_neg (fun u => e ((nI_eq (by omega) (by omega)).mp u))]
        exact ih (by omega) hp
  unfold wpX0_lastLaw
  rw [lt_e, h11, if_neg (show ¬ (14 : Int32) < nI m from nI_nlt (a := 14) hm (by omega)), lt_e, lt_e]
  exact ⟨m + 1, kk m (Nat.le_refl _) h⟩
theorem p_counts {ln : Nat → Nat} {N : Nat} {S : HC} {b m key : Nat} {post : Int32 → HC → Prop} (hs : SH S) (hl : LN ln) (hk : key < 3) (hm : m ≤ 14) (h4 : hI S 69 4 = nI m) (hw : ∀ t, t < m → ∃ q key c, hR S (b + 7) t = some q ∧ LAW ln N S q 69 t key c) (h : post (lastL (ksM S 69) key m) S) : wpX8_counts ln S 68 (nI key) post := by
  have kk : ∀ i, i ≤ m → post (lastL (ksM S 69) key i) S → LX8_counts_9 ln post (i + 1) S 68 (nI key) (nI i - 1) := by
    intro i
    induction i with
    | zero =>
      intro hi hp
      rw [LX8_counts_9]
      dsimp only
      rw [if_pos z1n]
      rw [lastL] at hp
      exact hp
    | succ i ih =>
      intro hi hp
      obtain ⟨q, key2, c, q1, q2⟩ := hw i (by omega)
      have hk2 := q2.2.2.2.1.1
      have hc := q2.2.2.1.2.2
      rw [LX8_counts_9]
      dsimp only
      rw [sub1, if_neg (nI_pos (by omega)), sh68_0 hs, dn_e]
      simp only [lt_e]
      rw [show (2 : Int32) * nI i = nI (2 * i) from pk_mul 2 i, show (89 : Int32) + nI (2 * i) = nI (89 + 2 * i) from nI_add 89 (2 * i), ln69 hl, al_e (by omega) (by decide), ne_e (by decide), q2.2.2.2.2.1, show nI (1000 * key2 + c) / (1000 : Int32) = nI ((1000 * key2 + c) / 1000) from pk_div (d := 1000) (by omega) (by decide) (by decide), show (1000 * key2 + c) / 1000 = key2 by omega, addm1]
      rw [lastL, q2.ks] at hp
      by_cases e : key2 = key
      · rw [if_pos e] at hp
        rw [if_pos (by rw [e])]
        exact hp
      · rw [if_neg e] at hp
        rw [if_neg (fun u => e ((nI_eq (by omega) (by omega)).mp u))]
        exact ih (by omega) hp
  unfold wpX8_counts
  rw [sh68_0 hs, dn_e, ln69 hl, al_l4 (by decide) (by decide), h4, lt_e]
  exact ⟨m + 1, kk m (Nat.le_refl _) h⟩
theorem s_why {N : Nat} {ln : Nat → Nat} {S : HC} (h : PI N ln S) (a1 : Int32) : wpX7_why ln S 0 a1 fun v S => wpX8_why ln S 68 a1 fun w S => OK N ln v w S := by
  obtain ⟨⟨hs, hl, -, -⟩, ⟨-, m, m1, m2, m3, m4⟩, -⟩ := id h
  unfold wpX7_why BX7_why_9
  by_cases c : 0 ≤ a1 ∧ a1 < 3
  · obtain ⟨key, hk, rfl⟩ := ge_of (n := 3) (by decide) c
    rw [if_neg (nI_pos (by omega)), if_pos c.2, sh0_0 hs, dn_e]
    refine p_lastLaw hs hl (Or.inl rfl) hk m1 m2 m4 ?_
    have mm : ∀ v, (if 0 ≤ lastL (ksM S 69) key m then v = lastL (ksM S 69) key m else v = -1000000005) → wpX8_why ln S 68 (nI key) fun w S => OK N ln v w S := fun v hv => by
      unfold wpX8_why
      rw [p_in, bI_t ⟨c.1, show nI key ≤ 2 from nI_le (b := 2) (by omega) (by decide)⟩, if_neg (by decide)]
      refine p_counts hs hl hk m1 m3 m4 ?_
      by_cases e : 0 ≤ lastL (ksM S 69) key m
      · rw [if_pos e] at hv ⊢; exact ⟨hv, h⟩
      · rw [if_neg e] at hv ⊢; exact ⟨hv, h⟩
    by_cases e : 0 ≤ lastL (ksM S 69) key m
    · rw [if_pos e]; exact mm _ (by rw [if_pos e])
    · rw [if_neg e]; exact mm _ (by rw [if_neg e])
  · have nn : wpX8_why ln S 68 a1 fun w S => OK N ln (-1000000001) w S := by
      unfold wpX8_why
      rw [p_in, bI_f (fun q => c ⟨q.1, Int32.lt_of_le_of_lt q.2 (by decide)⟩), if_pos rfl]
      exact ⟨rfl, h⟩
    by_cases e : a1 < 0
    · rw [if_pos e]; exact nn
    · rw [if_neg e, if_neg (fun q => c ⟨Int32.not_lt.mp e, q⟩)]; exact nn
theorem s_textTold {N : Nat} {ln : Nat → Nat} {S : HC} (h : PI N ln S) (a1 a2 : Int32) : wpX7_textTold ln S 0 a1 a2 fun v S => wpX8_textTold ln S 68 a1 a2 fun w S => OK N ln v w S := by
  obtain ⟨⟨hs, hl, -, -⟩, ⟨-, m, m1, m2, m3, m4⟩, -⟩ := id h
  unfold wpX7_textTold BX7_textTold_30
  have em : ∀ x : Int32, bI (0 ≤ x ∧ x ≤ nI m - 1) = bI (0 ≤ x ∧ x < nI m) := fun x => plE (by omega)
  have o1 : ∀ x : Int32, bI (0 ≤ x ∧ x ≤ 1) = bI (0 ≤ x ∧ x < 2) := fun x => rngE (n := 2) rfl 2 rfl
  have no : ¬ ((0 ≤ a1 ∧ a1 < nI m) ∧ (0 ≤ a2 ∧ a2 < 2)) → wpX8_textTold ln S 68 a1 a2 fun w S => OK N ln (-1000000001) w S := fun q => by
    unfold wpX8_textTold BX8_textTold_25
    rw [sh68_0 hs, dn_e, ln69 hl, al_l4 (by decide) (by decide), m3, lt_e, p_in, em]
    by_cases e : 0 ≤ a1 ∧ a1 < nI m
    · rw [bI_t e, if_neg (by decide), p_in, o1, bI_f (fun u => q ⟨e, u⟩), if_pos rfl]
      exact ⟨rfl, h⟩
    · rw [bI_f e, if_pos rfl]
      exact ⟨rfl, h⟩
  by_cases c1 : a1 < 0
  · rw [if_pos c1]; exact no (fun q => absurd c1 (Int32.not_lt.mpr q.1.1))
  rw [if_neg c1, sh0_0 hs, dn_e, lt_e, m2]
  by_cases c2 : nI m ≤ a1
  · rw [if_pos c2]; exact no (fun q => absurd c2 (Int32.not_le.mpr q.1.2))
  have c3 : 0 ≤ a1 ∧ a1 < nI m := ⟨Int32.not_lt.mp c1, Int32.not_le.mp c2⟩
  obtain ⟨t, ht, rfl⟩ := ge_of (n := m) (by omega) c3
  rw [if_neg c2, if_neg (show ¬ (14 : Int32) ≤ nI t from nI_ge (b := 14) (by omega) (by decide))]
  by_cases c4 : a2 < 0
  · rw [if_pos c4]; exact no (fun q => absurd c4 (Int32.not_lt.mpr q.2.1))
  rw [if_neg c4]
  by_cases c5 : a2 ≤ 1
  · obtain ⟨q, key, c, q1, q2⟩ := m4 t ht
    have hk2 := q2.2.2.2.1.1
    have hc := q2.2.2.1.2.2
    obtain ⟨s, hs2, rfl⟩ := nI_of2 (n := 1) (M := 1) (x := a2) rfl c4 c5
    rw [if_pos c5, dn_e, sh1_10 hs, dn_e, ln8 hl, al_e (by omega) (by decide), show hR S 8 t = some q from q1, cO_s, lt_e, lt_e]
    have b1 : bI (0 ≤ nI s ∧ nI s ≤ 1) = 1 := bI_t ⟨nI_pos' (by omega), c5⟩
    rcases (show s = 0 ∨ s = 1 by omega) with rfl | rfl
    · rw [if_pos (by decide), q2.2.2.2.1.2]
      unfold wpX8_textTold
      dsimp only
      rw [sh68_0 hs, dn_e, ln69 hl, al_l4 (by decide) (by decide), m3, lt_e, p_in, em, bI_t c3, if_neg (by decide), p_in, b1, if_neg (by decide), if_pos (by decide), sh68_0 hs, dn_e]
      simp only [lt_e]
      rw [show (2 : Int32) * nI t = nI (2 * t) from pk_mul 2 t, show (89 : Int32) + nI (2 * t) = nI (89 + 2 * t) from nI_add 89 (2 * t), ln69 hl, al_e (by omega) (by decide), ne_e (by decide), q2.2.2.2.2.1, show nI (1000 * key + c) / (1000 : Int32) = nI ((1000 * key + c) / 1000) from pk_div (d := 1000) (by omega) (by decide) (by decide), show (1000 * key + c) / 1000 = key by omega]
      exact ⟨rfl, h⟩
    · rw [if_neg (by decide)]
      unfold wpX8_textTold
      dsimp only
      rw [sh68_0 hs, dn_e, ln69 hl, al_l4 (by decide) (by decide), m3, lt_e, p_in, em, bI_t c3, if_neg (by decide), p_in, b1, if_neg (by decide), if_neg (by decide), sh68_0 hs, dn_e]
      simp only [lt_e]
      rw [show (2 : Int32) * nI t = nI (2 * t) from pk_mul 2 t, show (89 : Int32) + nI (2 * t) = nI (89 + 2 * t) from nI_add 89 (2 * t), nI_1, ln69 hl, al_e (by omega) (by decide), show 89 + 2 * t + 1 = 90 + 2 * t by omega, q2.2.2.2.2.2.1]
      exact ⟨rfl, h⟩
  · rw [if_neg c5]; exact no (fun q => c5 (by have := q.2.2; simp only [i_le, i_lt] at *; have : (2 : Int32).toInt = 2 := rfl; have : (1 : Int32).toInt = 1 := rfl; omega))
-- 41.pwork.lean.txt
/-! texts worked out: the same number on both sides -/
def lf3 (a b e c : Int32) : Int32 := if c = 10000 then a else if c = 10001 then b else if c = 10002 then e else c
def tw (c l r : Int32) : Int32 := if c = -8 then l * r else if c = -7 then l - r else if c = -6 then l + r else if c = -5 then (if l ≤ r then 0 else 1) else if c = -4 then (if l = r then 1 else 0) else if c = -3 then (if r ≤ l then 0 else 1) else if c = -2 then (if l = 0 then 0 else if r = 0 then 0 else 1) else if c = -1 then (if l = 0 then (if r = 0 then 0 else 1) else 1) else if r = 0 then 0 else l / r
theorem p_leaf {ln : Nat → Nat} {S : HC} {a b e c : Int32} {post : Int32 → HC → Prop} : wpX1_leaf ln S c a b e post = post (lf3 a b e c) S := by
  unfold wpX1_leaf lf3
  repeat' split
  all_goals rfl
theorem p_two {ln : Nat → Nat} {S : HC} {c l r : Int32} {post : Int32 → HC → Prop} : wpX8_two ln S c l r post = post (tw c l r) S := by
  unfold wpX8_two tw BX8_two_56 BX8_two_74
  simp only [lt_e]
  repeat' split
  all_goals first | rfl | (rw [ne_e (by assumption)])
theorem tr1 {x : Int32} (h : 0 ≤ trS x) : trS x = x := by
  unfold trS at *
  repeat' split at h
  all_goals first | exact absurd h (by decide) | skip
  simp_all
theorem tr2 {x : Int32} (hx : 0 ≤ x) (h : trS x = -10) : x = 20033 := by
  unfold trS at h
  repeat' split at h
  all_goals first | exact absurd h (by decide) | assumption | skip
  rw [h] at hx
  exact absurd hx (by decide)
theorem tr3 {ln : Nat → Nat} {x : Int32} (hx : 0 ≤ x) (h : ¬ 0 ≤ trS x) (h2 : ¬ trS x = -10) : ¬ x = 20033 ∧ 20000 ≤ x ∧ ∀ (S : HC) (l r : Int32) (post : Int32 → HC → Prop), wpX1_work ln S (x - 20000) l r post = post (tw (trS x) l r) S := by
  by_cases c1 : x = 20124
  · subst c1
    refine ⟨by decide, by decide, fun S l r post => ?_⟩
    rw [show (20124 : Int32) - 20000 = 124 by decide, show trS 20124 = -1 by decide]
    unfold wpX1_work tw BX1_work_84
    simp
    repeat' split
    all_goals rfl
  by_cases c2 : x = 20038
  · subst c2
    refine ⟨by decide, by decide, fun S l r post => ?_⟩
    rw [show (20038 : Int32) - 20000 = 38 by decide, show trS 20038 = -2 by decide]
    unfold wpX1_work tw BX1_work_102
    simp
    repeat' split
    all_goals rfl
  by_cases c3 : x = 20060
  · subst c3
    refine ⟨by decide, by decide, fun S l r post => ?_⟩
    rw [show (20060 : Int32) - 20000 = 60 by decide, show trS 20060 = -3 by decide]
    unfold wpX1_work tw
    simp
    repeat' split
    all_goals rfl
  by_cases c4 : x = 20061
  · subst c4
    refine ⟨by decide, by decide, fun S l r post => ?_⟩
    rw [show (20061 : Int32) - 20000 = 61 by decide, show trS 20061 = -4 by decide]
    unfold wpX1_work tw
    simp
    repeat' split
    all_goals rfl
  by_cases c5 : x = 20062
  · subst c5
    refine ⟨by decide, by decide, fun S l r post => ?_⟩
    rw [show (20062 : Int32) - 20000 = 62 by decide, show trS 20062 = -5 by decide]
    unfold wpX1_work tw
    simp
    repeat' split
    all_goals rfl
  by_cases c6 : x = 20043
  · subst c6
    refine ⟨by decide, by decide, fun S l r post => ?_⟩
    rw [show (20043 : Int32) - 20000 = 43 by decide, show trS 20043 = -6 by decide]
    unfold wpX1_work tw
    simp [lt_e]
  by_cases c7 : x = 20045
  · subst c7
    refine ⟨by decide, by decide, fun S l r post => ?_⟩
    rw [show (20045 : Int32) - 20000 = 45 by decide, show trS 20045 = -7 by decide]
    unfold wpX1_work tw
    simp [lt_e]
  by_cases c8 : x = 20042
  · subst c8
    refine ⟨by decide, by decide, fun S l r post => ?_⟩
    rw [show (20042 : Int32) - 20000 = 42 by decide, show trS 20042 = -8 by decide]
    unfold wpX1_work tw
    simp [lt_e]
  by_cases c9 : x = 20047
  · subst c9
    refine ⟨by decide, by decide, fun S l r post => ?_⟩
    rw [show (20047 : Int32) - 20000 = 47 by decide, show trS 20047 = -9 by decide]
    unfold wpX1_work tw
    simp [lt_e]
    split
    · rfl
    · rw [ne_e (by assumption)]
  by_cases c10 : x = 20033
  · subst c10
    exact absurd (by decide) h2
  · exfalso
    apply h
    unfold trS
    rw [if_neg c1, if_neg c2, if_neg c3, if_neg c4, if_neg c5, if_neg c6, if_neg c7, if_neg c8, if_neg c9, if_neg c10]
    exact hx
theorem wfS_c {d d2 : Nat} {c : Int32} (h : wfS d c = some d2) : (0 ≤ c ∧ c ≤ 10002 ∧ d2 = d + 1) ∨ (¬ 0 ≤ c ∧ c = -10 ∧ 1 ≤ d ∧ d2 = d) ∨ (¬ 0 ≤ c ∧ ¬ c = -10 ∧ 2 ≤ d ∧ d2 = d - 1) := by
  unfold wfS at h
  by_cases e1 : 0 ≤ c
  · rw [if_pos e1] at h
    by_cases e2 : c ≤ 10002
    · rw [if_pos e2] at h
      injection h with h
      exact Or.inl ⟨e1, e2, h.symm⟩
    · rw [if_neg e2] at h; exact absurd h (by simp)
  rw [if_neg e1] at h
  by_cases e2 : c = -10
  · rw [if_pos e2] at h
    by_cases e3 : 1 ≤ d
    · rw [if_pos e3] at h
      injection h with h
      exact Or.inr (Or.inl ⟨e1, e2, e3, h.symm⟩)
    · rw [if_neg e3] at h; exact absurd h (by simp)
  rw [if_neg e2] at h
  by_cases e4 : -9 ≤ c
  · rw [if_pos e4] at h
    by_cases e3 : 2 ≤ d
    · rw [if_pos e3] at h
      injection h with h
      exact Or.inr (Or.inr ⟨e1, e2, e3, h.symm⟩)
    · rw [if_neg e3] at h; exact absurd h (by simp)
  · rw [if_neg e4] at h; exact absurd h (by simp)
theorem wfC_s {f : Nat → Int32} {n i d d' : Nat} (h : wfC f (n + 1) i d = some d') : ∃ d2, wfS d (f i) = some d2 ∧ wfC f n (i + 1) d2 = some d' := by
  rw [wfC] at h
  cases e : wfS d (f i) with
  | none => rw [e] at h; exact absurd h (by simp)
  | some d2 => rw [e] at h; exact ⟨d2, rfl, h⟩
def upS (st : Nat → Int32) (d : Nat) (v : Int32) : Nat → Int32 := fun j => if j = d then v else st j
def evF (a b e : Int32) (cd : Nat → Int32) : Nat → Nat → (Nat → Int32) → Nat → (Nat → Int32)
  | 0, _, st, _ => st
  | n + 1, i, st, d => if 0 ≤ cd i then evF a b e cd n (i + 1) (upS st d (lf3 a b e (cd i))) (d + 1) else if cd i = -10 then evF a b e cd n (i + 1) (upS st (d - 1) (if st (d - 1) = 0 then 1 else 0)) d else evF a b e cd n (i + 1) (upS st (d - 2) (tw (cd i) (st (d - 2)) (st (d - 1)))) (d - 1)
theorem evF_ag {a b e : Int32} {cd : Nat → Int32} : ∀ (n i d d' : Nat) (st st' : Nat → Int32), wfC cd n i d = some d' → (∀ j, j < d → st j = st' j) → ∀ j, j < d' → evF a b e cd n i st d j = evF a b e cd n i st' d j := by
  intro n
  induction n with
  | zero =>
    intro i d d' st st' hw hs j hj
    rw [wfC] at hw
    injection hw with hw
    rw [evF, evF]
    exact hs j (by omega)
  | succ n ih =>
    intro i d d' st st' hw hs j hj
    obtain ⟨d2, w1, w2⟩ := wfC_s hw
    rw [evF, evF]
    rcases wfS_c w1 with ⟨c1, -, rfl⟩ | ⟨c1, c2, c3, rfl⟩ | ⟨c1, c2, c3, rfl⟩
    · rw [if_pos c1, if_pos c1]
      refine ih (i + 1) _ d' _ _ w2 (fun j hj => ?_) j hj
      unfold upS
      by_cases q : j = d
      · rw [if_pos q, if_pos q]
      · rw [if_neg q, if_neg q]; exact hs j (by omega)
    · rw [if_neg c1, if_neg c1, if_pos c2, if_pos c2]
      refine ih (i + 1) _ d' _ _ w2 (fun j hj => ?_) j hj
      unfold upS
      rw [hs (d2 - 1) (by omega)]
      by_cases q : j = d2 - 1
      · rw [if_pos q, if_pos q]
      · rw [if_neg q, if_neg q]; exact hs j hj
    · rw [if_neg c1, if_neg c1, if_neg c2, if_neg c2]
      refine ih (i + 1) _ d' _ _ w2 (fun j hj => ?_) j hj
      unfold upS
      rw [hs (d - 1) (by omega), hs (d - 2) (by omega)]
      by_cases q : j = d - 2
      · rw [if_pos q, if_pos q]
      · rw [if_neg q, if_neg q]; exact hs j (by omega)
def SX (r : Nat) (S S' : HC) (st : Nat → Int32) : Prop := (∀ j, hI S' r j = st j) ∧ (∀ q k, q ≠ r → hI S' q k = hI S q k) ∧ ∀ q k, hR S' q k = hR S q k
theorem SX.up {r : Nat} {S S' : HC} {st : Nat → Int32} (h : SX r S S' st) (d : Nat) (v : Int32) : SX r S (sI S' r d v) (upS st d v) := by
  refine ⟨fun j => ?_, fun q k u => by rw [hI_row u]; exact h.2.1 q k u, fun q k => h.2.2 q k⟩
  unfold upS
  by_cases e : j = d
  · rw [if_pos e, e, hI_self]
  · rw [if_neg e, hI_ne (by omega)]; exact h.1 j
theorem SX.sh {r : Nat} {S S' : HC} {st : Nat → Int32} (h : SX r S S' st) (hs : SH S) : SH S' := hs.of (fun _ _ => h.2.2 _ _)
theorem dsub1 {d : Nat} (h : 1 ≤ d) : nI d - 1 = nI (d - 1) := pk_sub (b := 1) h
theorem p_give {ln : Nat → Nat} {N : Nat} {S : HC} {q am t key c k : Nat} {a b e : Int32} {post : Int32 → HC → Prop} (hk : ln k = 96) (hk2 : k < 91) (hw : LAW ln N S q am t key c) (h : ∀ S', SX k S S' (evF a b e (fun i => hI S am (117 + 96 * t + i)) c 0 (hI S k) 0) → post (evF a b e (fun i => hI S am (117 + 96 * t + i)) c 0 (hI S k) 0 0) S') : wpX1_give ln S q a b e k post := by
  obtain ⟨⟨q1, q2⟩, q3, ⟨q4, q5, q6⟩, -, -, -, q9, q10, q11⟩ := hw
  generalize hcd : (fun i => hI S am (117 + 96 * t + i)) = cd at *
  have hcd' : ∀ i, hI S am (117 + 96 * t + i) = cd i := fun i => by rw [← hcd]
  have key : ∀ n i d st S', i + n = c → d ≤ i → (∃ d', wfC cd n i d = some d') → SX k S S' st → (∀ S', SX k S S' (evF a b e cd n i st d) → post (evF a b e cd n i st d 0) S') → LX1_give_6 ln post (n + 1) S' q a b e k (nI d) (nI i) := by
    intro n
    induction n with
    | zero =>
      intro i d st S' hi hd hf hx hp
      rw [LX1_give_6]
      dsimp only
      rw [hx.2.2, q3, dn_e, lt_e, q4, if_pos (nI_le (by omega) (by omega)), hk, al_l0 (by decide) (by decide), hx.1]
      rw [evF] at hp
      exact hp S' hx
    | succ n ih =>
      intro i d st S' hi hd ⟨d', hf⟩ hx hp
      obtain ⟨d2, w1, w2⟩ := wfC_s hf
      have et : trS (hI S (q - 1) i) = cd i := by rw [← q9 i (by omega), hcd']
      have e0 := (q11 i (by omega)).1
      rw [evF] at hp
      rw [LX1_give_6]
      dsimp only
      unfold BX1_give_95 BX1_give_136
      rw [hx.2.2, q3, dn_e, lt_e, q4, if_neg (nI_ge (by omega) (by omega)), dn_e, q4, al_e (by omega) (by omega), hx.2.1 (q - 1) i (by omega)]
      rcases wfS_c w1 with ⟨c1, c2, rfl⟩ | ⟨c1, c2, c3, rfl⟩ | ⟨c1, c2, c3, rfl⟩
      · rw [← et] at c1 c2
        have ex := tr1 c1
        have ex2 : hI S (q - 1) i = cd i := by rw [← ex, et]
        rw [ex] at c2
        rw [ex2, if_neg (show ¬ (20000 : Int32) ≤ cd i by rw [← ex2]; intro u; exact absurd (Int32.le_trans u c2) (by decide)), lt_e, hk, if_neg (nI_ge (by omega) (by decide)), p_leaf, as_e (by omega) (by decide), lt_e, lt_e, nI_1, nI_1]
        rw [et] at c1
        rw [if_pos c1] at hp
        exact ih (i + 1) (d + 1) _ _ (by omega) (by omega) ⟨d', w2⟩ (hx.up d _) hp
      · rw [← et] at c2
        have ex := tr2 e0 c2
        rw [et] at c2
        rw [if_neg c1, if_pos c2] at hp
        rw [ex, if_pos (by decide), if_pos rfl, if_neg (show ¬ nI d2 < 1 from nI_nlt (b := 1) c3 (by omega))]
        simp only [lt_e]
        rw [dsub1 c3, hk, al_e (by omega) (by decide), hx.1, nI_1]
        by_cases z : st (d2 - 1) = 0
        · rw [if_pos z] at hp
          rw [if_pos z, as_e (by omega) (by decide)]
          exact ih (i + 1) d2 _ _ (by omega) (by omega) ⟨d', w2⟩ (hx.up _ _) hp
        · rw [if_neg z] at hp
          rw [if_neg z, as_e (by omega) (by decide)]
          exact ih (i + 1) d2 _ _ (by omega) (by omega) ⟨d', w2⟩ (hx.up _ _) hp
      · rw [if_neg c1, if_neg c2] at hp
        obtain ⟨x1, x2, x3⟩ := tr3 (ln := ln) e0 (by rw [et]; exact c1) (by rw [et]; exact c2)
        rw [if_pos x2, if_neg x1, if_neg (show ¬ nI d < 2 from nI_nlt (b := 2) c3 (by omega))]
        simp only [lt_e]
        rw [addm1, dsub1 (by omega), dsub1 (show 1 ≤ d - 1 by omega), show d - 1 - 1 = d - 2 by omega, hk, al_e (by omega) (by decide), al_e (by omega) (by decide), x3, et, hx.1, hx.1, as_e (by omega) (by decide), nI_1]
        exact ih (i + 1) (d - 1) _ _ (by omega) (by omega) ⟨d', w2⟩ (hx.up _ _) hp
  exact ⟨c + 1, key c 0 0 (hI S k) S (by omega) (Nat.le_refl _) ⟨1, q10⟩ ⟨fun _ => rfl, fun _ _ _ => rfl, fun _ _ => rfl⟩ h⟩
-- 42.pfee.lean.txt
/-! steps: fee, fine -/
theorem p_worksOut {ln : Nat → Nat} {N : Nat} {S : HC} {q t key c : Nat} {a b e : Int32} {post : Int32 → HC → Prop} (hs : SH S) (hl : LN ln) (ht : t < 14) (hw : LAW ln N S q 69 t key c) (f0 : hI S 81 0 = a) (f1 : hI S 81 1 = b) (f2 : key = 0 → hI S 81 2 = e) (h : ∀ S', SX 80 S S' (evF a b e (fun i => hI S 69 (117 + 96 * t + i)) c 0 (hI S 80) 0) → post (evF a b e (fun i => hI S 69 (117 + 96 * t + i)) c 0 (hI S 80) 0 0) S') : wpX8_worksOut ln S 68 (nI t) post := by
  obtain ⟨⟨q1, q2⟩, q3, ⟨q4, q5, q6⟩, ⟨q7, -⟩, q8, -, q9, q10, q11⟩ := hw
  generalize hcd : (fun i => hI S 69 (117 + 96 * t + i)) = cd at *
  have hcd' : ∀ i, hI S 69 (117 + 96 * t + i) = cd i := fun i => by rw [← hcd]
  have kk : ∀ n i d st S', i + n = c → d ≤ i → (∃ d', wfC cd n i d = some d') → SX 80 S S' st → (∀ S', SX 80 S S' (evF a b e cd n i st d) → post (evF a b e cd n i st d 0) S') → LX8_worksOut_21 ln post (n + 1) S' 68 (nI t) (nI d) (nI c) (nI i) := by
    intro n
    induction n with
    | zero =>
      intro i d st S' hi hd hf hx hp
      rw [LX8_worksOut_21]
      dsimp only
      rw [if_pos (nI_le (by omega) (by omega)), sh68_22 (hx.sh hs), dn_e, ln80 hl, al_l0 (by decide) (by decide), hx.1]
      rw [evF] at hp
      exact hp S' hx
    | succ n ih =>
      intro i d st S' hi hd ⟨d', hf⟩ hx hp
      have hs' := hx.sh hs
      obtain ⟨d2, w1, w2⟩ := wfC_s hf
      rw [evF] at hp
      rw [LX8_worksOut_21]
      dsimp only
      unfold BX8_worksOut_115 BX8_worksOut_78 BX8_worksOut_149
      rw [if_neg (nI_ge (by omega) (by omega)), sh68_0 hs', dn_e]
      simp only [lt_e, sh68_22 hs', sh68_23 hs', dn_e, ln80 hl, ln81 hl]
      rw [show (96 : Int32) * nI t = nI (96 * t) from pk_mul 96 t, show (117 : Int32) + nI (96 * t) = nI (117 + 96 * t) from nI_add 117 (96 * t), nI_add, ln69 hl, al_e (by omega) (by decide), hx.2.1 69 _ (by decide), hcd', nI_1, nI_1]
      rcases wfS_c w1 with ⟨c1, c2, rfl⟩ | ⟨c1, c2, c3, rfl⟩ | ⟨c1, c2, c3, rfl⟩
      · rw [if_pos c1] at hp
        rw [if_neg (Int32.not_lt.mpr c1)]
        by_cases g : 10000 ≤ cd i
        · rw [if_pos g]
          have g2 : cd i = 10000 ∨ cd i = 10001 ∨ cd i = 10002 := by
            simp only [i_le, i_eq] at g c2 ⊢
            have : (10000 : Int32).toInt = 10000 := rfl
            have : (10001 : Int32).toInt = 10001 := rfl
            have : (10002 : Int32).toInt = 10002 := rfl
            omega
          have lv : hI S' 81 ((cd i).toInt.toNat - 10000) = lf3 a b e (cd i) ∧ cd i - 10000 = nI ((cd i).toInt.toNat - 10000) ∧ (cd i).toInt.toNat - 10000 < 4 := by
            rcases g2 with g2 | g2 | g2
            · rw [g2]; exact ⟨by rw [hx.2.1 81 _ (by decide)]; exact f0, by decide, by decide⟩
            · rw [g2]; exact ⟨by rw [hx.2.1 81 _ (by decide)]; exact f1, by decide, by decide⟩
            · have u := (q11 i (by omega)).2
              rw [hcd', g2] at u
              have k0 : key = 0 := by
                rcases Nat.eq_zero_or_pos key with k0 | k0
                · exact k0
                · exact absurd (u k0) (by decide)
              rw [g2]
              exact ⟨by rw [hx.2.1 81 _ (by decide)]; exact f2 k0, by decide, by decide⟩
          rw [lv.2.1, al_e lv.2.2 (by decide), lv.1, as_e (by omega) (by decide)]
          exact ih (i + 1) (d + 1) _ _ (by omega) (by omega) ⟨d', w2⟩ (hx.up d _) hp
        · have g3 : lf3 a b e (cd i) = cd i := by
            unfold lf3
            rw [if_neg (fun u => g (by rw [u]; decide)), if_neg (fun u => g (by rw [u]; decide)), if_neg (fun u => g (by rw [u]; decide))]
          rw [if_neg g, as_e (by omega) (by decide)]
          rw [g3] at hp
          exact ih (i + 1) (d + 1) _ _ (by omega) (by omega) ⟨d', w2⟩ (hx.up d _) hp
      · rw [if_neg c1, if_pos c2] at hp
        rw [if_pos (Int32.not_le.mp c1), if_pos c2, dsub1 c3, al_e (by omega) (by decide), hx.1]
        by_cases z : st (d2 - 1) = 0
        · rw [if_pos z] at hp
          rw [if_pos z, as_e (by omega) (by decide)]
          exact ih (i + 1) d2 _ _ (by omega) (by omega) ⟨d', w2⟩ (hx.up _ _) hp
        · rw [if_neg z] at hp
          rw [if_neg z, as_e (by omega) (by decide)]
          exact ih (i + 1) d2 _ _ (by omega) (by omega) ⟨d', w2⟩ (hx.up _ _) hp
      · rw [if_neg c1, if_neg c2] at hp
        rw [if_pos (Int32.not_le.mp c1), if_neg c2, addm1, dsub1 (by omega), dsub1 (show 1 ≤ d - 1 by omega), show d - 1 - 1 = d - 2 by omega, al_e (by omega) (by decide), al_e (by omega) (by decide), p_two, hx.1, hx.1, as_e (by omega) (by decide)]
        exact ih (i + 1) (d - 1) _ _ (by omega) (by omega) ⟨d', w2⟩ (hx.up _ _) hp
  unfold wpX8_worksOut
  rw [sh68_0 hs, dn_e]
  simp only [lt_e]
  rw [show (2 : Int32) * nI t = nI (2 * t) from pk_mul 2 t, show (89 : Int32) + nI (2 * t) = nI (89 + 2 * t) from nI_add 89 (2 * t), ln69 hl, al_e (by omega) (by decide), ne_e (by decide), q8, show (1000 : Int32) = nI 1000 from rfl, rem_e (by omega) (by decide) (by decide), show (1000 * key + c) % 1000 = c by omega]
  exact ⟨c + 1, kk c 0 0 (hI S 80) S (by omega) (Nat.le_refl _) ⟨1, q10⟩ ⟨fun _ => rfl, fun _ _ _ => rfl, fun _ _ => rfl⟩ h⟩
theorem s_fee {N : Nat} {ln : Nat → Nat} {S : HC} (h : PI N ln S) : wpX7_fee ln S 0 fun v S => wpX8_fee ln S 68 fun w S => OK N ln v w S := by
  obtain ⟨⟨hs, hl, -, -⟩, ⟨⟨n, hn⟩, m, m1, m2, m3, m4⟩, -⟩ := id h
  unfold wpX7_fee wpX0_lawFor
  rw [sh0_0 hs, dn_e]
  refine p_lastLaw (key := 1) hs hl (Or.inl rfl) (by decide) m1 m2 m4 ?_
  rcases lastL_ok (ksM S 69) 1 m with e | ⟨t, t1, t2, t3⟩
  · rw [e, if_neg (by decide)]
    dsimp only
    rw [cO_n, sh0_0 hs, dn_e, lt_e, hn.2.1]
    unfold wpX8_fee
    dsimp only
    refine p_counts (key := 1) hs hl (by decide) m1 m3 m4 ?_
    rw [e, sh68_23 hs, dn_e, sh68_0 hs, dn_e, ln69 hl, al_l2 (by decide) (by decide), ln81 hl, as_l0 (by decide) (by decide), sh68_23 (hs.sI _ _ _), dn_e, sh68_0 (hs.sI _ _ _), dn_e, ln69 hl, al_l1 (by decide) (by decide), ln81 hl, as_l1 (by decide) (by decide), if_neg (by decide), sh68_0 ((hs.sI _ _ _).sI _ _ _), dn_e, ln69 hl, al_l1 (by decide) (by decide), hI_row (by decide), hI_row (by decide), hn.2.2.1]
    exact ⟨rfl, h.sm (((Sm.rf _).sI (by unfold sc; omega)).sI (by unfold sc; omega))⟩
  · obtain ⟨q, key, c, q1, q2⟩ := m4 t t1
    have ek : key = 1 := by rw [← q2.ks, t2]
    subst ek
    rw [t3, if_pos (nI_pos' (by omega)), sh1_10 hs, dn_e, ln8 hl, al_e (by omega) (by decide), show hR S 8 t = some q from q1]
    dsimp only
    rw [cO_s, sh0_0 hs, dn_e, lt_e, dn_e, lt_e, sh0_10 hs, dn_e]
    refine p_give (ln44 hl) (by decide) q2 (fun S1 x1 => ?_)
    have hs1 := x1.sh hs
    have o1 : ∀ r k, r ≠ 44 → hI S1 r k = hI S r k := x1.2.1
    unfold wpX8_fee
    dsimp only
    have hw1 : ∀ t, t < m → ∃ q key c, hR S1 (1 + 7) t = some q ∧ LAW ln N S1 q 69 t key c := fun t ht => by
      obtain ⟨q, key, c, q1, q2⟩ := m4 t ht
      exact ⟨q, key, c, by rw [x1.2.2]; exact q1, q2.ag (fun r k u => o1 r k (by omega)) (fun r k _ => x1.2.2 r k) (fun k _ => o1 _ _ (by decide))⟩
    have ksE : ksM S1 69 = ksM S 69 := by funext t; unfold ksM; rw [o1 _ _ (by decide)]
    refine p_counts (key := 1) hs1 hl (by decide) m1 (by rw [o1 _ _ (by decide)]; exact m3) hw1 ?_
    rw [ksE, t3, sh68_23 hs1, dn_e, sh68_0 hs1, dn_e, ln69 hl, al_l2 (by decide) (by decide), ln81 hl, as_l0 (by decide) (by decide), sh68_23 (hs1.sI _ _ _), dn_e, sh68_0 (hs1.sI _ _ _), dn_e, ln69 hl, al_l1 (by decide) (by decide), ln81 hl, as_l1 (by decide) (by decide), if_pos (nI_pos' (by omega))]
    have q3 : LAW ln N (sI (sI S1 81 0 (hI S1 69 2)) 81 1 (hI (sI S1 81 0 (hI S1 69 2)) 69 1)) q 69 t 1 c := q2.ag (fun r k u => by rw [hI_row (by omega), hI_row (by omega), o1 r k (by omega)]) (fun r k _ => x1.2.2 r k) (fun k _ => by rw [hI_row (by decide), hI_row (by decide), o1 _ _ (by decide)])
    refine p_worksOut (a := hI S 1 8) (b := hI S 1 6) (e := 0) ((hs1.sI _ _ _).sI _ _ _) hl (by omega) q3 ?_ ?_ (by omega) (fun S3 x3 => ⟨?_, ?_⟩)
    · rw [hI_ne (by decide), hI_self, o1 _ _ (by decide)]; exact hn.2.2.2.2.2.2.1.1.symm
    · rw [hI_self, hI_row (by decide), o1 _ _ (by decide), hn.2.2.1, hn.2.1]
    · have ec : (fun i => hI (sI (sI S1 81 0 (hI S1 69 2)) 81 1 (hI (sI S1 81 0 (hI S1 69 2)) 69 1)) 69 (117 + 96 * t + i)) = fun i => hI S 69 (117 + 96 * t + i) := by
        funext i; rw [hI_row (by decide), hI_row (by decide), o1 _ _ (by decide)]
      rw [ec]
      exact evF_ag c 0 0 1 _ _ q2.2.2.2.2.2.2.2.1 (fun j hj => absurd hj (by omega)) 0 (by decide)
    · refine h.sm ⟨fun r k u => ?_, fun r k _ _ _ => by rw [x3.2.2, hR_sI, hR_sI, x1.2.2]⟩
      unfold sc at u
      rw [x3.2.1 _ _ (by omega), hI_row (by omega), hI_row (by omega), o1 _ _ (by omega)]
-- 43.pfine.lean.txt
/-! step: fine -/
def us (x s : Int32) : Int32 := (x.toUInt32 >>> (s.toUInt32 &&& Int32.toUInt32 31)).toInt32
def bc1 (a : Int32) : Int32 := a - (us a 1 &&& 1431655765)
def bc2 (a : Int32) : Int32 := (a &&& 858993459) + (us a 2 &&& 858993459)
def bc3 (a : Int32) : Int32 := a + us a 4 &&& 252645135
def bc4 (a : Int32) : Int32 := a + us a 8
def bc5 (a : Int32) : Int32 := a + us a 16 &&& 63
def pcN (b : Nat) : Nat → Nat
  | 0 => 0
  | i + 1 => pcN b i + b / 2 ^ i % 2
theorem bc_e : ∀ b : Fin 256, bc5 (bc4 (bc3 (bc2 (bc1 (nI b.val))))) = nI (pcN b.val 8) := by decide +kernel
theorem p_bitCount {ln : Nat → Nat} {S : HC} {b : Nat} {post : Int32 → HC → Prop} (hb : b < 256) : wpJ6_bitCount_0f7a4 ln S (nI b) post = post (nI (pcN b 8)) S := by
  rw [← bc_e ⟨b, hb⟩]
  unfold wpJ6_bitCount_0f7a4 bc5 bc4 bc3 bc2 bc1 us
  simp only [lt_e]
theorem pcN_le (b : Nat) : ∀ i, pcN b i ≤ i := by
  intro i
  induction i with
  | zero => exact Nat.le_refl _
  | succ i ih => rw [pcN]; omega
theorem sh8 : ∀ i : Fin 8, ((nI i.val &&& 31).toBitVec.smod 32).toNat = i.val := by decide
theorem p_mfine {ln : Nat → Nat} {S : HC} {j b : Nat} {x2 : Int32} {post : Int32 → HC → Prop} (hs : SH S) (hl : LN ln) (hj : j < 14) (hb : b < 256) (h5 : mf S 69 5 j = nI b) (h : (if 0 ≤ x2 then wpX8_worksOut ln (sI (sI S 81 0 (mf S 69 4 j)) 81 1 (nI (pcN b 8))) 68 x2 fun z4 S => post z4 S else post (mf S 69 4 j) (sI (sI S 81 0 (mf S 69 4 j)) 81 1 (nI (pcN b 8))))) : ∃ n, LX8_fine_22 ln post n S 68 (nI j) x2 0 0 := by
  have kk : ∀ m i, i + m = 8 → LX8_fine_22 ln post (m + 1) S 68 (nI j) x2 (nI (pcN b i)) (nI i) := by
    intro m
    induction m with
    | zero =>
      intro i hi
      have e : i = 8 := by omega
      subst e
      rw [LX8_fine_22]
      dsimp only
      rw [if_pos (by decide), sh68_23 hs, dn_e, p_of4 hs hl (by omega), ln81 hl, as_l0 (by decide) (by decide), sh68_23 (hs.sI _ _ _), dn_e, ln81 hl, as_l1 (by decide) (by decide), p_of4 ((hs.sI _ _ _).sI _ _ _) hl (by omega)]
      have e4 : mf (sI (sI S 81 0 (mf S 69 4 j)) 81 1 (nI (pcN b 8))) 69 4 j = mf S 69 4 j := by
        unfold mf; rw [hI_row (by decide), hI_row (by decide)]
      rw [e4]
      exact h
    | succ m ih =>
      intro i hi
      rw [LX8_fine_22]
      dsimp only
      rw [if_neg (show ¬ (8 : Int32) ≤ nI i from nI_ge (b := 8) (by omega) (by decide)), p_of5 hs hl (by omega), h5]
      simp only [lt_e]
      rw [pk_shrN (by omega) _ i (sh8 ⟨i, by omega⟩), pk_andN (Nat.lt_of_le_of_lt (Nat.div_le_self _ _) (by omega)) 1 (by decide), nI_add, nI_1]
      exact ih (i + 1) (by omega)
  exact ⟨9, kk 8 0 (by omega)⟩
theorem s_fine {N : Nat} {ln : Nat → Nat} {S : HC} (h : PI N ln S) (a1 : Int32) : wpX7_fine ln S 0 a1 fun v S => wpX8_fine ln S 68 a1 fun w S => OK N ln v w S := by
  obtain ⟨⟨hs, hl, -, -⟩, ⟨⟨n, hn⟩, m, m1, m2, m3, m4⟩, -⟩ := id h
  have h14 := hn.1
  unfold wpX7_fine wpX0_lawFor
  rw [sh0_0 hs, dn_e, p_has]
  rcases i_in a1 n (by omega) with ⟨j, hj, rfl⟩ | hx
  · rw [hasT hn.2.1 h14 hj, if_neg (by decide), sh0_0 hs, dn_e]
    obtain ⟨b, hb, eb⟩ := hn.2.2.2.2.1.bar hj
    have e4 : hI S 6 j = mf S 69 4 j := hn.2.2.2.1 4 (by decide) j hj
    have e5 : hI S 7 j = nI b := (hn.2.2.2.1 5 (by decide) j hj).trans eb
    refine p_lastLaw (key := 2) hs hl (Or.inl rfl) (by decide) m1 m2 m4 ?_
    rcases lastL_ok (ksM S 69) 2 m with e | ⟨t, t1, t2, t3⟩
    · rw [e, if_neg (by decide)]
      dsimp only
      rw [cO_n, sh0_0 hs, dn_e, sh1_4 hs, dn_e, ln6 hl, al_e (by omega) (by decide), e4]
      unfold wpX8_fine
      dsimp only
      rw [p_isOne hs hl, oneT hn.2.2.1 h14 hj, if_neg (by decide)]
      refine p_counts (key := 2) hs hl (by decide) m1 m3 m4 ?_
      rw [e]
      refine p_mfine hs hl (by omega) hb eb ?_
      rw [if_neg (by decide)]
      exact ⟨rfl, h.sm (((Sm.rf _).sI (by unfold sc; omega)).sI (by unfold sc; omega))⟩
    · obtain ⟨q, key, c, q1, q2⟩ := m4 t t1
      have ek : key = 2 := by rw [← q2.ks, t2]
      subst ek
      rw [t3, if_pos (nI_pos' (by omega)), sh1_10 hs, dn_e, ln8 hl, al_e (by omega) (by decide), show hR S 8 t = some q from q1]
      dsimp only
      rw [cO_s, sh0_0 hs, dn_e, sh1_4 hs, dn_e, ln6 hl, al_e (by omega) (by decide), dn_e, sh1_5 hs, dn_e, ln7 hl, al_e (by omega) (by decide), e4, e5, p_bitCount hb, sh0_10 hs, dn_e]
      refine p_give (ln44 hl) (by decide) q2 (fun S1 x1 => ?_)
      have hs1 := x1.sh hs
      have o1 : ∀ r k, r ≠ 44 → hI S1 r k = hI S r k := x1.2.1
      have o2 : ∀ k j, mf S1 69 k j = mf S 69 k j := fun k j => o1 _ _ (by decide)
      unfold wpX8_fine
      dsimp only
      rw [p_isOne hs1 hl, oneT (n := n) (by rw [o1 _ _ (by decide)]; exact hn.2.2.1) h14 hj, if_neg (by decide)]
      have hw1 : ∀ t, t < m → ∃ q key c, hR S1 (1 + 7) t = some q ∧ LAW ln N S1 q 69 t key c := fun t ht => by
        obtain ⟨q, key, c, q1, q2⟩ := m4 t ht
        exact ⟨q, key, c, by rw [x1.2.2]; exact q1, q2.ag (fun r k u => o1 r k (by omega)) (fun r k _ => x1.2.2 r k) (fun k _ => o1 _ _ (by decide))⟩
      have ksE : ksM S1 69 = ksM S 69 := by funext t; unfold ksM; rw [o1 _ _ (by decide)]
      refine p_counts (key := 2) hs1 hl (by decide) m1 (by rw [o1 _ _ (by decide)]; exact m3) hw1 ?_
      rw [ksE, t3]
      refine p_mfine hs1 hl (by omega) hb (by rw [o2]; exact eb) ?_
      rw [if_pos (nI_pos' (by omega)), o2]
      have q3 : LAW ln N (sI (sI S1 81 0 (mf S 69 4 j)) 81 1 (nI (pcN b 8))) q 69 t 2 c := q2.ag (fun r k u => by rw [hI_row (by omega), hI_row (by omega), o1 r k (by omega)]) (fun r k _ => x1.2.2 r k) (fun k _ => by rw [hI_row (by decide), hI_row (by decide), o1 _ _ (by decide)])
      refine p_worksOut (a := mf S 69 4 j) (b := nI (pcN b 8)) (e := 0) ((hs1.sI _ _ _).sI _ _ _) hl (by omega) q3 ?_ ?_ (by omega) (fun S3 x3 => ⟨?_, ?_⟩)
      · rw [hI_ne (by decide), hI_self]
      · rw [hI_self]
      · have ec : (fun i => hI (sI (sI S1 81 0 (mf S 69 4 j)) 81 1 (nI (pcN b 8))) 69 (117 + 96 * t + i)) = fun i => hI S 69 (117 + 96 * t + i) := by
          funext i; rw [hI_row (by decide), hI_row (by decide), o1 _ _ (by decide)]
        rw [ec]
        exact evF_ag c 0 0 1 _ _ q2.2.2.2.2.2.2.2.1 (fun j hj => absurd hj (by omega)) 0 (by decide)
      · refine h.sm ⟨fun r k u => ?_, fun r k _ _ _ => by rw [x3.2.2, hR_sI, hR_sI, x1.2.2]⟩
        unfold sc at u
        rw [x3.2.1 _ _ (by omega), hI_row (by omega), hI_row (by omega), o1 _ _ (by omega)]
  · rw [hasF hn.2.1 hx, if_pos rfl]
    unfold wpX8_fine
    dsimp only
    rw [p_isOne hs hl, oneF hn.2.2.1 h14 hx, if_pos rfl]
    exact ⟨rfl, h⟩
