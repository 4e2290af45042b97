/-! the spec in the middle: what a look at a volume finds -/
/-- where a cluster begins -/
def pl (G : Geo) (x : Nat) : Nat := 512 * (G.a + (x - 2) * G.c)
/-- where slot s of a directory with the chain l lies -/
def sa (G : Geo) (l : List Nat) (s : Nat) : Nat := pl G (l.getD (s / (16 * G.c)) 0) + 32 * (s % (16 * G.c))
abbrev shOK (d : Nat → Nat) (p : Nat) (lab : Prop) [Decidable lab] : Prop := d p ≠ 32 ∧ ∀ i, i < 11 → d (p + i) ≠ 32 → sgn (d (p + i)) ∧ (lab ∨ i = 0 ∨ i = 8 ∨ d (p + i - 1) ≠ 32)
def smS (d : Nat → Nat) (p : Nat) : Nat → Nat
  | 0 => 0
  | i + 1 => (smS d p i % 2 * 128 + smS d p i / 2 + d (p + i)) % 256
/-- where unit q of a part lies -/
def plc (q : Nat) : Nat := if q < 5 then 1 + 2 * q else if q < 11 then 4 + 2 * q else 6 + 2 * q
/-- unit u of the parts before slot s -/
def nU (d A : Nat → Nat) (s u : Nat) : Nat := tw d (A (s - 1 - u / 13) + plc (u % 13))
/-- the short name as shown -/
def shw (d : Nat → Nat) (p : Nat) : Nat → List Nat
  | 0 => []
  | q + 1 => shw d p q ++ ((if q = 8 ∧ d (p + 8) ≠ 32 then [46] else []) ++ (if d (p + q) = 32 then [] else [d (p + q)]))
/-- the first place from q on where f is 0, at most m further -/
def zl (f : Nat → Nat) : Nat → Nat → Nat
  | 0, q => q
  | m + 1, q => if f q = 0 then q else zl f m (q + 1)
/-- the name of the entry in slot s with np parts -/
def nm (d A : Nat → Nat) (s np : Nat) : List Nat := if np = 0 then shw d (A s) 11 else (List.range (zl (nU d A s) (13 * np) 0)).map (nU d A s)
def cap (x : Nat) : Nat := if 97 ≤ x ∧ x ≤ 122 then x - 32 else x
abbrev alk (a b : List Nat) : Prop := a.map cap = b.map cap
abbrev uok (x : Nat) : Prop := 32 ≤ x ∧ x ≠ 127 ∧ (x < 55296 ∨ 57343 < x) ∧ x ≤ 65533 ∧ x ∉ sNat.getD 1 []
abbrev nmOK (l : List Nat) : Prop := 1 ≤ l.length ∧ l.length ≤ 255 ∧ (∀ x, x ∈ l → uok x) ∧ l.getD (l.length - 1) 0 ≠ 32 ∧ l.getD (l.length - 1) 0 ≠ 46
/-- the units behind a name fill np parts -/
abbrev flOK (d A : Nat → Nat) (s np : Nat) : Prop := ((nm d A s np).length + 12) / 13 = np ∧ ∀ i, i < 13 * np → (nm d A s np).length < i → nU d A s i = 65535
abbrev ptOK (d A : Nat → Nat) (s np sum : Nat) : Prop := np ≤ 20 ∧ ∀ i, i < np → d (A (s - 1 - i)) = (if i + 1 = np then i + 1 + 64 else i + 1) ∧ d (A (s - 1 - i) + 12) = 0 ∧ d (A (s - 1 - i) + 13) = sum ∧ tw d (A (s - 1 - i) + 26) = 0
abbrev isDr (d : Nat → Nat) (p : Nat) : Prop := d (p + 11) / 16 % 2 = 1
abbrev isP (d A : Nat → Nat) (z s : Nat) : Prop := z ≤ s ∧ d (A s) ≠ 0 ∧ d (A s) ≠ 229 ∧ d (A s + 11) % 64 = 15
abbrev isE (d A : Nat → Nat) (z s : Nat) : Prop := z ≤ s ∧ d (A s) ≠ 0 ∧ d (A s) ≠ 229 ∧ d (A s + 11) % 64 ≠ 15 ∧ d (A s + 11) / 8 % 2 = 0
abbrev isL (d A : Nat → Nat) (z s : Nat) : Prop := z ≤ s ∧ d (A s) ≠ 0 ∧ d (A s) ≠ 229 ∧ d (A s + 11) % 64 ≠ 15 ∧ d (A s + 11) / 8 % 2 = 1
/-- the parts directly before slot s -/
def rn (d A : Nat → Nat) (z : Nat) : Nat → Nat
  | 0 => 0
  | s + 1 => if isP d A z s then rn d A z s + 1 else 0
/-- the items before slot s: slot and parts -/
def itm (d A : Nat → Nat) (z : Nat) : Nat → List (Nat × Nat)
  | 0 => []
  | s + 1 => if isE d A z s then itm d A z s ++ [(s, rn d A z s)] else itm d A z s
def lbl (d A : Nat → Nat) (z : Nat) : Nat → Nat
  | 0 => 0
  | s + 1 => if isL d A z s then lbl d A z s + 1 else lbl d A z s
/-- what an entry must be, twins aside -/
abbrev e4 (d A : Nat → Nat) (s np : Nat) : Prop := d (A s + 11) ≤ 63 ∧ timesOK d (A s) ∧ shOK d (A s) False ∧ (isDr d (A s) → fo d (A s + 28) = 0) ∧ ptOK d A s np (smS d (A s) 11) ∧ nmOK (nm d A s np) ∧ (0 < np → flOK d A s np)
abbrev l4 (d A : Nat → Nat) (z s : Nat) : Prop := d (A s + 11) ≤ 63 ∧ timesOK d (A s) ∧ shOK d (A s) True ∧ ¬ isDr d (A s) ∧ fcl d (A s) = 0 ∧ fo d (A s + 28) = 0 ∧ rn d A z s = 0 ∧ z = 0 ∧ lbl d A z s = 0
abbrev sm11 (d : Nat → Nat) (p q : Nat) : Prop := ∀ i, i < 11 → d (p + i) = d (q + i)
abbrev twn (d A : Nat → Nat) (s np : Nat) (e : Nat × Nat) : Prop := sm11 d (A s) (A e.1) ∨ alk (nm d A s np) (nm d A e.1 e.2)
/-- the fault in slot s, chains aside -/
noncomputable def lf (d A : Nat → Nat) (z s : Nat) : Nat :=
  haveI : ∀ p, Decidable p := Classical.propDecidable
  if d (A s) = 229 then (if rn d A z s = 0 then 0 else 4)
  else if isE d A z s then (if e4 d A s (rn d A z s) then (if ∃ e, e ∈ itm d A z s ∧ twn d A s (rn d A z s) e then 5 else 0) else 4)
  else if isL d A z s then (if l4 d A z s then 0 else 4)
  else 0
/-- the clusters that so many bytes want -/
def cls (G : Geo) (n : Nat) : Nat := (n + 512 * G.c - 1) / (512 * G.c)
/-- the chain of a file's entry at p -/
def fch (G : Geo) (d : Nat → Nat) (ms : List Nat) (p : Nat) : Option (List Nat) :=
  if fo d (p + 28) = 0 then (if fcl d p = 0 then some [] else none)
  else if fo d (p + 28) < 2147483648 then (match chS G d (G.k + 1) ms (fcl d p) with
    | none => none
    | some l => if l.length = cls G (fo d (p + 28)) then some l else none)
  else none
/-- the slots from s on, m of them: the fault, and what is claimed then -/
noncomputable def scn (G : Geo) (d A : Nat → Nat) (z : Nat) : Nat → Nat → List Nat → Nat × List Nat
  | 0, s, ms => (if 0 < rn d A z s then 4 else 0, ms)
  | m + 1, s, ms =>
    if d (A s) = 0 then (if 0 < rn d A z s then 4 else 0, ms)
    else if lf d A z s ≠ 0 then (lf d A z s, ms)
    else if isE d A z s ∧ ¬ isDr d (A s) then (match fch G d ms (A s) with
      | none => (3, ms)
      | some l => scn G d A z m (s + 1) (l ++ ms))
    else scn G d A z m (s + 1) ms
/-- the slot that ends the look: the first whose first byte is 0 -/
def en (d A : Nat → Nat) (m s : Nat) : Nat := zl (fun t => d (A t)) m s
abbrev pts (d : Nat → Nat) (p s f : Nat) : Prop := (∀ i, i < 11 → d (p + i) = if i ≤ s then 46 else 32) ∧ d (p + 11) = 16 ∧ fcl d p = f
def zf (G : Geo) (f : Nat) : Nat := if f = G.r then 0 else 2
def pz (G : Geo) (f : Nat) : Nat := if f = G.r then 0 else f
def sbs (d A : Nat → Nat) (its : List (Nat × Nat)) : List Nat := (its.filter (fun e => decide (isDr d (A e.1)))).map (fun e => fcl d (A e.1))
/-- one directory, its chain l claimed: the fault, what is claimed then, the directories in it -/
noncomputable def dirF (G : Geo) (d : Nat → Nat) (l ms : List Nat) (f p : Nat) : Nat × List Nat × List Nat :=
  if zf G f = 2 ∧ ¬ (pts d (sa G l 0) 0 f ∧ pts d (sa G l 1) 1 p) then (4, ms, [])
  else ((scn G d (sa G l) (zf G f) (l.length * (16 * G.c) - zf G f) (zf G f) ms).1, (scn G d (sa G l) (zf G f) (l.length * (16 * G.c) - zf G f) (zf G f) ms).2, sbs d (sa G l) (itm d (sa G l) (zf G f) (en d (sa G l) (l.length * (16 * G.c)) 0)))
noncomputable def bfs (G : Geo) (d : Nat → Nat) : Nat → List (Nat × Nat) → List Nat → Nat × List Nat
  | 0, _, ms => (3, ms)
  | _ + 1, [], ms => (0, ms)
  | n + 1, (f, p) :: Q, ms => match chS G d (G.k + 1) ms f with
    | none => (3, ms)
    | some l => if (dirF G d l (l ++ ms) f p).1 ≠ 0 then ((dirF G d l (l ++ ms) f p).1, (dirF G d l (l ++ ms) f p).2.1)
      else bfs G d n (Q ++ (dirF G d l (l ++ ms) f p).2.2.map (fun x => (x, pz G f))) (dirF G d l (l ++ ms) f p).2.1
abbrev lst (G : Geo) (d : Nat → Nat) (ms : List Nat) : Prop := ∃ x, x < G.k + 2 ∧ 2 ≤ x ∧ ent G d x ≠ 0 ∧ x ∉ ms
/-- the first fault of a disk -/
noncomputable def fltS (n : Nat) (d : Nat → Nat) : Nat :=
  if ¬ headOK n d then 1 else if ¬ tabOK (geoOf n d) d then 2
  else if (bfs (geoOf n d) d ((geoOf n d).k + 2) [((geoOf n d).r, 0)] []).1 ≠ 0 then (bfs (geoOf n d) d ((geoOf n d).k + 2) [((geoOf n d).r, 0)] []).1
  else if lst (geoOf n d) d (bfs (geoOf n d) d ((geoOf n d).k + 2) [((geoOf n d).r, 0)] []).2 then 6 else 0
