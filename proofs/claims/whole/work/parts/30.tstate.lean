/-! ===== the state as a mathematical value =====
a known address: its net, its MAC, its place (a station's number, or an endpoint's), its age;
a station: its endpoint, its net, its MAC, how many frames came, the latest of them;
the state: endpoints, stations, what each endpoint knows, ways, packets sent, tape, flight, counts -/
abbrev Kn : Type := Nat × Nat × (Nat ⊕ Nat) × Nat
abbrev Sta : Type := Nat × Nat × Nat × Nat × List (List Nat)
abbrev TS : Type := Nat × List Sta × (Nat → List Kn) × (Nat → Nat → Nat) × (Nat → Nat) × List Nat × List (List Nat × Nat) × (Nat → Nat)
def tN (T : TS) : Nat := T.1
def tS (T : TS) : List Sta := T.2.1
def tK (T : TS) : Nat → List Kn := T.2.2.1
def tW (T : TS) : Nat → Nat → Nat := T.2.2.2.1
def tQ (T : TS) : Nat → Nat := T.2.2.2.2.1
def tT (T : TS) : List Nat := T.2.2.2.2.2.1
def tF (T : TS) : List (List Nat × Nat) := T.2.2.2.2.2.2.1
def tC (T : TS) : Nat → Nat := T.2.2.2.2.2.2.2
def mkT (n : Nat) (s : List Sta) (k : Nat → List Kn) (w : Nat → Nat → Nat) (q : Nat → Nat) (t : List Nat) (f : List (List Nat × Nat)) (c : Nat → Nat) : TS := (n, s, k, w, q, t, f, c)
def uS (T : TS) (s : List Sta) : TS := mkT (tN T) s (tK T) (tW T) (tQ T) (tT T) (tF T) (tC T)
def uK (T : TS) (e : Nat) (l : List Kn) : TS := mkT (tN T) (tS T) (va_up (tK T) e l) (tW T) (tQ T) (tT T) (tF T) (tC T)
def uW (T : TS) (e t w : Nat) : TS := mkT (tN T) (tS T) (tK T) (va_up (tW T) e (va_up (tW T e) t w)) (tQ T) (tT T) (tF T) (tC T)
def uQ (T : TS) (e : Nat) : TS := mkT (tN T) (tS T) (tK T) (tW T) (va_up (tQ T) e (tQ T e + 1)) (tT T) (tF T) (tC T)
def uT (T : TS) (t : List Nat) : TS := mkT (tN T) (tS T) (tK T) (tW T) (tQ T) t (tF T) (tC T)
def uF (T : TS) (f : List (List Nat × Nat)) : TS := mkT (tN T) (tS T) (tK T) (tW T) (tQ T) (tT T) f (tC T)
def uC (T : TS) (k : Nat) : TS := mkT (tN T) (tS T) (tK T) (tW T) (tQ T) (tT T) (tF T) (va_up (tC T) k (tC T k + 1))
/-- begin -/
def t_begin (T : TS) (n : Nat) : TS := mkT n [] (fun _ => []) (fun _ _ => 0) (fun _ => 0) (tT T) [] (fun _ => 0)
/-- has: is there a station of the net at the endpoint? -/
def t_has (T : TS) (e net : Nat) : Bool := (tS T).any (fun s => decide (s.1 = e ∧ s.2.1 = net))
def isK (net mac : Nat) (k : Kn) : Bool := decide (k.1 = net ∧ k.2.1 = mac)
def fnd (l : List Kn) (net mac : Nat) : Option Nat := l.findIdx? (isK net mac)
def kAge (l : List Kn) (i : Nat) : Nat := ((l[i]?).map (fun k => k.2.2.2)).getD 0
def kPl (l : List Kn) (i : Nat) : Nat ⊕ Nat := ((l[i]?).map (fun k => k.2.2.1)).getD (Sum.inl 0)
/-- the first of the oldest among the first j + 1 -/
def om (l : List Kn) : Nat → Nat
  | 0 => 0
  | j + 1 => if kAge l (om l j) < kAge l (j + 1) then j + 1 else om l j
/-- learn -/
def t_learn (T : TS) (e net mac : Nat) (pl : Nat ⊕ Nat) : TS :=
  match fnd (tK T e) net mac with
  | some k => if kPl (tK T e) k = pl then uK T e ((tK T e).set k (net, mac, pl, 0)) else uC (uK T e ((tK T e).eraseIdx k ++ [(net, mac, pl, 0)])) 11
  | none => if (tK T e).length = 24 then uC (uC (uK T e ((tK T e).eraseIdx (om (tK T e) 23) ++ [(net, mac, pl, 0)])) 12) 11 else uC (uK T e (tK T e ++ [(net, mac, pl, 0)])) 11
/-- a frame comes to a station -/
def come (b : List Nat) (s : Sta) : Sta := (s.1, s.2.1, s.2.2.1, s.2.2.2.1 + 1, (b :: s.2.2.2.2).take 6)
def isTh (e net : Nat) (but : Option Nat) (i : Nat) (s : Sta) : Bool := decide (some i ≠ but ∧ s.1 = e ∧ s.2.1 = net)
def t_all (T : TS) (e net : Nat) (but : Option Nat) (b : List Nat) : TS := uS T ((tS T).mapIdx (fun i s => if isTh e net but i s then come b s else s))
def t_one (T : TS) (e st : Nat) (b : List Nat) : TS := match (tS T)[st]? with
  | some s => if s.1 = e then uS T ((tS T).set st (come b s)) else T
  | none => T
/-- the packet -/
def mixB (b : List Nat) : Nat → Nat
  | 0 => 0
  | k + 1 => (31 * mixB b k + gb b k) % 4294967296
def headIp (size num fol src dst : Nat) : List Nat := [69] ++ [0] ++ be size 2 ++ be num 2 ++ be 16384 2 ++ [64] ++ [fol] ++ be 0 2 ++ be (167772161 + src) 4 ++ be (167772161 + dst) 4
def set2 (l : List Nat) (j v : Nat) : List Nat := (l.set j (v / 256)).set (j + 1) (v % 256)
def ipOf (size num fol src dst : Nat) : List Nat := set2 (headIp size num fol src dst) 10 (csum (sl (headIp size num fol src dst)))
def midUdp (size net mix : Nat) : List Nat := be (49152 + mix % 16384) 2 ++ be 4789 2 ++ be size 2 ++ be 0 2 ++ [8] ++ be 0 3 ++ be net 3 ++ [0]
def midGre (net mix : Nat) : List Nat := be 8192 2 ++ be 25944 2 ++ be net 3 ++ [mix % 256]
def midSum (net mix : Nat) : List Nat := be 40960 2 ++ be 25944 2 ++ be 0 4 ++ be net 3 ++ [mix % 256]
def pkt (way num src dst net : Nat) (b : List Nat) : List Nat :=
  if way = 0 then ipOf (36 + b.length) num 17 src dst ++ midUdp (16 + b.length) net (mixB b 12) ++ b
  else if way = 2 then set2 (ipOf (32 + b.length) num 47 src dst ++ midSum net (mixB b 12) ++ b) 24 (csum (sl ((ipOf (32 + b.length) num 47 src dst ++ midSum net (mixB b 12) ++ b).drop 20)))
  else ipOf (28 + b.length) num 47 src dst ++ midGre net (mixB b 12) ++ b
/-- a packet goes out -/
def t_go (T : TS) (e dst net : Nat) (b : List Nat) : TS :=
  let p := pkt (tW T e dst) (tQ T e) e dst net b
  let T1 := uC (uQ T e) 0
  if (tF T).length = 50 then uC (uF T1 ((tF T).eraseIdx 0 ++ [(p, dst)])) 10 else uF T1 (tF T ++ [(p, dst)])
/-- to each other endpoint below j that has the net -/
def t_goAll (T : TS) (e net : Nat) (b : List Nat) : Nat → TS
  | 0 => T
  | j + 1 => if j ≠ e ∧ t_has T j net = true then t_go (t_goAll T e net b j) e j net b else t_goAll T e net b j
def t_goN (T : TS) (e net : Nat) : Nat → Nat
  | 0 => 0
  | j + 1 => if j ≠ e ∧ t_has T j net = true then t_goN T e net j + 1 else t_goN T e net j
def isGrp (mac : Nat) : Bool := decide (mac / 1099511627776 % 2 = 1)
/-- where a MAC is: none: all of the net are meant -/
def whr (l : List Kn) (net mac : Nat) : Option (Nat ⊕ Nat) := if isGrp mac then none else (fnd l net mac).map (kPl l)
def frmOf (dst src type : Nat) (t : List Nat) : List Nat := be dst 6 ++ be src 6 ++ be type 2 ++ t
def t_send (T : TS) (st dst type : Nat) (s : Sta) : Nat × TS :=
  let b := frmOf dst s.2.2.1 type (tT T)
  let T1 := t_learn (uT T []) s.1 s.2.1 s.2.2.1 (Sum.inl st)
  match whr (tK T1 s.1) s.2.1 dst with
  | none => (t_goN T1 s.1 s.2.1 (tN T), t_goAll (t_all T1 s.1 s.2.1 (some st) b) s.1 s.2.1 b (tN T))
  | some (Sum.inr e) => (1, t_go T1 s.1 e s.2.1 b)
  | some (Sum.inl k) => (0, if k = st then T1 else t_one T1 s.1 k b)
/-- what comes is looked at -/
def fst (p : List Nat) : Nat := if gb p 9 = 17 then 36 else if pr2 p 20 = 40960 then 32 else 28
def okUdp (p : List Nat) : Bool := decide (pr2 p 24 = p.length - 20 ∧ pr2 p 22 = 4789 ∧ pr2 p 26 = 0 ∧ gb p 28 / 8 % 2 = 1)
def okGre (p : List Nat) : Bool := decide (pr2 p 22 = 25944 ∧ (pr2 p 20 = 8192 ∨ (pr2 p 20 = 40960 ∧ csum (sl (p.drop 20)) = 0)))
def carries (p : List Nat) : Bool := decide (fst p + 14 ≤ p.length) && (if gb p 9 = 17 then okUdp p else decide (gb p 9 = 47) && okGre p)
def fault (p : List Nat) (e : Nat) : Nat :=
  if p.length < 20 ∨ gb p 0 ≠ 69 ∨ pr2 p 2 ≠ p.length then 1
  else if csum (sl (p.take 20)) ≠ 0 then 2
  else if nb p 16 4 ≠ 167772161 + e then 3
  else if pr2 p 6 ≠ 16384 ∧ pr2 p 6 ≠ 0 then 4
  else if carries p then 0 else 5
def netP (p : List Nat) : Nat := nb p (fst p - 4) 3
def srcP (p : List Nat) : Nat := nb p 12 4
def dstM (p : List Nat) : Nat := nb p (fst p) 6
def srcM (p : List Nat) : Nat := nb p (fst p + 6) 6
def misfit (T : TS) (p : List Nat) (e : Nat) : Nat :=
  if t_has T e (netP p) = false then 6
  else if ¬ (167772161 ≤ srcP p ∧ srcP p < 167772161 + tN T) ∨ srcP p = 167772161 + e ∨ t_has T (srcP p - 167772161) (netP p) = false then 7
  else if isGrp (srcM p) then 8 else 0
def t_let (T : TS) (p : List Nat) (e : Nat) : Nat × TS :=
  let T1 := t_learn T e (netP p) (srcM p) (Sum.inr (srcP p - 167772161))
  match whr (tK T1 e) (netP p) (dstM p) with
  | none => (0, t_all T1 e (netP p) none (p.drop (fst p)))
  | some (Sum.inr _) => (9, T1)
  | some (Sum.inl k) => (0, t_one T1 e k (p.drop (fst p)))
def t_arr (T : TS) (p : List Nat) (e : Nat) : Nat × TS :=
  if fault p e ≠ 0 then (fault p e, uC T (fault p e))
  else if misfit T p e ≠ 0 then (misfit T p e, uC T (misfit T p e))
  else if (t_let T p e).1 ≠ 0 then ((t_let T p e).1, uC (t_let T p e).2 (t_let T p e).1) else t_let T p e
/-- tick: an endpoint's known grow older -/
def older (t : Nat) (l : List Kn) : List Kn := (l.map (fun k => (k.1, k.2.1, k.2.2.1, k.2.2.2 + t))).filter (fun k => decide (k.2.2.2 ≤ 300))
def t_tick (T : TS) (t : Nat) : Nat → TS
  | 0 => T
  | j + 1 => uK (t_tick T t j) j (older t (tK T j))
def t_tickN (T : TS) (t : Nat) : Nat → Nat
  | 0 => 0
  | j + 1 => t_tickN T t j + ((tK T j).length - (older t (tK T j)).length)
/-- what holds of every state; N: no more frames came to a station -/
def Okk (n : Nat) (e ns : Nat) (k : Kn) : Prop := k.1 < 16777216 ∧ k.2.1 < 281474976710656 ∧ k.2.2.2 ≤ 300 ∧ (match k.2.2.1 with | Sum.inl s => s < ns | Sum.inr d => d < n ∧ d ≠ e)
def Oks (n N : Nat) (s : Sta) : Prop := s.1 < n ∧ s.2.1 < 16777216 ∧ s.2.2.1 < 281474976710656 ∧ s.2.2.2.1 ≤ N ∧ s.2.2.2.2.length = min 6 s.2.2.2.1 ∧ ∀ b ∈ s.2.2.2.2, By b ∧ b.length ≤ 120
def OkT (T : TS) (N : Nat) : Prop := (2 ≤ tN T ∧ tN T ≤ 8) ∧ ((tS T).length ≤ 32 ∧ ∀ s ∈ tS T, Oks (tN T) N s) ∧ (∀ e, e < 8 → (tK T e).length ≤ 24 ∧ (∀ k ∈ tK T e, Okk (tN T) e (tS T).length k) ∧ (tN T ≤ e → tK T e = [])) ∧ (∀ e d, tW T e d ≤ 2) ∧ (By (tT T) ∧ (tT T).length ≤ 120) ∧ ((tF T).length ≤ 50 ∧ ∀ f ∈ tF T, By f.1 ∧ f.1.length ≤ 120 ∧ f.2 < tN T)
