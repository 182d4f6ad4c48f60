/-! the constructors: what they leave -/
noncomputable def c_L_law : Nat → Option dI := d_mcode m_L_law
def b00 : List Int := [104, 111, 108, 100, 115, 32, 116, 117, 114, 110, 115, 32, 42, 32, 52, 32, 43, 32, 115, 107, 105, 108, 108, 32, 59, 32, 108, 101, 97, 114, 110, 115, 32, 49, 32, 59, 32, 114, 101, 97, 100, 115, 32, 115, 107, 105, 108, 108, 32, 59, 32, 32, 32, 32, 32, 32]
def cellC : List (Int × Int × Int) := [(1, 0, 0), (1, 1, 0), (1, 2, 0), (1, 3, 0), (0, 3, 0), (58, 1, 1), (88, 1, 0)]
  ++ (List.range 5).flatMap (fun l : Nat => [(2, (l : Int), 0), (3, (l : Int), 0), (4, (l : Int), 0)])
  ++ (List.range 6).flatMap (fun f : Nat => [(5, (f : Int), 10), (6, (f : Int), -1), (8 + 2 * (f : Int), 1, 0)])
  ++ (List.range 4).flatMap (fun s : Nat => [(99 + 2 * (s : Int), 1, -1), (99 + 2 * (s : Int), 2, 0)])
  ++ [(64, 3, ((pC (rd b00)).length : Int)), (67, 0, ((en b00 0 : Nat) : Int)), (67, 1, ((en b00 1 : Nat) : Int)), (67, 2, ((en b00 2 : Nat) : Int))]
  ++ (List.range (pC (rd b00)).length).flatMap (fun i : Nat => [(65, (i : Int), ((pC (rd b00)).getD i (0, 0)).1), (66, (i : Int), ((pC (rd b00)).getD i (0, 0)).2)])
def cellR : List (Int × Int × Int) := [(107, 7, 0), (107, 8, 0), (107, 4, 0), (107, 12, 0), (107, 38, -1), (107, 3, 1), (107, 6, 0), (109, 0, 56)]
  ++ (List.range 15).map (fun l : Nat => (111, (l : Int), 0))
  ++ (List.range 6).flatMap (fun f : Nat => [(112, ((3 * f : Nat) : Int), 10), (112, ((3 * f + 1 : Nat) : Int), -1), (112, ((3 * f + 2 : Nat) : Int), 0)])
  ++ (List.range 56).map (fun i : Nat => (108, (i : Int), b00.getD i 0))
  ++ (List.range 4).map (fun s : Nat => (121, (s : Int), 0))
def x00 : dC := (0, [(2, 1000001), (3, 0), (3, 0), (3, 0)], [], ([], M00))
def FL : List (Int × Int × Int) := cellR ++ (SKL.filter (fun q => decide (107 ≤ q.1)) ++ (cellC ++ SKL.filter (fun q => decide (q.1 < 107))))
def IT (x : dC) : Bool := x.1 == 18 && x.2.1 == [(2, 1000001), (2, 0), (2, 107), (0, 0)] && x.2.2.1 == [] && x.2.2.2.1 == K0
def FT0 (a n : Nat) (x : dC) : Bool := ((FL.drop a).take n).all (fun q => x.2.2.2.2 q.1 q.2.1 == q.2.2)
noncomputable def iGo : Option dC := d_go sc0 (d_call d_P sc0 4000 60) c_L_law 10 x00
def oT (f : dC → Bool) (o : Option dC) : Bool := match o with
  | some x => f x
  | none => false
