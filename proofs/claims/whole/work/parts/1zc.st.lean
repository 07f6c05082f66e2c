/-- the state of both systems when they are new -/
def st0 : ST := (fun i => if i = 3119 then -1 else 0, 0, fun _ _ => 0)
