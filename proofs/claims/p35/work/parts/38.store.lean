/-! the class side of store -/
def mS0 : mSt := sX11_init (upR (fun _ _ => 0) 0)
