/-- the store behind the constructors -/
def mS0 : mSt := upR (sX12_init (upR (sX11_init (upR (fun _ _ => 0) 0)) 253)) 275
